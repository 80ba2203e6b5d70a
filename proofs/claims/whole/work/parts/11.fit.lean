/-! Fitting: all ways in which tenants have rooms as the book has it -/
theorem tb0 (x r : Nat) : ((x >>> r) &&& 1 = 0) ↔ x.testBit r = false := by
  unfold Nat.testBit
  rw [Nat.and_comm]
  simp
theorem tb1 (x r : Nat) : (¬ (x >>> r) &&& 1 = 0) ↔ x.testBit r = true := by
  rw [tb0]
  simp
theorem ndiff_tb (a b r : Nat) : (ndiff a b).testBit r = (a.testBit r && !b.testBit r) := by
  unfold ndiff
  rw [Nat.testBit_xor, Nat.testBit_and]
  cases a.testBit r <;> cases b.testBit r <;> rfl
theorem popc_or : ∀ k, k < 64 → ∀ r, r < 6 → (k >>> r) &&& 1 = 0 → popc (k ||| 2 ^ r) = popc k + 1 := by decide +kernel
theorem ndiff_free {o k r : Nat} (h : ¬ (ndiff o k >>> r) &&& 1 = 0) : (k >>> r) &&& 1 = 0 := by
  rw [tb1, ndiff_tb] at h
  rw [tb0]
  cases hk : k.testBit r
  · rfl
  · rw [hk] at h
    simp at h
def wyo (wy : Nat → Int) (o k n : Nat) : Int := sumI (fun r => if (ndiff o k >>> r) &&& 1 = 0 then 0 else wy (k ||| 2 ^ r)) n
def god (wy : Nat → Int) (o k n : Nat) : Nat := bits (fun r => decide (¬ (ndiff o k >>> r) &&& 1 = 0 ∧ 0 < wy (k ||| 2 ^ r))) n
theorem god_lt64 (wy : Nat → Int) (o k n : Nat) (h : n ≤ 6) : god wy o k n < 64 := bits_lt64 _ _ h
def fbt (g : Nat) : Nat → Nat → Int
  | 0, _ => -9
  | n + 1, r => if (g >>> r) &&& 1 = 0 then fbt g n (r + 1) else (r : Int)
theorem fbt_s (g n r : Nat) : fbt g (n + 1) r = if (g >>> r) &&& 1 = 0 then fbt g n (r + 1) else (r : Int) := rfl
theorem fbt_in (g : Nat) : ∀ n r, -9 ≤ fbt g n r ∧ fbt g n r < ((r + n : Nat) : Int) ∧ (fbt g n r < 0 → fbt g n r = -9)
  | 0, r => ⟨by show (-9 : Int) ≤ -9; omega, by show (-9 : Int) < _; omega, fun _ => rfl⟩
  | n + 1, r => by
    have ih := fbt_in g n (r + 1)
    rw [fbt_s]
    split
    · exact ⟨ih.1, by omega, ih.2.2⟩
    · exact ⟨by omega, by omega, fun h => by omega⟩
/-- his first room where those of k are taken -/
def ffm (wy : Nat → Int) (op : Nat → Nat) (fr t k : Nat) : Int := fbt (god wy (op t) k fr) fr 0
theorem ffm_in (wy : Nat → Int) (op : Nat → Nat) (fr t k : Nat) : -9 ≤ ffm wy op fr t k ∧ ffm wy op fr t k < (fr : Int) ∧ (ffm wy op fr t k < 0 → ffm wy op fr t k = -9) := by
  have h := fbt_in (god wy (op t) k fr) fr 0
  rw [Nat.zero_add] at h
  exact h
def frm (wy : Nat → Int) (op : Nat → Nat) (fr : Nat) : Nat → Nat → Nat → Int
  | 0, i, k => ffm wy op fr i k
  | n + 1, i, k => if ffm wy op fr i k = -9 then -9 else frm wy op fr n (i + 1) (k ||| 2 ^ (ffm wy op fr i k).toNat)
theorem frm_s (wy : Nat → Int) (op : Nat → Nat) (fr n i k : Nat) : frm wy op fr (n + 1) i k = if ffm wy op fr i k = -9 then -9 else frm wy op fr n (i + 1) (k ||| 2 ^ (ffm wy op fr i k).toNat) := rfl
def smr (wy rc : Nat → Int) (op : Nat → Nat) (fr t n : Nat) : Nat := ors (fun k => if rc k = 0 ∨ ¬ popc k = t then 0 else god wy (op t) k fr) n
theorem smr_lt64 (wy rc : Nat → Int) (op : Nat → Nat) (fr t n : Nat) (h : fr ≤ 6) : smr wy rc op fr t n < 64 := ors_lt64 _ (fun k => by have := god_lt64 wy (op t) k fr h; split <;> omega) n
/-- what is reached behind k, rooms below n -/
def rcf (rc : Nat → Int) (o k : Nat) : Nat → Nat → Int
  | 0 => rc
  | n + 1 => if (ndiff o k >>> n) &&& 1 = 0 then rcf rc o k n else va_up (rcf rc o k n) (k ||| 2 ^ n) 1
theorem rcf_01 {rc : Nat → Int} (h : ∀ j, rc j = 0 ∨ rc j = 1) (o k : Nat) : ∀ n j, rcf rc o k n j = 0 ∨ rcf rc o k n j = 1
  | 0, j => h j
  | n + 1, j => by
    have ih := rcf_01 h o k n j
    unfold rcf
    split
    · exact ih
    · unfold va_up
      split
      · exact Or.inr rfl
      · exact ih
abbrev rm_X1_waysOn : Room := { frames := 0, cells := 0, slots := 0, locals := 0 }
set_option maxHeartbeats 4000000 in
set_option maxRecDepth 100000 in
theorem c_X1_waysOn (l : Launch) (D : va_G) (cy : Nat → ClassId) (fa : Nat → Nat) (wy : Nat → Int) (rc : Nat → Int) (op : Nat → Nat) (fr : Nat) (t : Nat) (k : Nat) (ht0 : t < 6) (htk : k < 2 ^ fr) (hfr : fr ≤ 6) (hop : ∀ i, op i < 64) (hwy : ∀ k, 0 ≤ wy k ∧ wy k ≤ 100000) : Met l yX1_waysOn wsX1_waysOn rm_X1_waysOn (pR D cy [((fa 0), .inr (1, [.ref (fa 1), .ref (fa 2), .ref (fa 3), .int (zI ((fr : Nat) : Int))])), ((fa 1), .inl (cy 0, 64, .inl (zA wy))), ((fa 2), .inl (cy 1, 64, .inl (zA rc))), ((fa 3), .inl (cy 0, 6, .inl (zA (fun j => ((op j : Nat) : Int)))))] [.ref (fa 0), .int (zI ((t : Nat) : Int)), .int (zI ((k : Nat) : Int))]) (qR (wyo wy (op t) k fr)) 0 0 (fun _ => False) := by
  refine met_R (cc := cX1_waysOn) (maxL := 5) (ret := (some .int)) RX1 (by decide) rfl rfl (Nat.le_of_ble_eq_true rfl) ?_
  intro p e s m args below meth c ls Q hx hb hr hml hts hown hlocks hQ hP hK hl
  have hl : lv_has ls 5 [(0, .ref (fa 0)), (1, .int (zI ((t : Nat) : Int))), (2, .int (zI ((k : Nat) : Int)))] := hl
  have hinX1 : ∀ w ∈ wsX10, w ∈ wsX1_waysOn := (fun w h => List.mem_cons_of_mem _ (List.mem_append_right _ h))
  have hpw := pow_le64 fr (by omega)
  have hopt := hop t
  refine lv_iconst (v := zI 0) hx hb dX1_waysOn_0 rfl ?_
  refine lv_istore_n (lv' := [(3, .int (zI 0)), (0, .ref (fa 0)), (1, .int (zI ((t : Nat) : Int))), (2, .int (zI ((k : Nat) : Int)))]) hx hb dX1_waysOn_1 rfl hl (by decide) rfl (fun ls hl => ?_)
  refine lv_iconst (v := zI 0) hx hb dX1_waysOn_2 rfl ?_
  refine lv_istore (lv' := [(4, .int (zI 0)), (3, .int (zI 0)), (0, .ref (fa 0)), (1, .int (zI ((t : Nat) : Int))), (2, .int (zI ((k : Nat) : Int)))]) hx hb dX1_waysOn_3 hl (by decide) rfl (fun ls hl => ?_)
  have loop5 : ∀ (n9 : Nat) (i : Nat), fr - i < n9 → (i ≤ fr) → ∀ (x5_3 : Int), x5_3 = (wyo wy (op t) k i) → ∀ (x5_4 : Int), x5_4 = ((i : Nat) : Int) → ∀ ls : Array Slot, lv_has ls 5 [(0, .ref (fa 0)), (1, .int (zI ((t : Nat) : Int))), (2, .int (zI ((k : Nat) : Int))), (3, .int (zI x5_3)), (4, .int (zI x5_4))] → W p l e rm_X1_waysOn s m args below meth c s.heap [] 0 0 Q (F0 m 5 ls []) := by
    intro n9
    induction n9 with
    | zero => intro i h9; exact absurd h9 (Nat.not_lt_zero _)
    | succ n9 ih5 =>
      intro i hmu5 hi x5_3 ex5_3 x5_4 ex5_4 ls hl
      subst ex5_3
      subst ex5_4
      have hl : lv_has ls 5 [(0, .ref (fa 0)), (1, .int (zI ((t : Nat) : Int))), (2, .int (zI ((k : Nat) : Int))), (3, .int (zI (wyo wy (op t) k i))), (4, .int (zI ((i : Nat) : Int)))] := hl
      refine lv_iload hx hb dX1_waysOn_5 (lv_at hl 4 rfl) ?_
      refine lv_aload_n hx hb dX1_waysOn_7 rfl (lv_at hl 0 rfl) ?_
      refine va_get (D := D) (ci := 1) (v := .int (zI ((fr : Nat) : Int))) (C := RX1) (T := TX1) (N := 4) hx hb hts hinX1 hown hK hP 0 rfl rfl 3 (by decide) (hts (.fieldLink RX1 28 "SilentRent$Fitting" "rooms" "I") (List.mem_of_getElem? (i := 1) rfl)) (fun _ h9 => h9) rfl dX1_waysOn_8 ?_
      refine z_icmp_ge (tgt := 52) hx hb ⟨by omega, by omega⟩ ⟨by omega, by omega⟩ dX1_waysOn_11 (by decide) (fun c1 => ?_) (fun c1 => ?_)
      · have c1 : (fr : Nat) ≤ (i : Nat) := by omega
        refine lv_iload_n hx hb dX1_waysOn_52 rfl (lv_at hl 3 rfl) ?_
        exact zr_iret hx hb hr hlocks hQ (by rw [show i = fr from by omega]) dX1_waysOn_53
      · have c1 : ¬ ((fr : Nat) ≤ (i : Nat)) := by omega
        refine lv_aload_n hx hb dX1_waysOn_14 rfl (lv_at hl 0 rfl) ?_
        refine va_get (D := D) (ci := 1) (v := .ref (fa 3)) (C := RX1) (T := TX1) (N := 4) hx hb hts hinX1 hown hK hP 0 rfl rfl 2 (by decide) (hts (.fieldLink RX1 19 "SilentRent$Fitting" "open" "[I") (List.mem_of_getElem? (i := 2) rfl)) (fun _ h9 => h9) rfl dX1_waysOn_15 ?_
        refine lv_iload_n hx hb dX1_waysOn_18 rfl (lv_at hl 1 rfl) ?_
        refine z_iald hx hb hK hP 3 0 (f := (fun j => ((op j : Nat) : Int))) rfl rfl t rfl (by omega) (by decide) dX1_waysOn_19 ?_
        have hb2 := hop t
        refine lv_iload_n hx hb dX1_waysOn_20 rfl (lv_at hl 2 rfl) ?_
        refine lv_iconst (v := zI (-1)) hx hb dX1_waysOn_21 rfl ?_
        refine z_ixor (r := (-((k : Nat) : Int) - 1)) hx hb (zI_not _) dX1_waysOn_22 ?_
        have hn3 := ndiff_le (op t) k (by omega)
        refine z_iand (r := ((ndiff (op t) k : Nat) : Int)) hx hb (zI_andnot (a := op t) (b := k) (by omega) (by omega)) dX1_waysOn_23 ?_
        refine lv_iload hx hb dX1_waysOn_24 (lv_at hl 4 rfl) ?_
        have hs4 := shr_le (ndiff (op t) k) i
        refine z_ishr (r := (((ndiff (op t) k) >>> i : Nat) : Int)) hx hb (zI_shr (a := ndiff (op t) k) (k := i) (by omega) (by omega)) dX1_waysOn_26 ?_
        refine lv_iconst (v := zI 1) hx hb dX1_waysOn_27 rfl ?_
        have hq5 : ((ndiff (op t) k) >>> i) &&& 1 ≤ ((ndiff (op t) k) >>> i) := Nat.and_le_left
        refine z_iand (r := ((((ndiff (op t) k) >>> i) &&& 1 : Nat) : Int)) hx hb (zI_and (a := (ndiff (op t) k) >>> i) (b := 1) (by omega) (by omega)) dX1_waysOn_28 ?_
        have J11 : ∀ (z10 : Int), z10 = (if (((ndiff (op t) k) >>> i) &&& 1 : Nat) = (0 : Nat) then (wyo wy (op t) k i) else ((wyo wy (op t) k i) + (wy (k ||| (2 ^ i))))) → ∀ ls : Array Slot, lv_has ls 5 [(0, .ref (fa 0)), (1, .int (zI ((t : Nat) : Int))), (2, .int (zI ((k : Nat) : Int))), (3, .int (zI z10)), (4, .int (zI ((i : Nat) : Int)))] → W p l e rm_X1_waysOn s m args below meth c s.heap [] 0 0 Q (F0 m 46 ls []) := by
          intro z10 ez10 ls hl
          subst ez10
          refine z_iinc (r := ((i + 1 : Nat) : Int)) (lv' := [(4, .int (zI ((i + 1 : Nat) : Int))), (0, .ref (fa 0)), (1, .int (zI ((t : Nat) : Int))), (2, .int (zI ((k : Nat) : Int))), (3, .int (zI (if (((ndiff (op t) k) >>> i) &&& 1 : Nat) = (0 : Nat) then (wyo wy (op t) k i) else ((wyo wy (op t) k i) + (wy (k ||| (2 ^ i)))))))]) hx hb (by omega) dX1_waysOn_46 hl (k := 4) rfl (by decide) rfl (fun ls hl => ?_)
          refine lv_goto (tgt := 5) hx hb dX1_waysOn_49 (by decide) ?_
          exact ih5 (i + 1) (by omega) (by omega) (if (((ndiff (op t) k) >>> i) &&& 1 : Nat) = (0 : Nat) then (wyo wy (op t) k i) else ((wyo wy (op t) k i) + (wy (k ||| (2 ^ i))))) (by (simp only [wyo, sumI]) <;> (repeat' split) <;> first | rfl | omega) ((i + 1 : Nat) : Int) (by first | rfl | omega) ls (lv_sub hl [1, 2, 3, 4, 0] rfl)
        refine z_if_eq (tgt := 46) hx hb ⟨by omega, by omega⟩ dX1_waysOn_29 (by decide) (fun c6 => ?_) (fun c6 => ?_)
        · have c6 : (((ndiff (op t) k) >>> i) &&& 1 : Nat) = (0 : Nat) := by omega
          exact J11 (wyo wy (op t) k i) (by rw [if_pos c6]) ls (lv_sub hl [0, 1, 2, 3, 4] rfl)
        · have c6 : ¬ ((((ndiff (op t) k) >>> i) &&& 1 : Nat) = (0 : Nat)) := by omega
          refine lv_iload_n hx hb dX1_waysOn_32 rfl (lv_at hl 3 rfl) ?_
          have hol : k ||| 2 ^ i < 2 ^ fr := Nat.or_lt_two_pow htk (Nat.pow_lt_pow_right (by decide) (by omega))
          refine lv_aload_n hx hb dX1_waysOn_33 rfl (lv_at hl 0 rfl) ?_
          refine va_get (D := D) (ci := 1) (v := .ref (fa 1)) (C := RX1) (T := TX1) (N := 4) hx hb hts hinX1 hown hK hP 0 rfl rfl 0 (by decide) (hts (.fieldLink RX1 9 "SilentRent$Fitting" "ways" "[I") (List.mem_of_getElem? (i := 3) rfl)) (fun _ h9 => h9) rfl dX1_waysOn_34 ?_
          refine lv_iload_n hx hb dX1_waysOn_37 rfl (lv_at hl 2 rfl) ?_
          refine lv_iconst (v := zI 1) hx hb dX1_waysOn_38 rfl ?_
          refine lv_iload hx hb dX1_waysOn_39 (lv_at hl 4 rfl) ?_
          have hp7 := pow_le3 i (by omega)
          refine z_ishl (r := ((2 ^ i : Nat) : Int)) hx hb (zI_shl1 i (by omega)) dX1_waysOn_41 ?_
          have hq8 := or_lt64 (a := k) (b := (2 ^ i)) (by omega) (by omega)
          refine z_ior (r := ((k ||| (2 ^ i) : Nat) : Int)) hx hb (zI_or (a := k) (b := 2 ^ i) (by omega) (by omega)) dX1_waysOn_42 ?_
          refine z_iald hx hb hK hP 1 0 (f := wy) rfl rfl (k ||| (2 ^ i)) rfl (by omega) (by decide) dX1_waysOn_43 ?_
          have hb9 := hwy (k ||| (2 ^ i))
          refine z_iadd (r := ((wyo wy (op t) k i) + (wy (k ||| (2 ^ i))))) hx hb rfl dX1_waysOn_44 ?_
          refine lv_istore_n (lv' := [(3, .int (zI ((wyo wy (op t) k i) + (wy (k ||| (2 ^ i)))))), (0, .ref (fa 0)), (1, .int (zI ((t : Nat) : Int))), (2, .int (zI ((k : Nat) : Int))), (4, .int (zI ((i : Nat) : Int)))]) hx hb dX1_waysOn_45 rfl hl (by decide) rfl (fun ls hl => ?_)
          exact J11 ((wyo wy (op t) k i) + (wy (k ||| (2 ^ i)))) (by rw [if_neg c6]) ls (lv_sub hl [1, 2, 3, 0, 4] rfl)
  exact loop5 ((fr - 0) + 1) 0 (by omega) (by omega) 0 (by first | rfl | omega | simp) 0 (by first | rfl | omega | simp) ls (lv_sub hl [2, 3, 4, 1, 0] rfl)
abbrev rm_X1_goodRooms : Room := { frames := 0, cells := 0, slots := 0, locals := 0 }
set_option maxHeartbeats 4000000 in
set_option maxRecDepth 100000 in
theorem c_X1_goodRooms (l : Launch) (D : va_G) (cy : Nat → ClassId) (fa : Nat → Nat) (wy : Nat → Int) (rc : Nat → Int) (op : Nat → Nat) (fr : Nat) (t : Nat) (k : Nat) (ht0 : t < 6) (htk : k < 2 ^ fr) (hfr : fr ≤ 6) (hop : ∀ i, op i < 64) (hwy : ∀ k, 0 ≤ wy k ∧ wy k ≤ 100000) : Met l yX1_goodRooms wsX1_goodRooms rm_X1_goodRooms (pR D cy [((fa 0), .inr (1, [.ref (fa 1), .ref (fa 2), .ref (fa 3), .int (zI ((fr : Nat) : Int))])), ((fa 1), .inl (cy 0, 64, .inl (zA wy))), ((fa 2), .inl (cy 1, 64, .inl (zA rc))), ((fa 3), .inl (cy 0, 6, .inl (zA (fun j => ((op j : Nat) : Int)))))] [.ref (fa 0), .int (zI ((t : Nat) : Int)), .int (zI ((k : Nat) : Int))]) (qR ((god wy (op t) k fr : Nat) : Int)) 0 0 (fun _ => False) := by
  refine met_R (cc := cX1_goodRooms) (maxL := 5) (ret := (some .int)) RX1 (by decide) rfl rfl (Nat.le_of_ble_eq_true rfl) ?_
  intro p e s m args below meth c ls Q hx hb hr hml hts hown hlocks hQ hP hK hl
  have hl : lv_has ls 5 [(0, .ref (fa 0)), (1, .int (zI ((t : Nat) : Int))), (2, .int (zI ((k : Nat) : Int)))] := hl
  have hinX1 : ∀ w ∈ wsX10, w ∈ wsX1_goodRooms := (fun w h => List.mem_cons_of_mem _ (List.mem_append_right _ h))
  have hpw := pow_le64 fr (by omega)
  have hopt := hop t
  refine lv_iconst (v := zI 0) hx hb dX1_goodRooms_0 rfl ?_
  refine lv_istore_n (lv' := [(3, .int (zI 0)), (0, .ref (fa 0)), (1, .int (zI ((t : Nat) : Int))), (2, .int (zI ((k : Nat) : Int)))]) hx hb dX1_goodRooms_1 rfl hl (by decide) rfl (fun ls hl => ?_)
  refine lv_iconst (v := zI 0) hx hb dX1_goodRooms_2 rfl ?_
  refine lv_istore (lv' := [(4, .int (zI 0)), (3, .int (zI 0)), (0, .ref (fa 0)), (1, .int (zI ((t : Nat) : Int))), (2, .int (zI ((k : Nat) : Int)))]) hx hb dX1_goodRooms_3 hl (by decide) rfl (fun ls hl => ?_)
  have loop5 : ∀ (n9 : Nat) (i : Nat), fr - i < n9 → (i ≤ fr) → ∀ (x5_3 : Int), x5_3 = ((god wy (op t) k i : Nat) : Int) → ∀ (x5_4 : Int), x5_4 = ((i : Nat) : Int) → ∀ ls : Array Slot, lv_has ls 5 [(0, .ref (fa 0)), (1, .int (zI ((t : Nat) : Int))), (2, .int (zI ((k : Nat) : Int))), (3, .int (zI x5_3)), (4, .int (zI x5_4))] → W p l e rm_X1_goodRooms s m args below meth c s.heap [] 0 0 Q (F0 m 5 ls []) := by
    intro n9
    induction n9 with
    | zero => intro i h9; exact absurd h9 (Nat.not_lt_zero _)
    | succ n9 ih5 =>
      intro i hmu5 hi x5_3 ex5_3 x5_4 ex5_4 ls hl
      subst ex5_3
      subst ex5_4
      have hl : lv_has ls 5 [(0, .ref (fa 0)), (1, .int (zI ((t : Nat) : Int))), (2, .int (zI ((k : Nat) : Int))), (3, .int (zI ((god wy (op t) k i : Nat) : Int))), (4, .int (zI ((i : Nat) : Int)))] := hl
      have hf1 := god_lt64 wy (op t) k i (by omega)
      refine lv_iload hx hb dX1_goodRooms_5 (lv_at hl 4 rfl) ?_
      refine lv_aload_n hx hb dX1_goodRooms_7 rfl (lv_at hl 0 rfl) ?_
      refine va_get (D := D) (ci := 1) (v := .int (zI ((fr : Nat) : Int))) (C := RX1) (T := TX1) (N := 4) hx hb hts hinX1 hown hK hP 0 rfl rfl 3 (by decide) (hts (.fieldLink RX1 28 "SilentRent$Fitting" "rooms" "I") (List.mem_of_getElem? (i := 1) rfl)) (fun _ h9 => h9) rfl dX1_goodRooms_8 ?_
      refine z_icmp_ge (tgt := 59) hx hb ⟨by omega, by omega⟩ ⟨by omega, by omega⟩ dX1_goodRooms_11 (by decide) (fun c1 => ?_) (fun c1 => ?_)
      · have c1 : (fr : Nat) ≤ (i : Nat) := by omega
        refine lv_iload_n hx hb dX1_goodRooms_59 rfl (lv_at hl 3 rfl) ?_
        exact zr_iret hx hb hr hlocks hQ (by rw [show i = fr from by omega]) dX1_goodRooms_60
      · have c1 : ¬ ((fr : Nat) ≤ (i : Nat)) := by omega
        refine lv_aload_n hx hb dX1_goodRooms_14 rfl (lv_at hl 0 rfl) ?_
        refine va_get (D := D) (ci := 1) (v := .ref (fa 3)) (C := RX1) (T := TX1) (N := 4) hx hb hts hinX1 hown hK hP 0 rfl rfl 2 (by decide) (hts (.fieldLink RX1 19 "SilentRent$Fitting" "open" "[I") (List.mem_of_getElem? (i := 2) rfl)) (fun _ h9 => h9) rfl dX1_goodRooms_15 ?_
        refine lv_iload_n hx hb dX1_goodRooms_18 rfl (lv_at hl 1 rfl) ?_
        refine z_iald hx hb hK hP 3 0 (f := (fun j => ((op j : Nat) : Int))) rfl rfl t rfl (by omega) (by decide) dX1_goodRooms_19 ?_
        have hb2 := hop t
        refine lv_iload_n hx hb dX1_goodRooms_20 rfl (lv_at hl 2 rfl) ?_
        refine lv_iconst (v := zI (-1)) hx hb dX1_goodRooms_21 rfl ?_
        refine z_ixor (r := (-((k : Nat) : Int) - 1)) hx hb (zI_not _) dX1_goodRooms_22 ?_
        have hn3 := ndiff_le (op t) k (by omega)
        refine z_iand (r := ((ndiff (op t) k : Nat) : Int)) hx hb (zI_andnot (a := op t) (b := k) (by omega) (by omega)) dX1_goodRooms_23 ?_
        refine lv_iload hx hb dX1_goodRooms_24 (lv_at hl 4 rfl) ?_
        have hs4 := shr_le (ndiff (op t) k) i
        refine z_ishr (r := (((ndiff (op t) k) >>> i : Nat) : Int)) hx hb (zI_shr (a := ndiff (op t) k) (k := i) (by omega) (by omega)) dX1_goodRooms_26 ?_
        refine lv_iconst (v := zI 1) hx hb dX1_goodRooms_27 rfl ?_
        have hq5 : ((ndiff (op t) k) >>> i) &&& 1 ≤ ((ndiff (op t) k) >>> i) := Nat.and_le_left
        refine z_iand (r := ((((ndiff (op t) k) >>> i) &&& 1 : Nat) : Int)) hx hb (zI_and (a := (ndiff (op t) k) >>> i) (b := 1) (by omega) (by omega)) dX1_goodRooms_28 ?_
        have J14 : ∀ (z13 : Nat), z13 = (if (((ndiff (op t) k) >>> i) &&& 1 : Nat) = (0 : Nat) then (god wy (op t) k i) else (if (wy (k ||| (2 ^ i))) ≤ 0 then (god wy (op t) k i) else ((god wy (op t) k i) ||| (2 ^ i)))) → ∀ ls : Array Slot, lv_has ls 5 [(0, .ref (fa 0)), (1, .int (zI ((t : Nat) : Int))), (2, .int (zI ((k : Nat) : Int))), (3, .int (zI ((z13 : Nat) : Int))), (4, .int (zI ((i : Nat) : Int)))] → W p l e rm_X1_goodRooms s m args below meth c s.heap [] 0 0 Q (F0 m 53 ls []) := by
          intro z13 ez13 ls hl
          subst ez13
          refine z_iinc (r := ((i + 1 : Nat) : Int)) (lv' := [(4, .int (zI ((i + 1 : Nat) : Int))), (0, .ref (fa 0)), (1, .int (zI ((t : Nat) : Int))), (2, .int (zI ((k : Nat) : Int))), (3, .int (zI (((if (((ndiff (op t) k) >>> i) &&& 1 : Nat) = (0 : Nat) then (god wy (op t) k i) else (if (wy (k ||| (2 ^ i))) ≤ 0 then (god wy (op t) k i) else ((god wy (op t) k i) ||| (2 ^ i)))) : Nat) : Int)))]) hx hb (by omega) dX1_goodRooms_53 hl (k := 4) rfl (by decide) rfl (fun ls hl => ?_)
          refine lv_goto (tgt := 5) hx hb dX1_goodRooms_56 (by decide) ?_
          exact ih5 (i + 1) (by omega) (by omega) (((if (((ndiff (op t) k) >>> i) &&& 1 : Nat) = (0 : Nat) then (god wy (op t) k i) else (if (wy (k ||| (2 ^ i))) ≤ 0 then (god wy (op t) k i) else ((god wy (op t) k i) ||| (2 ^ i)))) : Nat) : Int) (by (simp only [god, bits, decide_eq_true_eq]) <;> (repeat' split) <;> first | rfl | omega) ((i + 1 : Nat) : Int) (by first | rfl | omega) ls (lv_sub hl [1, 2, 3, 4, 0] rfl)
        refine z_if_eq (tgt := 53) hx hb ⟨by omega, by omega⟩ dX1_goodRooms_29 (by decide) (fun c6 => ?_) (fun c6 => ?_)
        · have c6 : (((ndiff (op t) k) >>> i) &&& 1 : Nat) = (0 : Nat) := by omega
          exact J14 (god wy (op t) k i) (by rw [if_pos c6]) ls (lv_sub hl [0, 1, 2, 3, 4] rfl)
        · have c6 : ¬ ((((ndiff (op t) k) >>> i) &&& 1 : Nat) = (0 : Nat)) := by omega
          have hol : k ||| 2 ^ i < 2 ^ fr := Nat.or_lt_two_pow htk (Nat.pow_lt_pow_right (by decide) (by omega))
          refine lv_aload_n hx hb dX1_goodRooms_32 rfl (lv_at hl 0 rfl) ?_
          refine va_get (D := D) (ci := 1) (v := .ref (fa 1)) (C := RX1) (T := TX1) (N := 4) hx hb hts hinX1 hown hK hP 0 rfl rfl 0 (by decide) (hts (.fieldLink RX1 9 "SilentRent$Fitting" "ways" "[I") (List.mem_of_getElem? (i := 3) rfl)) (fun _ h9 => h9) rfl dX1_goodRooms_33 ?_
          refine lv_iload_n hx hb dX1_goodRooms_36 rfl (lv_at hl 2 rfl) ?_
          refine lv_iconst (v := zI 1) hx hb dX1_goodRooms_37 rfl ?_
          refine lv_iload hx hb dX1_goodRooms_38 (lv_at hl 4 rfl) ?_
          have hp7 := pow_le3 i (by omega)
          refine z_ishl (r := ((2 ^ i : Nat) : Int)) hx hb (zI_shl1 i (by omega)) dX1_goodRooms_40 ?_
          have hq8 := or_lt64 (a := k) (b := (2 ^ i)) (by omega) (by omega)
          refine z_ior (r := ((k ||| (2 ^ i) : Nat) : Int)) hx hb (zI_or (a := k) (b := 2 ^ i) (by omega) (by omega)) dX1_goodRooms_41 ?_
          refine z_iald hx hb hK hP 1 0 (f := wy) rfl rfl (k ||| (2 ^ i)) rfl (by omega) (by decide) dX1_goodRooms_42 ?_
          have hb9 := hwy (k ||| (2 ^ i))
          refine z_if_le (tgt := 53) hx hb ⟨by omega, by omega⟩ dX1_goodRooms_43 (by decide) (fun c10 => ?_) (fun c10 => ?_)
          · exact J14 (god wy (op t) k i) (by rw [if_neg c6, if_pos c10]) ls (lv_sub hl [0, 1, 2, 3, 4] rfl)
          · refine lv_iload_n hx hb dX1_goodRooms_46 rfl (lv_at hl 3 rfl) ?_
            refine lv_iconst (v := zI 1) hx hb dX1_goodRooms_47 rfl ?_
            refine lv_iload hx hb dX1_goodRooms_48 (lv_at hl 4 rfl) ?_
            have hp11 := pow_le3 i (by omega)
            refine z_ishl (r := ((2 ^ i : Nat) : Int)) hx hb (zI_shl1 i (by omega)) dX1_goodRooms_50 ?_
            have hq12 := or_lt64 (a := (god wy (op t) k i)) (b := (2 ^ i)) (by omega) (by omega)
            refine z_ior (r := (((god wy (op t) k i) ||| (2 ^ i) : Nat) : Int)) hx hb (zI_or (a := god wy (op t) k i) (b := 2 ^ i) (by omega) (by omega)) dX1_goodRooms_51 ?_
            refine lv_istore_n (lv' := [(3, .int (zI (((god wy (op t) k i) ||| (2 ^ i) : Nat) : Int))), (0, .ref (fa 0)), (1, .int (zI ((t : Nat) : Int))), (2, .int (zI ((k : Nat) : Int))), (4, .int (zI ((i : Nat) : Int)))]) hx hb dX1_goodRooms_52 rfl hl (by decide) rfl (fun ls hl => ?_)
            exact J14 ((god wy (op t) k i) ||| (2 ^ i)) (by rw [if_neg c6, if_neg c10]) ls (lv_sub hl [1, 2, 3, 0, 4] rfl)
  exact loop5 ((fr - 0) + 1) 0 (by omega) (by omega) 0 (by first | rfl | omega | simp) 0 (by first | rfl | omega | simp) ls (lv_sub hl [2, 3, 4, 1, 0] rfl)
abbrev rm_X1_firstFrom : Room := { frames := 1, cells := 0, slots := 0, locals := 24 }
set_option maxHeartbeats 4000000 in
set_option maxRecDepth 100000 in
theorem c_X1_firstFrom (l : Launch) (D : va_G) (cy : Nat → ClassId) (fa : Nat → Nat) (wy : Nat → Int) (rc : Nat → Int) (op : Nat → Nat) (fr : Nat) (t : Nat) (k : Nat) (ht0 : t < 6) (htk : k < 2 ^ fr) (hfr : fr ≤ 6) (hop : ∀ i, op i < 64) (hwy : ∀ k, 0 ≤ wy k ∧ wy k ≤ 100000) : Met l yX1_firstFrom wsX1_firstFrom rm_X1_firstFrom (pR D cy [((fa 0), .inr (1, [.ref (fa 1), .ref (fa 2), .ref (fa 3), .int (zI ((fr : Nat) : Int))])), ((fa 1), .inl (cy 0, 64, .inl (zA wy))), ((fa 2), .inl (cy 1, 64, .inl (zA rc))), ((fa 3), .inl (cy 0, 6, .inl (zA (fun j => ((op j : Nat) : Int)))))] [.ref (fa 0), .int (zI ((t : Nat) : Int)), .int (zI ((k : Nat) : Int))]) (qR (ffm wy op fr t k)) 0 0 (fun _ => False) := by
  refine met_R (cc := cX1_firstFrom) (maxL := 5) (ret := (some .int)) RX1 (by decide) rfl rfl (Nat.le_of_ble_eq_true rfl) ?_
  intro p e s m args below meth c ls Q hx hb hr hml hts hown hlocks hQ hP hK hl
  have hl : lv_has ls 5 [(0, .ref (fa 0)), (1, .int (zI ((t : Nat) : Int))), (2, .int (zI ((k : Nat) : Int)))] := hl
  have hinX1 : ∀ w ∈ wsX10, w ∈ wsX1_firstFrom := (fun w h => List.mem_cons_of_mem _ (List.mem_append_right _ h))
  have hgl := god_lt64 wy (op t) k fr (by omega)
  refine lv_aload_n hx hb dX1_firstFrom_0 rfl (lv_at hl 0 rfl) ?_
  refine lv_iload_n hx hb dX1_firstFrom_1 rfl (lv_at hl 1 rfl) ?_
  refine lv_iload_n hx hb dX1_firstFrom_2 rfl (lv_at hl 2 rfl) ?_
  refine zr_callV (rest := []) (As := [.int (zI ((t : Nat) : Int)), .int (zI ((k : Nat) : Int))]) (v := ((god wy (op t) k fr : Nat) : Int)) ⟨hx, hb, hml, hown, hts⟩ (c_X1_goodRooms l D cy fa wy rc op fr t k (by omega) (by omega) (by omega) hop hwy) (cwV 2 hts gX1_firstFrom_X1_goodRooms rfl rfl rfl (by decide +kernel) ⟨Nat.le_of_ble_eq_true rfl, Nat.le_of_ble_eq_true rfl⟩) hK hP 0 1 rfl rfl rfl hl.1 rfl (Nat.le_of_ble_eq_true rfl) dX1_firstFrom_3 ⟨Nat.zero_le _, Nat.zero_le _⟩ ?_
  refine lv_istore_n (lv' := [(3, .int (zI ((god wy (op t) k fr : Nat) : Int))), (0, .ref (fa 0)), (1, .int (zI ((t : Nat) : Int))), (2, .int (zI ((k : Nat) : Int)))]) hx hb dX1_firstFrom_6 rfl hl (by decide) rfl (fun ls hl => ?_)
  refine lv_iconst (v := zI 0) hx hb dX1_firstFrom_7 rfl ?_
  refine lv_istore (lv' := [(4, .int (zI 0)), (3, .int (zI ((god wy (op t) k fr : Nat) : Int))), (0, .ref (fa 0)), (1, .int (zI ((t : Nat) : Int))), (2, .int (zI ((k : Nat) : Int)))]) hx hb dX1_firstFrom_8 hl (by decide) rfl (fun ls hl => ?_)
  have loop10 : ∀ (n9 : Nat) (i : Nat), fr - i < n9 → (i ≤ fr) → (ffm wy op fr t k = fbt (god wy (op t) k fr) (fr - i) i) → ∀ (x10_4 : Int), x10_4 = ((i : Nat) : Int) → ∀ ls : Array Slot, lv_has ls 5 [(0, .ref (fa 0)), (1, .int (zI ((t : Nat) : Int))), (2, .int (zI ((k : Nat) : Int))), (3, .int (zI ((god wy (op t) k fr : Nat) : Int))), (4, .int (zI x10_4))] → W p l e rm_X1_firstFrom s m args below meth c s.heap [] 0 0 Q (F0 m 10 ls []) := by
    intro n9
    induction n9 with
    | zero => intro i h9; exact absurd h9 (Nat.not_lt_zero _)
    | succ n9 ih10 =>
      intro i hmu10 hi hq x10_4 ex10_4 ls hl
      subst ex10_4
      have hl : lv_has ls 5 [(0, .ref (fa 0)), (1, .int (zI ((t : Nat) : Int))), (2, .int (zI ((k : Nat) : Int))), (3, .int (zI ((god wy (op t) k fr : Nat) : Int))), (4, .int (zI ((i : Nat) : Int)))] := hl
      refine lv_iload hx hb dX1_firstFrom_10 (lv_at hl 4 rfl) ?_
      refine lv_aload_n hx hb dX1_firstFrom_12 rfl (lv_at hl 0 rfl) ?_
      refine va_get (D := D) (ci := 1) (v := .int (zI ((fr : Nat) : Int))) (C := RX1) (T := TX1) (N := 4) hx hb hts hinX1 hown hK hP 0 rfl rfl 3 (by decide) (hts (.fieldLink RX1 28 "SilentRent$Fitting" "rooms" "I") (List.mem_of_getElem? (i := 1) rfl)) (fun _ h9 => h9) rfl dX1_firstFrom_13 ?_
      refine z_icmp_ge (tgt := 37) hx hb ⟨by omega, by omega⟩ ⟨by omega, by omega⟩ dX1_firstFrom_16 (by decide) (fun c1 => ?_) (fun c1 => ?_)
      · have c1 : (fr : Nat) ≤ (i : Nat) := by omega
        refine lv_bipush (v := zI (-9)) hx hb dX1_firstFrom_37 (by decide) ?_
        exact zr_iret hx hb hr hlocks hQ (by rw [hq, show fr - i = 0 from by omega]; rfl) dX1_firstFrom_39
      · have c1 : ¬ ((fr : Nat) ≤ (i : Nat)) := by omega
        refine lv_iload_n hx hb dX1_firstFrom_19 rfl (lv_at hl 3 rfl) ?_
        refine lv_iload hx hb dX1_firstFrom_20 (lv_at hl 4 rfl) ?_
        have hs2 := shr_le (god wy (op t) k fr) i
        refine z_ishr (r := (((god wy (op t) k fr) >>> i : Nat) : Int)) hx hb (zI_shr (a := god wy (op t) k fr) (k := i) (by omega) (by omega)) dX1_firstFrom_22 ?_
        refine lv_iconst (v := zI 1) hx hb dX1_firstFrom_23 rfl ?_
        have hq3 : ((god wy (op t) k fr) >>> i) &&& 1 ≤ ((god wy (op t) k fr) >>> i) := Nat.and_le_left
        refine z_iand (r := ((((god wy (op t) k fr) >>> i) &&& 1 : Nat) : Int)) hx hb (zI_and (a := (god wy (op t) k fr) >>> i) (b := 1) (by omega) (by omega)) dX1_firstFrom_24 ?_
        refine z_if_eq (tgt := 31) hx hb ⟨by omega, by omega⟩ dX1_firstFrom_25 (by decide) (fun c4 => ?_) (fun c4 => ?_)
        · have c4 : (((god wy (op t) k fr) >>> i) &&& 1 : Nat) = (0 : Nat) := by omega
          refine z_iinc (r := ((i + 1 : Nat) : Int)) (lv' := [(4, .int (zI ((i + 1 : Nat) : Int))), (0, .ref (fa 0)), (1, .int (zI ((t : Nat) : Int))), (2, .int (zI ((k : Nat) : Int))), (3, .int (zI ((god wy (op t) k fr : Nat) : Int)))]) hx hb (by omega) dX1_firstFrom_31 hl (k := 4) rfl (by decide) rfl (fun ls hl => ?_)
          refine lv_goto (tgt := 10) hx hb dX1_firstFrom_34 (by decide) ?_
          exact ih10 (i + 1) (by omega) (by omega) (by rw [hq, show fr - i = (fr - (i + 1)) + 1 from by omega, fbt_s, if_pos (by omega)]) ((i + 1 : Nat) : Int) (by first | rfl | omega) ls (lv_sub hl [1, 2, 3, 4, 0] rfl)
        · have c4 : ¬ ((((god wy (op t) k fr) >>> i) &&& 1 : Nat) = (0 : Nat)) := by omega
          refine lv_iload hx hb dX1_firstFrom_28 (lv_at hl 4 rfl) ?_
          exact zr_iret hx hb hr hlocks hQ (by rw [hq, show fr - i = (fr - (i + 1)) + 1 from by omega, fbt_s, if_neg (by omega)]) dX1_firstFrom_30
  exact loop10 ((fr - 0) + 1) 0 (by omega) (by omega) rfl 0 (by first | rfl | omega | simp) ls (lv_sub hl [2, 3, 4, 1, 0] rfl)
abbrev rm_X1_firstRoom : Room := { frames := 2, cells := 0, slots := 0, locals := 48 }
set_option maxHeartbeats 4000000 in
set_option maxRecDepth 100000 in
theorem c_X1_firstRoom (l : Launch) (D : va_G) (cy : Nat → ClassId) (fa : Nat → Nat) (wy : Nat → Int) (rc : Nat → Int) (op : Nat → Nat) (fr : Nat) (t : Int) (ht0 : 0 ≤ t ∧ t < 6) (hfr : fr ≤ 6) (hop : ∀ i, op i < 64) (hwy : ∀ k, 0 ≤ wy k ∧ wy k ≤ 100000) : Met l yX1_firstRoom wsX1_firstRoom rm_X1_firstRoom (pR D cy [((fa 0), .inr (1, [.ref (fa 1), .ref (fa 2), .ref (fa 3), .int (zI ((fr : Nat) : Int))])), ((fa 1), .inl (cy 0, 64, .inl (zA wy))), ((fa 2), .inl (cy 1, 64, .inl (zA rc))), ((fa 3), .inl (cy 0, 6, .inl (zA (fun j => ((op j : Nat) : Int)))))] [.ref (fa 0), .int (zI t)]) (qR (frm wy op fr t.toNat 0 0)) 0 0 (fun _ => False) := by
  refine met_R (cc := cX1_firstRoom) (maxL := 5) (ret := (some .int)) RX1 (by decide) rfl rfl (Nat.le_of_ble_eq_true rfl) ?_
  intro p e s m args below meth c ls Q hx hb hr hml hts hown hlocks hQ hP hK hl
  have hl : lv_has ls 5 [(0, .ref (fa 0)), (1, .int (zI t))] := hl
  have hpw := pow_le64 fr (by omega)
  refine lv_iconst (v := zI 0) hx hb dX1_firstRoom_0 rfl ?_
  refine lv_istore_n (lv' := [(2, .int (zI 0)), (0, .ref (fa 0)), (1, .int (zI t))]) hx hb dX1_firstRoom_1 rfl hl (by decide) rfl (fun ls hl => ?_)
  refine lv_iconst (v := zI 0) hx hb dX1_firstRoom_2 rfl ?_
  refine lv_istore_n (lv' := [(3, .int (zI 0)), (2, .int (zI 0)), (0, .ref (fa 0)), (1, .int (zI t))]) hx hb dX1_firstRoom_3 rfl hl (by decide) rfl (fun ls hl => ?_)
  have loop4 : ∀ (n9 : Nat) (i : Nat) (k : Nat), t.toNat - i < n9 → (i ≤ t.toNat) → (k < 2 ^ fr) → (frm wy op fr t.toNat 0 0 = frm wy op fr (t.toNat - i) i k) → ∀ (x4_1 : Int), x4_1 = ((t.toNat : Nat) : Int) → ∀ (x4_2 : Int), x4_2 = ((k : Nat) : Int) → ∀ (x4_3 : Int), x4_3 = ((i : Nat) : Int) → ∀ ls : Array Slot, lv_has ls 5 [(0, .ref (fa 0)), (1, .int (zI x4_1)), (2, .int (zI x4_2)), (3, .int (zI x4_3))] → W p l e rm_X1_firstRoom s m args below meth c s.heap [] 0 0 Q (F0 m 4 ls []) := by
    intro n9
    induction n9 with
    | zero => intro i k h9; exact absurd h9 (Nat.not_lt_zero _)
    | succ n9 ih4 =>
      intro i k hmu4 hi hk hq x4_1 ex4_1 x4_2 ex4_2 x4_3 ex4_3 ls hl
      subst ex4_1
      subst ex4_2
      subst ex4_3
      have hl : lv_has ls 5 [(0, .ref (fa 0)), (1, .int (zI ((t.toNat : Nat) : Int))), (2, .int (zI ((k : Nat) : Int))), (3, .int (zI ((i : Nat) : Int)))] := hl
      have hz9 := ffm_in wy op fr i k
      refine lv_iload_n hx hb dX1_firstRoom_4 rfl (lv_at hl 3 rfl) ?_
      refine lv_iload_n hx hb dX1_firstRoom_5 rfl (lv_at hl 1 rfl) ?_
      refine z_icmp_ge (tgt := 40) hx hb ⟨by omega, by omega⟩ ⟨by omega, by omega⟩ dX1_firstRoom_6 (by decide) (fun c1 => ?_) (fun c1 => ?_)
      · have c1 : (t.toNat : Nat) ≤ (i : Nat) := by omega
        have hr2 : ((t.toNat : Nat) : Int) = ((i : Nat) : Int) := by omega
        rw [hr2] at hl
        have hl : lv_has ls 5 [(0, .ref (fa 0)), (1, .int (zI ((i : Nat) : Int))), (2, .int (zI ((k : Nat) : Int))), (3, .int (zI ((i : Nat) : Int)))] := hl
        refine lv_aload_n hx hb dX1_firstRoom_40 rfl (lv_at hl 0 rfl) ?_
        refine lv_iload_n hx hb dX1_firstRoom_41 rfl (lv_at hl 1 rfl) ?_
        refine lv_iload_n hx hb dX1_firstRoom_42 rfl (lv_at hl 2 rfl) ?_
        refine zr_callV (rest := []) (As := [.int (zI ((i : Nat) : Int)), .int (zI ((k : Nat) : Int))]) (v := (ffm wy op fr i k)) ⟨hx, hb, hml, hown, hts⟩ (c_X1_firstFrom l D cy fa wy rc op fr i k (by omega) (by omega) (by omega) hop hwy) (cwV 2 hts gX1_firstRoom_X1_firstFrom rfl rfl rfl (by decide +kernel) ⟨Nat.le_of_ble_eq_true rfl, Nat.le_of_ble_eq_true rfl⟩) hK hP 0 1 rfl rfl rfl hl.1 rfl (Nat.le_of_ble_eq_true rfl) dX1_firstRoom_43 ⟨Nat.zero_le _, Nat.zero_le _⟩ ?_
        exact zr_iret hx hb hr hlocks hQ (by rw [hq, show t.toNat - i = 0 from by omega]; rfl) dX1_firstRoom_46
      · have c1 : ¬ ((t.toNat : Nat) ≤ (i : Nat)) := by omega
        refine lv_aload_n hx hb dX1_firstRoom_9 rfl (lv_at hl 0 rfl) ?_
        refine lv_iload_n hx hb dX1_firstRoom_10 rfl (lv_at hl 3 rfl) ?_
        refine lv_iload_n hx hb dX1_firstRoom_11 rfl (lv_at hl 2 rfl) ?_
        refine zr_callV (rest := []) (As := [.int (zI ((i : Nat) : Int)), .int (zI ((k : Nat) : Int))]) (v := (ffm wy op fr i k)) ⟨hx, hb, hml, hown, hts⟩ (c_X1_firstFrom l D cy fa wy rc op fr i k (by omega) (by omega) (by omega) hop hwy) (cwV 2 hts gX1_firstRoom_X1_firstFrom rfl rfl rfl (by decide +kernel) ⟨Nat.le_of_ble_eq_true rfl, Nat.le_of_ble_eq_true rfl⟩) hK hP 0 1 rfl rfl rfl hl.1 rfl (Nat.le_of_ble_eq_true rfl) dX1_firstRoom_12 ⟨Nat.zero_le _, Nat.zero_le _⟩ ?_
        refine lv_istore (lv' := [(4, .int (zI (ffm wy op fr i k))), (0, .ref (fa 0)), (1, .int (zI ((t.toNat : Nat) : Int))), (2, .int (zI ((k : Nat) : Int))), (3, .int (zI ((i : Nat) : Int)))]) hx hb dX1_firstRoom_15 hl (by decide) rfl (fun ls hl => ?_)
        refine lv_iload hx hb dX1_firstRoom_17 (lv_at hl 0 rfl) ?_
        refine lv_bipush (v := zI (-9)) hx hb dX1_firstRoom_19 (by decide) ?_
        refine z_icmp_ne (tgt := 27) hx hb ⟨by omega, by omega⟩ ⟨by omega, by omega⟩ dX1_firstRoom_21 (by decide) (fun c3 => ?_) (fun c3 => ?_)
        · refine lv_iload_n hx hb dX1_firstRoom_27 rfl (lv_at hl 3 rfl) ?_
          refine lv_iconst (v := zI 1) hx hb dX1_firstRoom_28 rfl ?_
          refine lv_iload hx hb dX1_firstRoom_29 (lv_at hl 0 rfl) ?_
          have hp4 := pow_le3 ((ffm wy op fr i k).toNat) (by omega)
          refine z_ishl (r := ((2 ^ ((ffm wy op fr i k).toNat) : Nat) : Int)) hx hb (by rw [show (ffm wy op fr i k) = (((ffm wy op fr i k).toNat : Nat) : Int) from by omega]; exact zI_shl1 ((ffm wy op fr i k).toNat) (by omega)) dX1_firstRoom_31 ?_
          have hq5 := or_lt64 (a := k) (b := (2 ^ ((ffm wy op fr i k).toNat))) (by omega) (by omega)
          refine z_ior (r := ((k ||| (2 ^ ((ffm wy op fr i k).toNat)) : Nat) : Int)) hx hb (zI_or (a := k) (b := 2 ^ ((ffm wy op fr i k).toNat)) (by omega) (by omega)) dX1_firstRoom_32 ?_
          refine lv_istore_n (lv' := [(2, .int (zI ((k ||| (2 ^ ((ffm wy op fr i k).toNat)) : Nat) : Int))), (4, .int (zI (ffm wy op fr i k))), (0, .ref (fa 0)), (1, .int (zI ((t.toNat : Nat) : Int))), (3, .int (zI ((i : Nat) : Int)))]) hx hb dX1_firstRoom_33 rfl hl (by decide) rfl (fun ls hl => ?_)
          refine z_iinc (r := ((i + 1 : Nat) : Int)) (lv' := [(3, .int (zI ((i + 1 : Nat) : Int))), (2, .int (zI ((k ||| (2 ^ ((ffm wy op fr i k).toNat)) : Nat) : Int))), (4, .int (zI (ffm wy op fr i k))), (0, .ref (fa 0)), (1, .int (zI ((t.toNat : Nat) : Int)))]) hx hb (by omega) dX1_firstRoom_34 hl (k := 4) rfl (by decide) rfl (fun ls hl => ?_)
          refine lv_goto (tgt := 4) hx hb dX1_firstRoom_37 (by decide) ?_
          exact ih4 (i + 1) (k ||| 2 ^ (ffm wy op fr i k).toNat) (by omega) (by omega) (Nat.or_lt_two_pow hk (Nat.pow_lt_pow_right (by decide) (by omega))) (by rw [hq, show t.toNat - i = (t.toNat - (i + 1)) + 1 from by omega, frm_s, if_neg (by omega)]) ((t.toNat : Nat) : Int) (by first | rfl | omega) ((k ||| (2 ^ ((ffm wy op fr i k).toNat)) : Nat) : Int) (by first | rfl | omega) ((i + 1 : Nat) : Int) (by first | rfl | omega) ls (lv_sub hl [3, 4, 1, 0] rfl)
        · refine lv_bipush (v := zI (-9)) hx hb dX1_firstRoom_24 (by decide) ?_
          exact zr_iret hx hb hr hlocks hQ (by rw [hq, show t.toNat - i = (t.toNat - (i + 1)) + 1 from by omega, frm_s, if_pos (by omega)]) dX1_firstRoom_26
  exact loop4 ((t.toNat - 0) + 1) 0 0 (by omega) (by omega) (by omega) rfl t (by omega) 0 (by first | rfl | omega | simp) 0 (by first | rfl | omega | simp) ls (lv_sub hl [2, 3, 1, 0] rfl)
abbrev rm_X1_someRooms : Room := { frames := 1, cells := 0, slots := 0, locals := 24 }
set_option maxHeartbeats 4000000 in
set_option maxRecDepth 100000 in
theorem c_X1_someRooms (l : Launch) (D : va_G) (cy : Nat → ClassId) (fa : Nat → Nat) (wy : Nat → Int) (rc : Nat → Int) (op : Nat → Nat) (fr : Nat) (t : Int) (ht0 : 0 ≤ t ∧ t < 6) (hfr : fr ≤ 6) (hop : ∀ i, op i < 64) (hwy : ∀ k, 0 ≤ wy k ∧ wy k ≤ 100000) (hrc : ∀ k, rc k = 0 ∨ rc k = 1) : Met l yX1_someRooms wsX1_someRooms rm_X1_someRooms (pR D cy [((fa 0), .inr (1, [.ref (fa 1), .ref (fa 2), .ref (fa 3), .int (zI ((fr : Nat) : Int))])), ((fa 1), .inl (cy 0, 64, .inl (zA wy))), ((fa 2), .inl (cy 1, 64, .inl (zA rc))), ((fa 3), .inl (cy 0, 6, .inl (zA (fun j => ((op j : Nat) : Int)))))] [.ref (fa 0), .int (zI t)]) (qR ((smr wy rc op fr t.toNat (2 ^ fr) : Nat) : Int)) 0 0 (fun _ => False) := by
  refine met_R (cc := cX1_someRooms) (maxL := 4) (ret := (some .int)) RX1 (by decide) rfl rfl (Nat.le_of_ble_eq_true rfl) ?_
  intro p e s m args below meth c ls Q hx hb hr hml hts hown hlocks hQ hP hK hl
  have hl : lv_has ls 4 [(0, .ref (fa 0)), (1, .int (zI t))] := hl
  have hinX1 : ∀ w ∈ wsX10, w ∈ wsX1_someRooms := (fun w h => List.mem_cons_of_mem _ (List.mem_append_right _ h))
  have hpw := pow_le64 fr (by omega)
  refine lv_iconst (v := zI 0) hx hb dX1_someRooms_0 rfl ?_
  refine lv_istore_n (lv' := [(2, .int (zI 0)), (0, .ref (fa 0)), (1, .int (zI t))]) hx hb dX1_someRooms_1 rfl hl (by decide) rfl (fun ls hl => ?_)
  refine lv_iconst (v := zI 0) hx hb dX1_someRooms_2 rfl ?_
  refine lv_istore_n (lv' := [(3, .int (zI 0)), (2, .int (zI 0)), (0, .ref (fa 0)), (1, .int (zI t))]) hx hb dX1_someRooms_3 rfl hl (by decide) rfl (fun ls hl => ?_)
  have loop4 : ∀ (n9 : Nat) (i : Nat), 2 ^ fr - i < n9 → (i ≤ 2 ^ fr) → ∀ (x4_1 : Int), x4_1 = ((t.toNat : Nat) : Int) → ∀ (x4_2 : Int), x4_2 = ((smr wy rc op fr t.toNat i : Nat) : Int) → ∀ (x4_3 : Int), x4_3 = ((i : Nat) : Int) → ∀ ls : Array Slot, lv_has ls 4 [(0, .ref (fa 0)), (1, .int (zI x4_1)), (2, .int (zI x4_2)), (3, .int (zI x4_3))] → W p l e rm_X1_someRooms s m args below meth c s.heap [] 0 0 Q (F0 m 4 ls []) := by
    intro n9
    induction n9 with
    | zero => intro i h9; exact absurd h9 (Nat.not_lt_zero _)
    | succ n9 ih4 =>
      intro i hmu4 hi x4_1 ex4_1 x4_2 ex4_2 x4_3 ex4_3 ls hl
      subst ex4_1
      subst ex4_2
      subst ex4_3
      have hl : lv_has ls 4 [(0, .ref (fa 0)), (1, .int (zI ((t.toNat : Nat) : Int))), (2, .int (zI ((smr wy rc op fr t.toNat i : Nat) : Int))), (3, .int (zI ((i : Nat) : Int)))] := hl
      have hf1 := smr_lt64 wy rc op fr t.toNat i (by omega)
      have hf2 := god_lt64 wy (op t.toNat) i fr (by omega)
      have hf3 := hrc i
      have hf4 := popc_le6 i
      refine lv_iload_n hx hb dX1_someRooms_4 rfl (lv_at hl 3 rfl) ?_
      refine lv_iconst (v := zI 1) hx hb dX1_someRooms_5 rfl ?_
      refine lv_aload_n hx hb dX1_someRooms_6 rfl (lv_at hl 0 rfl) ?_
      refine va_get (D := D) (ci := 1) (v := .int (zI ((fr : Nat) : Int))) (C := RX1) (T := TX1) (N := 4) hx hb hts hinX1 hown hK hP 0 rfl rfl 3 (by decide) (hts (.fieldLink RX1 28 "SilentRent$Fitting" "rooms" "I") (List.mem_of_getElem? (i := 1) rfl)) (fun _ h9 => h9) rfl dX1_someRooms_7 ?_
      have hp1 := pow_le3 fr (by omega)
      refine z_ishl (r := ((2 ^ fr : Nat) : Int)) hx hb (zI_shl1 fr (by omega)) dX1_someRooms_10 ?_
      refine z_icmp_ge (tgt := 46) hx hb ⟨by omega, by omega⟩ ⟨by omega, by omega⟩ dX1_someRooms_11 (by decide) (fun c2 => ?_) (fun c2 => ?_)
      · have c2 : (2 ^ fr : Nat) ≤ (i : Nat) := by omega
        refine lv_iload_n hx hb dX1_someRooms_46 rfl (lv_at hl 2 rfl) ?_
        exact zr_iret hx hb hr hlocks hQ (by rw [show i = 2 ^ fr from by omega]) dX1_someRooms_47
      · have c2 : ¬ ((2 ^ fr : Nat) ≤ (i : Nat)) := by omega
        refine lv_aload_n hx hb dX1_someRooms_14 rfl (lv_at hl 0 rfl) ?_
        refine va_get (D := D) (ci := 1) (v := .ref (fa 2)) (C := RX1) (T := TX1) (N := 4) hx hb hts hinX1 hown hK hP 0 rfl rfl 1 (by decide) (hts (.fieldLink RX1 15 "SilentRent$Fitting" "reached" "[Z") (List.mem_of_getElem? (i := 2) rfl)) (fun _ h9 => h9) rfl dX1_someRooms_15 ?_
        refine lv_iload_n hx hb dX1_someRooms_18 rfl (lv_at hl 3 rfl) ?_
        refine z_zald hx hb hK hP 2 1 (f := rc) rfl rfl i rfl (by omega) (by decide) dX1_someRooms_19 ?_
        have hb3 := hrc i
        have J9 : ∀ (z8 : Nat), z8 = (if (rc i) = 0 then (smr wy rc op fr t.toNat i) else (if (popc i : Nat) = (t.toNat : Nat) then ((smr wy rc op fr t.toNat i) ||| (god wy (op t.toNat) i fr)) else (smr wy rc op fr t.toNat i))) → ∀ ls : Array Slot, lv_has ls 4 [(0, .ref (fa 0)), (1, .int (zI ((t.toNat : Nat) : Int))), (2, .int (zI ((z8 : Nat) : Int))), (3, .int (zI ((i : Nat) : Int)))] → W p l e rm_X1_someRooms s m args below meth c s.heap [] 0 0 Q (F0 m 40 ls []) := by
          intro z8 ez8 ls hl
          subst ez8
          refine z_iinc (r := ((i + 1 : Nat) : Int)) (lv' := [(3, .int (zI ((i + 1 : Nat) : Int))), (0, .ref (fa 0)), (1, .int (zI ((t.toNat : Nat) : Int))), (2, .int (zI (((if (rc i) = 0 then (smr wy rc op fr t.toNat i) else (if (popc i : Nat) = (t.toNat : Nat) then ((smr wy rc op fr t.toNat i) ||| (god wy (op t.toNat) i fr)) else (smr wy rc op fr t.toNat i))) : Nat) : Int)))]) hx hb (by omega) dX1_someRooms_40 hl (k := 3) rfl (by decide) rfl (fun ls hl => ?_)
          refine lv_goto (tgt := 4) hx hb dX1_someRooms_43 (by decide) ?_
          exact ih4 (i + 1) (by omega) (by omega) ((t.toNat : Nat) : Int) (by first | rfl | omega) (((if (rc i) = 0 then (smr wy rc op fr t.toNat i) else (if (popc i : Nat) = (t.toNat : Nat) then ((smr wy rc op fr t.toNat i) ||| (god wy (op t.toNat) i fr)) else (smr wy rc op fr t.toNat i))) : Nat) : Int) (by (simp only [smr, ors]) <;> (repeat' split) <;> first | rfl | omega | simp) ((i + 1 : Nat) : Int) (by first | rfl | omega) ls (lv_sub hl [1, 2, 3, 0] rfl)
        refine z_if_eq (tgt := 40) hx hb ⟨by omega, by omega⟩ dX1_someRooms_20 (by decide) (fun c4 => ?_) (fun c4 => ?_)
        · exact J9 (smr wy rc op fr t.toNat i) (by rw [if_pos c4]) ls (lv_sub hl [0, 1, 2, 3] rfl)
        · have hrci := hrc i
          refine lv_iload_n hx hb dX1_someRooms_23 rfl (lv_at hl 3 rfl) ?_
          have hPc5 := hP.sub (ws' := []) [] rfl
          refine zr_callS (rest := []) (As := [.int (zI ((i : Nat) : Int))]) (v := ((popc i : Nat) : Int)) (wd := []) ⟨hx, hb, hml, hown, hts⟩ (c_J6_bitCount_0f7a4 l D cy i (by omega)) (va_cwS 1 hts gX1_someRooms_J6_bitCount_0f7a4 rfl rfl rfl (by decide +kernel) ⟨Nat.le_of_ble_eq_true rfl, Nat.le_of_ble_eq_true rfl⟩) hK (fun k q h => by cases h) rfl hl.1 rfl (Nat.le_of_ble_eq_true rfl) dX1_someRooms_24 ⟨Nat.zero_le _, Nat.zero_le _⟩ ?_
          refine lv_iload_n hx hb dX1_someRooms_27 rfl (lv_at hl 1 rfl) ?_
          refine z_icmp_ne (tgt := 40) hx hb ⟨by omega, by omega⟩ ⟨by omega, by omega⟩ dX1_someRooms_28 (by decide) (fun c6 => ?_) (fun c6 => ?_)
          · have c6 : ¬ ((popc i : Nat) = (t.toNat : Nat)) := by omega
            exact J9 (smr wy rc op fr t.toNat i) (by rw [if_neg c4, if_neg c6]) ls (lv_sub hl [0, 1, 2, 3] rfl)
          · have c6 : (popc i : Nat) = (t.toNat : Nat) := by omega
            refine lv_iload_n hx hb dX1_someRooms_31 rfl (lv_at hl 2 rfl) ?_
            refine lv_aload_n hx hb dX1_someRooms_32 rfl (lv_at hl 0 rfl) ?_
            refine lv_iload_n hx hb dX1_someRooms_33 rfl (lv_at hl 1 rfl) ?_
            refine lv_iload_n hx hb dX1_someRooms_34 rfl (lv_at hl 3 rfl) ?_
            refine zr_callV (rest := [.int (zI ((smr wy rc op fr t.toNat i : Nat) : Int))]) (As := [.int (zI ((t.toNat : Nat) : Int)), .int (zI ((i : Nat) : Int))]) (v := ((god wy (op t.toNat) i fr : Nat) : Int)) ⟨hx, hb, hml, hown, hts⟩ (c_X1_goodRooms l D cy fa wy rc op fr t.toNat i (by omega) (by omega) (by omega) hop hwy) (cwV 2 hts gX1_someRooms_X1_goodRooms rfl rfl rfl (by decide +kernel) ⟨Nat.le_of_ble_eq_true rfl, Nat.le_of_ble_eq_true rfl⟩) hK hP 0 1 rfl rfl rfl hl.1 rfl (Nat.le_of_ble_eq_true rfl) dX1_someRooms_35 ⟨Nat.zero_le _, Nat.zero_le _⟩ ?_
            have hq7 := or_lt64 (a := (smr wy rc op fr t.toNat i)) (b := (god wy (op t.toNat) i fr)) (by omega) (by omega)
            refine z_ior (r := (((smr wy rc op fr t.toNat i) ||| (god wy (op t.toNat) i fr) : Nat) : Int)) hx hb (zI_or (a := smr wy rc op fr t.toNat i) (b := god wy (op t.toNat) i fr) (by omega) (by omega)) dX1_someRooms_38 ?_
            refine lv_istore_n (lv' := [(2, .int (zI (((smr wy rc op fr t.toNat i) ||| (god wy (op t.toNat) i fr) : Nat) : Int))), (0, .ref (fa 0)), (1, .int (zI ((t.toNat : Nat) : Int))), (3, .int (zI ((i : Nat) : Int)))]) hx hb dX1_someRooms_39 rfl hl (by decide) rfl (fun ls hl => ?_)
            exact J9 ((smr wy rc op fr t.toNat i) ||| (god wy (op t.toNat) i fr)) (by rw [if_neg c4, if_pos c6]) ls (lv_sub hl [1, 2, 0, 3] rfl)
  exact loop4 ((2 ^ fr - 0) + 1) 0 (by omega) (by omega) t (by omega) 0 (by first | rfl | omega | simp) 0 (by first | rfl | omega | simp) ls (lv_sub hl [2, 3, 1, 0] rfl)
abbrev rm_X1_reachFrom : Room := { frames := 0, cells := 0, slots := 0, locals := 0 }
set_option maxHeartbeats 4000000 in
set_option maxRecDepth 100000 in
theorem c_X1_reachFrom (l : Launch) (D : va_G) (cy : Nat → ClassId) (fa : Nat → Nat) (wy : Nat → Int) (rc : Nat → Int) (op : Nat → Nat) (fr : Nat) (t : Nat) (k : Nat) (ht0 : t < 6) (htk : k < 2 ^ fr) (hfr : fr ≤ 6) (hop : ∀ i, op i < 64) (hrc : ∀ k, rc k = 0 ∨ rc k = 1) : Met l yX1_reachFrom wsX1_reachFrom rm_X1_reachFrom (pM D cy [((fa 0), .inr (1, [.ref (fa 1), .ref (fa 2), .ref (fa 3), .int (zI ((fr : Nat) : Int))])), ((fa 1), .inl (cy 0, 64, .inl (zA wy))), ((fa 2), .inl (cy 1, 64, .inl (zA rc))), ((fa 3), .inl (cy 0, 6, .inl (zA (fun j => ((op j : Nat) : Int)))))] [.ref (fa 0), .int (zI ((t : Nat) : Int)), .int (zI ((k : Nat) : Int))]) (qM D none [((fa 0), .inr (1, [.ref (fa 1), .ref (fa 2), .ref (fa 3), .int (zI ((fr : Nat) : Int))])), ((fa 1), .inl (cy 0, 64, .inl (zA wy))), ((fa 2), .inl (cy 1, 64, .inl (zA rc))), ((fa 3), .inl (cy 0, 6, .inl (zA (fun j => ((op j : Nat) : Int)))))] [((fa 0), .inr (1, [.ref (fa 1), .ref (fa 2), .ref (fa 3), .int (zI ((fr : Nat) : Int))])), ((fa 1), .inl (cy 0, 64, .inl (zA wy))), ((fa 2), .inl (cy 1, 64, .inl (zA (rcf rc (op t) k fr)))), ((fa 3), .inl (cy 0, 6, .inl (zA (fun j => ((op j : Nat) : Int)))))]) 0 0 (inW [((fa 0), .inr (1, [.ref (fa 1), .ref (fa 2), .ref (fa 3), .int (zI ((fr : Nat) : Int))])), ((fa 1), .inl (cy 0, 64, .inl (zA wy))), ((fa 2), .inl (cy 1, 64, .inl (zA rc))), ((fa 3), .inl (cy 0, 6, .inl (zA (fun j => ((op j : Nat) : Int)))))]) := by
  refine met_M (cc := cX1_reachFrom) (maxL := 4) (ret := none) RX1 (by decide) rfl rfl (Nat.le_of_ble_eq_true rfl) ?_
  intro p e s m args below meth c ls Q A0 hx hb hr hml hts hown hlocks hQ hA0 hP hK hD hS hl
  have hl : lv_has ls 4 [(0, .ref (fa 0)), (1, .int (zI ((t : Nat) : Int))), (2, .int (zI ((k : Nat) : Int)))] := hl
  have hP : va_P D vwCl [((fa 0), .inr (1, [.ref (fa 1), .ref (fa 2), .ref (fa 3), .int (zI ((fr : Nat) : Int))])), ((fa 1), .inl (cy 0, 64, .inl (zA wy))), ((fa 2), .inl (cy 1, 64, .inl (zA rc))), ((fa 3), .inl (cy 0, 6, .inl (zA (fun j => ((op j : Nat) : Int)))))] s.heap := hP
  have hinX1 : ∀ w ∈ wsX10, w ∈ wsX1_reachFrom := (fun w h => List.mem_cons_of_mem _ (List.mem_append_right _ h))
  have hpw := pow_le64 fr (by omega)
  have hopt := hop t
  refine lv_iconst (v := zI 0) hx hb dX1_reachFrom_0 rfl ?_
  refine lv_istore_n (lv' := [(3, .int (zI 0)), (0, .ref (fa 0)), (1, .int (zI ((t : Nat) : Int))), (2, .int (zI ((k : Nat) : Int)))]) hx hb dX1_reachFrom_1 rfl hl (by decide) rfl (fun ls hl => ?_)
  have loop2 : ∀ (n9 : Nat) (i : Nat), fr - i < n9 → (i ≤ fr) → ∀ (x2_3 : Int), x2_3 = ((i : Nat) : Int) → ∀ (g2_rc : Nat → Int), g2_rc = (rcf rc (op t) k i) → ∀ (H : Heap) (locs : List Loc), va_P D vwCl [((fa 0), .inr (1, [.ref (fa 1), .ref (fa 2), .ref (fa 3), .int (zI ((fr : Nat) : Int))])), ((fa 1), .inl (cy 0, 64, .inl (zA wy))), ((fa 2), .inl (cy 1, 64, .inl (zA g2_rc))), ((fa 3), .inl (cy 0, 6, .inl (zA (fun j => ((op j : Nat) : Int)))))] H → va_D A0 [((fa 0), .inr (1, [.ref (fa 1), .ref (fa 2), .ref (fa 3), .int (zI ((fr : Nat) : Int))])), ((fa 1), .inl (cy 0, 64, .inl (zA wy))), ((fa 2), .inl (cy 1, 64, .inl (zA g2_rc))), ((fa 3), .inl (cy 0, 6, .inl (zA (fun j => ((op j : Nat) : Int)))))] → va_S A0 s.heap H locs → ∀ ls : Array Slot, lv_has ls 4 [(0, .ref (fa 0)), (1, .int (zI ((t : Nat) : Int))), (2, .int (zI ((k : Nat) : Int))), (3, .int (zI x2_3))] → W p l e rm_X1_reachFrom s m args below meth c H locs 0 0 Q (F0 m 2 ls []) := by
    intro n9
    induction n9 with
    | zero => intro i h9; exact absurd h9 (Nat.not_lt_zero _)
    | succ n9 ih2 =>
      intro i hmu2 hi x2_3 ex2_3 g2_rc eg2_rc H locs hP hD hS ls hl
      subst ex2_3
      subst eg2_rc
      have hl : lv_has ls 4 [(0, .ref (fa 0)), (1, .int (zI ((t : Nat) : Int))), (2, .int (zI ((k : Nat) : Int))), (3, .int (zI ((i : Nat) : Int)))] := hl
      have hP : va_P D vwCl [((fa 0), .inr (1, [.ref (fa 1), .ref (fa 2), .ref (fa 3), .int (zI ((fr : Nat) : Int))])), ((fa 1), .inl (cy 0, 64, .inl (zA wy))), ((fa 2), .inl (cy 1, 64, .inl (zA (rcf rc (op t) k i)))), ((fa 3), .inl (cy 0, 6, .inl (zA (fun j => ((op j : Nat) : Int)))))] H := hP
      have hD : va_D A0 [((fa 0), .inr (1, [.ref (fa 1), .ref (fa 2), .ref (fa 3), .int (zI ((fr : Nat) : Int))])), ((fa 1), .inl (cy 0, 64, .inl (zA wy))), ((fa 2), .inl (cy 1, 64, .inl (zA (rcf rc (op t) k i)))), ((fa 3), .inl (cy 0, 6, .inl (zA (fun j => ((op j : Nat) : Int)))))] := hD
      refine lv_iload_n hx hb dX1_reachFrom_2 rfl (lv_at hl 3 rfl) ?_
      refine lv_aload_n hx hb dX1_reachFrom_3 rfl (lv_at hl 0 rfl) ?_
      refine va_get (D := D) (ci := 1) (v := .int (zI ((fr : Nat) : Int))) (C := RX1) (T := TX1) (N := 4) hx hb hts hinX1 hown hK hP 0 rfl rfl 3 (by decide) (hts (.fieldLink RX1 28 "SilentRent$Fitting" "rooms" "I") (List.mem_of_getElem? (i := 1) rfl)) (fun _ h9 => h9) rfl dX1_reachFrom_4 ?_
      refine z_icmp_ge (tgt := 44) hx hb ⟨by omega, by omega⟩ ⟨by omega, by omega⟩ dX1_reachFrom_7 (by decide) (fun c1 => ?_) (fun c1 => ?_)
      · have c1 : (fr : Nat) ≤ (i : Nat) := by omega
        have hw2 : ((rcf rc (op t) k i) : Nat → Int) = (rcf rc (op t) k fr) := by rw [show i = fr from by omega]
        have hP : va_P D vwCl [((fa 0), .inr (1, [.ref (fa 1), .ref (fa 2), .ref (fa 3), .int (zI ((fr : Nat) : Int))])), ((fa 1), .inl (cy 0, 64, .inl (zA wy))), ((fa 2), .inl (cy 1, 64, .inl (zA (rcf rc (op t) k fr)))), ((fa 3), .inl (cy 0, 6, .inl (zA (fun j => ((op j : Nat) : Int)))))] H := by rw [← hw2]; exact hP
        exact zm_vret hx hb hr hlocks hQ hA0 hP hS dX1_reachFrom_44
      · have c1 : ¬ ((fr : Nat) ≤ (i : Nat)) := by omega
        refine lv_aload_n hx hb dX1_reachFrom_10 rfl (lv_at hl 0 rfl) ?_
        refine va_get (D := D) (ci := 1) (v := .ref (fa 3)) (C := RX1) (T := TX1) (N := 4) hx hb hts hinX1 hown hK hP 0 rfl rfl 2 (by decide) (hts (.fieldLink RX1 19 "SilentRent$Fitting" "open" "[I") (List.mem_of_getElem? (i := 2) rfl)) (fun _ h9 => h9) rfl dX1_reachFrom_11 ?_
        refine lv_iload_n hx hb dX1_reachFrom_14 rfl (lv_at hl 1 rfl) ?_
        refine z_iald hx hb hK hP 3 0 (f := (fun j => ((op j : Nat) : Int))) rfl rfl t rfl (by omega) (by decide) dX1_reachFrom_15 ?_
        have hb3 := hop t
        refine lv_iload_n hx hb dX1_reachFrom_16 rfl (lv_at hl 2 rfl) ?_
        refine lv_iconst (v := zI (-1)) hx hb dX1_reachFrom_17 rfl ?_
        refine z_ixor (r := (-((k : Nat) : Int) - 1)) hx hb (zI_not _) dX1_reachFrom_18 ?_
        have hn4 := ndiff_le (op t) k (by omega)
        refine z_iand (r := ((ndiff (op t) k : Nat) : Int)) hx hb (zI_andnot (a := op t) (b := k) (by omega) (by omega)) dX1_reachFrom_19 ?_
        refine lv_iload_n hx hb dX1_reachFrom_20 rfl (lv_at hl 3 rfl) ?_
        have hs5 := shr_le (ndiff (op t) k) i
        refine z_ishr (r := (((ndiff (op t) k) >>> i : Nat) : Int)) hx hb (zI_shr (a := ndiff (op t) k) (k := i) (by omega) (by omega)) dX1_reachFrom_21 ?_
        refine lv_iconst (v := zI 1) hx hb dX1_reachFrom_22 rfl ?_
        have hq6 : ((ndiff (op t) k) >>> i) &&& 1 ≤ ((ndiff (op t) k) >>> i) := Nat.and_le_left
        refine z_iand (r := ((((ndiff (op t) k) >>> i) &&& 1 : Nat) : Int)) hx hb (zI_and (a := (ndiff (op t) k) >>> i) (b := 1) (by omega) (by omega)) dX1_reachFrom_23 ?_
        have J11 : ∀ (g10 : Nat → Int), g10 = (if (((ndiff (op t) k) >>> i) &&& 1 : Nat) = (0 : Nat) then (rcf rc (op t) k i) else (va_up (rcf rc (op t) k i) (k ||| (2 ^ i)) 1)) → ∀ (H : Heap) (locs : List Loc), va_P D vwCl [((fa 0), .inr (1, [.ref (fa 1), .ref (fa 2), .ref (fa 3), .int (zI ((fr : Nat) : Int))])), ((fa 1), .inl (cy 0, 64, .inl (zA wy))), ((fa 2), .inl (cy 1, 64, .inl (zA g10))), ((fa 3), .inl (cy 0, 6, .inl (zA (fun j => ((op j : Nat) : Int)))))] H → va_D A0 [((fa 0), .inr (1, [.ref (fa 1), .ref (fa 2), .ref (fa 3), .int (zI ((fr : Nat) : Int))])), ((fa 1), .inl (cy 0, 64, .inl (zA wy))), ((fa 2), .inl (cy 1, 64, .inl (zA g10))), ((fa 3), .inl (cy 0, 6, .inl (zA (fun j => ((op j : Nat) : Int)))))] → va_S A0 s.heap H locs → ∀ ls : Array Slot, lv_has ls 4 [(0, .ref (fa 0)), (1, .int (zI ((t : Nat) : Int))), (2, .int (zI ((k : Nat) : Int))), (3, .int (zI ((i : Nat) : Int)))] → W p l e rm_X1_reachFrom s m args below meth c H locs 0 0 Q (F0 m 38 ls []) := by
          intro g10 eg10 H locs hP hD hS ls hl
          subst eg10
          refine z_iinc (r := ((i + 1 : Nat) : Int)) (lv' := [(3, .int (zI ((i + 1 : Nat) : Int))), (0, .ref (fa 0)), (1, .int (zI ((t : Nat) : Int))), (2, .int (zI ((k : Nat) : Int)))]) hx hb (by omega) dX1_reachFrom_38 hl (k := 3) rfl (by decide) rfl (fun ls hl => ?_)
          refine lv_goto (tgt := 2) hx hb dX1_reachFrom_41 (by decide) ?_
          exact ih2 (i + 1) (by omega) (by omega) ((i + 1 : Nat) : Int) (by first | rfl | omega) (if (((ndiff (op t) k) >>> i) &&& 1 : Nat) = (0 : Nat) then (rcf rc (op t) k i) else (va_up (rcf rc (op t) k i) (k ||| (2 ^ i)) 1)) (by (simp only [rcf]) <;> (repeat' split) <;> first | rfl | omega) _ _ hP hD hS ls (lv_sub hl [1, 2, 3, 0] rfl)
        refine z_if_eq (tgt := 38) hx hb ⟨by omega, by omega⟩ dX1_reachFrom_24 (by decide) (fun c7 => ?_) (fun c7 => ?_)
        · have c7 : (((ndiff (op t) k) >>> i) &&& 1 : Nat) = (0 : Nat) := by omega
          exact J11 (rcf rc (op t) k i) (by rw [if_pos c7]) _ _ hP hD hS ls (lv_sub hl [0, 1, 2, 3] rfl)
        · have c7 : ¬ ((((ndiff (op t) k) >>> i) &&& 1 : Nat) = (0 : Nat)) := by omega
          have hol : k ||| 2 ^ i < 2 ^ fr := Nat.or_lt_two_pow htk (Nat.pow_lt_pow_right (by decide) (by omega))
          refine lv_aload_n hx hb dX1_reachFrom_27 rfl (lv_at hl 0 rfl) ?_
          refine va_get (D := D) (ci := 1) (v := .ref (fa 2)) (C := RX1) (T := TX1) (N := 4) hx hb hts hinX1 hown hK hP 0 rfl rfl 1 (by decide) (hts (.fieldLink RX1 15 "SilentRent$Fitting" "reached" "[Z") (List.mem_of_getElem? (i := 3) rfl)) (fun _ h9 => h9) rfl dX1_reachFrom_28 ?_
          refine lv_iload_n hx hb dX1_reachFrom_31 rfl (lv_at hl 2 rfl) ?_
          refine lv_iconst (v := zI 1) hx hb dX1_reachFrom_32 rfl ?_
          refine lv_iload_n hx hb dX1_reachFrom_33 rfl (lv_at hl 3 rfl) ?_
          have hp8 := pow_le3 i (by omega)
          refine z_ishl (r := ((2 ^ i : Nat) : Int)) hx hb (zI_shl1 i (by omega)) dX1_reachFrom_34 ?_
          have hq9 := or_lt64 (a := k) (b := (2 ^ i)) (by omega) (by omega)
          refine z_ior (r := ((k ||| (2 ^ i) : Nat) : Int)) hx hb (zI_or (a := k) (b := 2 ^ i) (by omega) (by omega)) dX1_reachFrom_35 ?_
          refine lv_iconst (v := zI 1) hx hb dX1_reachFrom_36 rfl ?_
          refine z_zast hx hb hK hP hD hS 2 1 (f := (rcf rc (op t) k i)) rfl rfl (x := 1) (k ||| (2 ^ i)) rfl (by omega) (by decide) (by first | omega | (split <;> omega)) dX1_reachFrom_37 (fun H locs hP hD hS => ?_)
          have hP : va_P D vwCl [((fa 0), .inr (1, [.ref (fa 1), .ref (fa 2), .ref (fa 3), .int (zI ((fr : Nat) : Int))])), ((fa 1), .inl (cy 0, 64, .inl (zA wy))), ((fa 2), .inl (cy 1, 64, .inl (zA (va_up (rcf rc (op t) k i) (k ||| (2 ^ i)) 1)))), ((fa 3), .inl (cy 0, 6, .inl (zA (fun j => ((op j : Nat) : Int)))))] H := hP
          have hD : va_D A0 [((fa 0), .inr (1, [.ref (fa 1), .ref (fa 2), .ref (fa 3), .int (zI ((fr : Nat) : Int))])), ((fa 1), .inl (cy 0, 64, .inl (zA wy))), ((fa 2), .inl (cy 1, 64, .inl (zA (va_up (rcf rc (op t) k i) (k ||| (2 ^ i)) 1)))), ((fa 3), .inl (cy 0, 6, .inl (zA (fun j => ((op j : Nat) : Int)))))] := hD
          exact J11 (va_up (rcf rc (op t) k i) (k ||| (2 ^ i)) 1) (by rw [if_neg c7]) _ _ hP hD hS ls (lv_sub hl [0, 1, 2, 3] rfl)
  exact loop2 ((fr - 0) + 1) 0 (by omega) (by omega) 0 (by first | rfl | omega | simp) rc rfl _ _ hP hD hS ls (lv_sub hl [1, 2, 3, 0] rfl)
