/-! Text: its tokens -/
/-- from L - r on: the first place where P doesn't hold, or L -/
def run (P : Nat → Bool) (L : Nat) : Nat → Nat
  | 0 => L
  | r + 1 => if P (L - (r + 1)) = true then run P L r else L - (r + 1)
def rn (P : Nat → Bool) (L n : Nat) : Nat := run P L (L - n)
theorem rn_e (P : Nat → Bool) (L n : Nat) (h : ¬ n < L) : rn P L n = L := by
  unfold rn
  rw [show L - n = 0 from by omega]
  rfl
theorem rn_s (P : Nat → Bool) (L n : Nat) (h : n < L) : rn P L n = if P n = true then rn P L (n + 1) else n := by
  unfold rn
  rw [show L - n = (L - (n + 1)) + 1 from by omega]
  show (if P (L - ((L - (n + 1)) + 1)) = true then _ else L - ((L - (n + 1)) + 1)) = _
  rw [show L - ((L - (n + 1)) + 1) = n from by omega]
theorem rn_y {P : Nat → Bool} {L n : Nat} (h : n < L) (hp : P n = true) : rn P L n = rn P L (n + 1) := by rw [rn_s P L n h, if_pos hp]
theorem rn_n {P : Nat → Bool} {L n : Nat} (h : n < L) (hp : ¬ P n = true) : rn P L n = n := by rw [rn_s P L n h, if_neg hp]
theorem rn_in (P : Nat → Bool) (L : Nat) : ∀ (r n : Nat), L - n = r → n ≤ L → n ≤ rn P L n ∧ rn P L n ≤ L
  | 0, n, hr, hn => by rw [rn_e P L n (by omega)]; omega
  | r + 1, n, hr, hn => by
    have ih := rn_in P L r (n + 1) (by omega) (by omega)
    rw [rn_s P L n (by omega)]
    split <;> omega
theorem rn_le (P : Nat → Bool) {L n : Nat} (hn : n ≤ L) : n ≤ rn P L n ∧ rn P L n ≤ L := rn_in P L _ n rfl hn
def kd (c : Int) : Int := if 97 ≤ c ∧ c ≤ 122 then 1 else if 48 ≤ c ∧ c ≤ 57 then 2 else if c = 59 then 3 else 4
theorem kd_in (c : Int) : 1 ≤ kd c ∧ kd c ≤ 4 := by unfold kd; (repeat' split) <;> omega
def spB (f : Nat → Int) : Nat → Bool := fun i => decide (f i = 32)
def kdB (f : Nat → Int) (k : Int) : Nat → Bool := fun i => decide (kd (f i) = k)
def sT (f : Nat → Int) (L n : Nat) : Nat := rn (spB f) L n
def eS (f : Nat → Int) (L s : Nat) : Nat := if kd (f s) = 1 ∨ kd (f s) = 2 then rn (kdB f (kd (f s))) L (s + 1) else s + 1
def kS (f : Nat → Int) (L s : Nat) : Int := if kd (f s) = 2 then (if 2 < eS f L s - s ∨ (eS f L s - s = 2 ∧ f s = 48) then 4 else 2) else kd (f s)
def vS (f : Nat → Int) (L s : Nat) (v : Int) : Int := if kd (f s) = 1 then (if eS f L s - s = 1 then f s else 0) else if kd (f s) = 2 then (if 2 < eS f L s - s ∨ (eS f L s - s = 2 ∧ f s = 48) then v else if eS f L s - s = 2 then (f s - 48) * 10 + f (s + 1) - 48 else f s - 48) else v
def nT (f : Nat → Int) (L n : Nat) : Nat := if sT f L n < L then eS f L (sT f L n) else sT f L n
def kT (f : Nat → Int) (L n : Nat) : Int := if sT f L n < L then kS f L (sT f L n) else 0
def vT (f : Nat → Int) (L n : Nat) (v : Int) : Int := if sT f L n < L then vS f L (sT f L n) v else v
theorem sT_le (f : Nat → Int) {L n : Nat} (h : n ≤ L) : n ≤ sT f L n ∧ sT f L n ≤ L := rn_le _ h
theorem eS_le (f : Nat → Int) {L s : Nat} (h : s < L) : s + 1 ≤ eS f L s ∧ eS f L s ≤ L := by
  unfold eS
  have := rn_le (kdB f (kd (f s))) (show s + 1 ≤ L by omega)
  split <;> omega
theorem nT_le (f : Nat → Int) {L n : Nat} (h : n ≤ L) : n ≤ nT f L n ∧ nT f L n ≤ L := by
  have h1 := sT_le f h
  unfold nT
  split
  · have := eS_le f (show sT f L n < L by omega); omega
  · exact h1
theorem kS_in (f : Nat → Int) (L s : Nat) : 1 ≤ kS f L s ∧ kS f L s ≤ 4 := by
  have := kd_in (f s)
  unfold kS
  (repeat' split) <;> omega
theorem kT_in (f : Nat → Int) (L n : Nat) : 0 ≤ kT f L n ∧ kT f L n ≤ 4 := by
  have := kS_in f L (sT f L n)
  unfold kT
  split <;> omega
theorem vT_in {f : Nat → Int} (hf : ∀ k, 0 ≤ f k ∧ f k ≤ 255) (L n : Nat) {v : Int} (hv : -3000 ≤ v ∧ v ≤ 3000) : -3000 ≤ vT f L n v ∧ vT f L n v ≤ 3000 := by
  have h1 := hf (sT f L n)
  have h2 := hf (sT f L n + 1)
  unfold vT vS
  (repeat' split) <;> omega
abbrev okN (f : Nat → Int) (L n : Nat) (v lo hi : Int) : Prop := kT f L n = 2 ∧ lo ≤ vT f L n v ∧ vT f L n v ≤ hi
abbrev rm_X7_kindOf : Room := { frames := 0, cells := 0, slots := 0, locals := 0 }
set_option maxHeartbeats 4000000 in
set_option maxRecDepth 100000 in
theorem c_X7_kindOf (l : Launch) (D : va_G) (cy : Nat → ClassId) (c0 : Int) (hc0 : inR c0) : Met l yX7_kindOf wsX7_kindOf rm_X7_kindOf (pR D cy [] [.int (zI c0)]) (qR (kd c0)) 0 0 (fun _ => False) := by
  refine met_R (cc := cX7_kindOf) (maxL := 1) (ret := (some .int)) RX7 (by decide) rfl rfl (Nat.le_of_ble_eq_true rfl) ?_
  intro p e s m args below meth c ls Q hx hb hr hml hts hown hlocks hQ hP hK hl
  have hl : lv_has ls 1 [(0, .int (zI c0))] := hl
  refine lv_iload_n hx hb dX7_kindOf_0 rfl (lv_at hl 0 rfl) ?_
  refine lv_bipush (v := zI 97) hx hb dX7_kindOf_1 (by decide) ?_
  have J4 : (((c0 < 97)) ∨ ((¬ (c0 < 97)) ∧ (122 < c0))) → ∀ ls : Array Slot, lv_has ls 1 [(0, .int (zI c0))] → W p l e rm_X7_kindOf s m args below meth c s.heap [] 0 0 Q (F0 m 14 ls []) := by
    intro  hj3 ls hl
    refine lv_iload_n hx hb dX7_kindOf_14 rfl (lv_at hl 0 rfl) ?_
    refine lv_bipush (v := zI 48) hx hb dX7_kindOf_15 (by decide) ?_
    have J8 : (((c0 < 48)) ∨ ((¬ (c0 < 48)) ∧ (57 < c0))) → ∀ ls : Array Slot, lv_has ls 1 [(0, .int (zI c0))] → W p l e rm_X7_kindOf s m args below meth c s.heap [] 0 0 Q (F0 m 28 ls []) := by
      intro  hj7 ls hl
      refine lv_iload_n hx hb dX7_kindOf_28 rfl (lv_at hl 0 rfl) ?_
      refine lv_bipush (v := zI 59) hx hb dX7_kindOf_29 (by decide) ?_
      refine z_icmp_ne (tgt := 38) hx hb ⟨by omega, by omega⟩ ⟨by omega, by omega⟩ dX7_kindOf_31 (by decide) (fun c9 => ?_) (fun c9 => ?_)
      · refine lv_iconst (v := zI 4) hx hb dX7_kindOf_38 rfl ?_
        exact zr_iret hx hb hr hlocks hQ (by unfold kd; (repeat' split) <;> first | rfl | omega) dX7_kindOf_39
      · refine lv_iconst (v := zI 3) hx hb dX7_kindOf_34 rfl ?_
        refine lv_goto (tgt := 39) hx hb dX7_kindOf_35 (by decide) ?_
        exact zr_iret hx hb hr hlocks hQ (by unfold kd; (repeat' split) <;> first | rfl | omega) dX7_kindOf_39
    refine z_icmp_lt (tgt := 28) hx hb ⟨by omega, by omega⟩ ⟨by omega, by omega⟩ dX7_kindOf_17 (by decide) (fun c5 => ?_) (fun c5 => ?_)
    · exact J8 (Or.inl c5) ls (lv_sub hl [0] rfl)
    · refine lv_iload_n hx hb dX7_kindOf_20 rfl (lv_at hl 0 rfl) ?_
      refine lv_bipush (v := zI 57) hx hb dX7_kindOf_21 (by decide) ?_
      refine z_icmp_gt (tgt := 28) hx hb ⟨by omega, by omega⟩ ⟨by omega, by omega⟩ dX7_kindOf_23 (by decide) (fun c6 => ?_) (fun c6 => ?_)
      · exact J8 (Or.inr ⟨c5, c6⟩) ls (lv_sub hl [0] rfl)
      · refine lv_iconst (v := zI 2) hx hb dX7_kindOf_26 rfl ?_
        exact zr_iret hx hb hr hlocks hQ (by unfold kd; (repeat' split) <;> first | rfl | omega) dX7_kindOf_27
  refine z_icmp_lt (tgt := 14) hx hb ⟨by omega, by omega⟩ ⟨by omega, by omega⟩ dX7_kindOf_3 (by decide) (fun c1 => ?_) (fun c1 => ?_)
  · exact J4 (Or.inl c1) ls (lv_sub hl [0] rfl)
  · refine lv_iload_n hx hb dX7_kindOf_6 rfl (lv_at hl 0 rfl) ?_
    refine lv_bipush (v := zI 122) hx hb dX7_kindOf_7 (by decide) ?_
    refine z_icmp_gt (tgt := 14) hx hb ⟨by omega, by omega⟩ ⟨by omega, by omega⟩ dX7_kindOf_9 (by decide) (fun c2 => ?_) (fun c2 => ?_)
    · exact J4 (Or.inr ⟨c1, c2⟩) ls (lv_sub hl [0] rfl)
    · refine lv_iconst (v := zI 1) hx hb dX7_kindOf_12 rfl ?_
      exact zr_iret hx hb hr hlocks hQ (by unfold kd; (repeat' split) <;> first | rfl | omega) dX7_kindOf_13
abbrev rm_X7_takeDigits : Room := { frames := 0, cells := 0, slots := 0, locals := 0 }
set_option maxHeartbeats 4000000 in
set_option maxRecDepth 100000 in
theorem c_X7_takeDigits (l : Launch) (D : va_G) (cy : Nat → ClassId) (xa : Nat → Nat) (xt : Nat → Int) (xl : Nat) (xn : Nat) (xs : Nat) (xk : Int) (xv : Int) (hxl : xl ≤ 200) (hxn : xn ≤ xl) (hxs : xs < xn) (hxt : ∀ k, 0 ≤ xt k ∧ xt k ≤ 255) : Met l yX7_takeDigits wsX7_takeDigits rm_X7_takeDigits (pM D cy [((xa 0), .inr (7, [.ref (xa 1), .int (zI ((xl : Nat) : Int)), .int (zI ((xn : Nat) : Int)), .int (zI ((xs : Nat) : Int)), .int (zI xk), .int (zI xv)])), ((xa 1), .inl (cy 0, 200, .inl (zA xt)))] [.ref (xa 0)]) (qM D none [((xa 0), .inr (7, [.ref (xa 1), .int (zI ((xl : Nat) : Int)), .int (zI ((xn : Nat) : Int)), .int (zI ((xs : Nat) : Int)), .int (zI xk), .int (zI xv)])), ((xa 1), .inl (cy 0, 200, .inl (zA xt)))] [((xa 0), .inr (7, [.ref (xa 1), .int (zI ((xl : Nat) : Int)), .int (zI ((xn : Nat) : Int)), .int (zI ((xs : Nat) : Int)), .int (zI (if (2 < xn - xs ∨ (xn - xs = 2 ∧ xt xs = 48)) then 4 else xk)), .int (zI (if (2 < xn - xs ∨ (xn - xs = 2 ∧ xt xs = 48)) then xv else if xn - xs = 2 then (xt xs - 48) * 10 + xt (xs + 1) - 48 else xt xs - 48))])), ((xa 1), .inl (cy 0, 200, .inl (zA xt)))]) 0 0 (inW [((xa 0), .inr (7, [.ref (xa 1), .int (zI ((xl : Nat) : Int)), .int (zI ((xn : Nat) : Int)), .int (zI ((xs : Nat) : Int)), .int (zI xk), .int (zI xv)])), ((xa 1), .inl (cy 0, 200, .inl (zA xt)))]) := by
  refine met_M (cc := cX7_takeDigits) (maxL := 2) (ret := none) RX7 (by decide) rfl rfl (Nat.le_of_ble_eq_true rfl) ?_
  intro p e s m args below meth c ls Q A0 hx hb hr hml hts hown hlocks hQ hA0 hP hK hD hS hl
  have hl : lv_has ls 2 [(0, .ref (xa 0))] := hl
  have hP : va_P D vwCl [((xa 0), .inr (7, [.ref (xa 1), .int (zI ((xl : Nat) : Int)), .int (zI ((xn : Nat) : Int)), .int (zI ((xs : Nat) : Int)), .int (zI xk), .int (zI xv)])), ((xa 1), .inl (cy 0, 200, .inl (zA xt)))] s.heap := hP
  have hinX7 : ∀ w ∈ wsX70, w ∈ wsX7_takeDigits := (fun w h => List.mem_cons_of_mem _ (List.mem_append_right _ h))
  refine lv_aload_n hx hb dX7_takeDigits_0 rfl (lv_at hl 0 rfl) ?_
  refine va_get (D := D) (ci := 7) (v := .int (zI ((xn : Nat) : Int))) (C := RX7) (T := TX7) (N := 6) hx hb hts hinX7 hown hK hP 0 rfl rfl 2 (by decide) (hts (.fieldLink RX7 27 "SilentRent$Text" "next" "I") (List.mem_of_getElem? (i := 1) rfl)) (fun _ h9 => h9) rfl dX7_takeDigits_1 ?_
  refine lv_aload_n hx hb dX7_takeDigits_4 rfl (lv_at hl 0 rfl) ?_
  refine va_get (D := D) (ci := 7) (v := .int (zI ((xs : Nat) : Int))) (C := RX7) (T := TX7) (N := 6) hx hb hts hinX7 hown hK hP 0 rfl rfl 3 (by decide) (hts (.fieldLink RX7 43 "SilentRent$Text" "start" "I") (List.mem_of_getElem? (i := 2) rfl)) (fun _ h9 => h9) rfl dX7_takeDigits_5 ?_
  refine z_isub (r := ((xn - xs : Nat) : Int)) hx hb (by omega) dX7_takeDigits_8 ?_
  refine lv_istore_n (lv' := [(1, .int (zI ((xn - xs : Nat) : Int))), (0, .ref (xa 0))]) hx hb dX7_takeDigits_9 rfl hl (by decide) rfl (fun ls hl => ?_)
  refine lv_iload_n hx hb dX7_takeDigits_10 rfl (lv_at hl 0 rfl) ?_
  refine lv_iconst (v := zI 2) hx hb dX7_takeDigits_11 rfl ?_
  have J15 : ((((2 : Nat) < (xn - xs : Nat))) ∨ ((¬ ((2 : Nat) < (xn - xs : Nat))) ∧ ((xn - xs : Nat) = (2 : Nat)) ∧ ((xt xs) = 48))) → ∀ (H : Heap) (locs : List Loc), va_P D vwCl [((xa 0), .inr (7, [.ref (xa 1), .int (zI ((xl : Nat) : Int)), .int (zI ((xn : Nat) : Int)), .int (zI ((xs : Nat) : Int)), .int (zI xk), .int (zI xv)])), ((xa 1), .inl (cy 0, 200, .inl (zA xt)))] H → va_D A0 [((xa 0), .inr (7, [.ref (xa 1), .int (zI ((xl : Nat) : Int)), .int (zI ((xn : Nat) : Int)), .int (zI ((xs : Nat) : Int)), .int (zI xk), .int (zI xv)])), ((xa 1), .inl (cy 0, 200, .inl (zA xt)))] → va_S A0 s.heap H locs → ∀ ls : Array Slot, lv_has ls 2 [(0, .ref (xa 0)), (1, .int (zI ((xn - xs : Nat) : Int)))] → W p l e rm_X7_takeDigits s m args below meth c H locs 0 0 Q (F0 m 34 ls []) := by
    intro  hj14 H locs hP hD hS ls hl
    refine lv_aload_n hx hb dX7_takeDigits_34 rfl (lv_at hl 0 rfl) ?_
    refine lv_iconst (v := zI 4) hx hb dX7_takeDigits_35 rfl ?_
    refine va_put (D := D) (ci := 7) (v := .int (zI 4)) (ty := .int) (C := RX7) (T := TX7) (N := 6) hx hb hts hinX7 tyX7 tyX7_ok nmX7 hown hK hP hD hS 0 rfl rfl 4 (by decide) (hts (.fieldLink RX7 36 "SilentRent$Text" "token" "I") (List.mem_of_getElem? (i := 4) rfl)) (fun _ h9 => h9) rfl (by decide +kernel) rfl rfl (Nat.le_of_ble_eq_true rfl) dX7_takeDigits_36 (fun H locs hP hD hS => ?_)
    have hP : va_P D vwCl [((xa 0), .inr (7, [.ref (xa 1), .int (zI ((xl : Nat) : Int)), .int (zI ((xn : Nat) : Int)), .int (zI ((xs : Nat) : Int)), .int (zI 4), .int (zI xv)])), ((xa 1), .inl (cy 0, 200, .inl (zA xt)))] H := hP
    have hD : va_D A0 [((xa 0), .inr (7, [.ref (xa 1), .int (zI ((xl : Nat) : Int)), .int (zI ((xn : Nat) : Int)), .int (zI ((xs : Nat) : Int)), .int (zI 4), .int (zI xv)])), ((xa 1), .inl (cy 0, 200, .inl (zA xt)))] := hD
    have hw16 : (4 : Int) = (if (2 < xn - xs ∨ (xn - xs = 2 ∧ xt xs = 48)) then 4 else xk) := by (repeat' split) <;> first | rfl | omega
    have hw17 : (xv : Int) = (if (2 < xn - xs ∨ (xn - xs = 2 ∧ xt xs = 48)) then xv else if xn - xs = 2 then (xt xs - 48) * 10 + xt (xs + 1) - 48 else xt xs - 48) := by (repeat' split) <;> first | rfl | omega
    have hP : va_P D vwCl [((xa 0), .inr (7, [.ref (xa 1), .int (zI ((xl : Nat) : Int)), .int (zI ((xn : Nat) : Int)), .int (zI ((xs : Nat) : Int)), .int (zI (if (2 < xn - xs ∨ (xn - xs = 2 ∧ xt xs = 48)) then 4 else xk)), .int (zI (if (2 < xn - xs ∨ (xn - xs = 2 ∧ xt xs = 48)) then xv else if xn - xs = 2 then (xt xs - 48) * 10 + xt (xs + 1) - 48 else xt xs - 48))])), ((xa 1), .inl (cy 0, 200, .inl (zA xt)))] H := by rw [← hw16, ← hw17]; exact hP
    exact zm_vret hx hb hr hlocks hQ hA0 hP hS dX7_takeDigits_39
  refine z_icmp_gt (tgt := 34) hx hb ⟨by omega, by omega⟩ ⟨by omega, by omega⟩ dX7_takeDigits_12 (by decide) (fun c1 => ?_) (fun c1 => ?_)
  · have c1 : (2 : Nat) < (xn - xs : Nat) := by omega
    exact J15 (Or.inl c1) _ _ hP hD hS ls (lv_sub hl [1, 0] rfl)
  · have c1 : ¬ ((2 : Nat) < (xn - xs : Nat)) := by omega
    refine lv_iload_n hx hb dX7_takeDigits_15 rfl (lv_at hl 0 rfl) ?_
    refine lv_iconst (v := zI 2) hx hb dX7_takeDigits_16 rfl ?_
    have J6 : (((¬ ((xn - xs : Nat) = (2 : Nat)))) ∨ (((xn - xs : Nat) = (2 : Nat)) ∧ (¬ ((xt xs) = 48)))) → ∀ (H : Heap) (locs : List Loc), va_P D vwCl [((xa 0), .inr (7, [.ref (xa 1), .int (zI ((xl : Nat) : Int)), .int (zI ((xn : Nat) : Int)), .int (zI ((xs : Nat) : Int)), .int (zI xk), .int (zI xv)])), ((xa 1), .inl (cy 0, 200, .inl (zA xt)))] H → va_D A0 [((xa 0), .inr (7, [.ref (xa 1), .int (zI ((xl : Nat) : Int)), .int (zI ((xn : Nat) : Int)), .int (zI ((xs : Nat) : Int)), .int (zI xk), .int (zI xv)])), ((xa 1), .inl (cy 0, 200, .inl (zA xt)))] → va_S A0 s.heap H locs → ∀ ls : Array Slot, lv_has ls 2 [(0, .ref (xa 0)), (1, .int (zI ((xn - xs : Nat) : Int)))] → W p l e rm_X7_takeDigits s m args below meth c H locs 0 0 Q (F0 m 40 ls []) := by
      intro  hj5 H locs hP hD hS ls hl
      refine lv_aload_n hx hb dX7_takeDigits_40 rfl (lv_at hl 0 rfl) ?_
      refine lv_aload_n hx hb dX7_takeDigits_41 rfl (lv_at hl 0 rfl) ?_
      refine va_get (D := D) (ci := 7) (v := .ref (xa 1)) (C := RX7) (T := TX7) (N := 6) hx hb hts hinX7 hown hK hP 0 rfl rfl 0 (by decide) (hts (.fieldLink RX7 9 "SilentRent$Text" "bytes" "[I") (List.mem_of_getElem? (i := 3) rfl)) (fun _ h9 => h9) rfl dX7_takeDigits_42 ?_
      refine lv_aload_n hx hb dX7_takeDigits_45 rfl (lv_at hl 0 rfl) ?_
      refine va_get (D := D) (ci := 7) (v := .int (zI ((xs : Nat) : Int))) (C := RX7) (T := TX7) (N := 6) hx hb hts hinX7 hown hK hP 0 rfl rfl 3 (by decide) (hts (.fieldLink RX7 43 "SilentRent$Text" "start" "I") (List.mem_of_getElem? (i := 2) rfl)) (fun _ h9 => h9) rfl dX7_takeDigits_46 ?_
      refine z_iald hx hb hK hP 1 0 (f := xt) rfl rfl xs rfl (by omega) (by decide) dX7_takeDigits_49 ?_
      have hb7 := hxt xs
      refine lv_bipush (v := zI 48) hx hb dX7_takeDigits_50 (by decide) ?_
      refine z_isub (r := ((xt xs) - 48)) hx hb rfl dX7_takeDigits_52 ?_
      refine va_put (D := D) (ci := 7) (v := .int (zI ((xt xs) - 48))) (ty := .int) (C := RX7) (T := TX7) (N := 6) hx hb hts hinX7 tyX7 tyX7_ok nmX7 hown hK hP hD hS 0 rfl rfl 5 (by decide) (hts (.fieldLink RX7 46 "SilentRent$Text" "value" "I") (List.mem_of_getElem? (i := 5) rfl)) (fun _ h9 => h9) rfl (by decide +kernel) rfl rfl (Nat.le_of_ble_eq_true rfl) dX7_takeDigits_53 (fun H locs hP hD hS => ?_)
      have hP : va_P D vwCl [((xa 0), .inr (7, [.ref (xa 1), .int (zI ((xl : Nat) : Int)), .int (zI ((xn : Nat) : Int)), .int (zI ((xs : Nat) : Int)), .int (zI xk), .int (zI ((xt xs) - 48))])), ((xa 1), .inl (cy 0, 200, .inl (zA xt)))] H := hP
      have hD : va_D A0 [((xa 0), .inr (7, [.ref (xa 1), .int (zI ((xl : Nat) : Int)), .int (zI ((xn : Nat) : Int)), .int (zI ((xs : Nat) : Int)), .int (zI xk), .int (zI ((xt xs) - 48))])), ((xa 1), .inl (cy 0, 200, .inl (zA xt)))] := hD
      refine lv_iload_n hx hb dX7_takeDigits_56 rfl (lv_at hl 1 rfl) ?_
      refine lv_iconst (v := zI 2) hx hb dX7_takeDigits_57 rfl ?_
      refine z_icmp_ne (tgt := 87) hx hb ⟨by omega, by omega⟩ ⟨by omega, by omega⟩ dX7_takeDigits_58 (by decide) (fun c8 => ?_) (fun c8 => ?_)
      · have c8 : ¬ ((xn - xs : Nat) = (2 : Nat)) := by omega
        have hw9 : (xk : Int) = (if (2 < xn - xs ∨ (xn - xs = 2 ∧ xt xs = 48)) then 4 else xk) := by (repeat' split) <;> first | rfl | omega
        have hw10 : (((xt xs) - 48) : Int) = (if (2 < xn - xs ∨ (xn - xs = 2 ∧ xt xs = 48)) then xv else if xn - xs = 2 then (xt xs - 48) * 10 + xt (xs + 1) - 48 else xt xs - 48) := by (repeat' split) <;> first | rfl | omega
        have hP : va_P D vwCl [((xa 0), .inr (7, [.ref (xa 1), .int (zI ((xl : Nat) : Int)), .int (zI ((xn : Nat) : Int)), .int (zI ((xs : Nat) : Int)), .int (zI (if (2 < xn - xs ∨ (xn - xs = 2 ∧ xt xs = 48)) then 4 else xk)), .int (zI (if (2 < xn - xs ∨ (xn - xs = 2 ∧ xt xs = 48)) then xv else if xn - xs = 2 then (xt xs - 48) * 10 + xt (xs + 1) - 48 else xt xs - 48))])), ((xa 1), .inl (cy 0, 200, .inl (zA xt)))] H := by rw [← hw9, ← hw10]; exact hP
        exact zm_vret hx hb hr hlocks hQ hA0 hP hS dX7_takeDigits_87
      · have c8 : (xn - xs : Nat) = (2 : Nat) := by omega
        refine lv_aload_n hx hb dX7_takeDigits_61 rfl (lv_at hl 0 rfl) ?_
        refine lv_aload_n hx hb dX7_takeDigits_62 rfl (lv_at hl 0 rfl) ?_
        refine va_get (D := D) (ci := 7) (v := .int (zI ((xt xs) - 48))) (C := RX7) (T := TX7) (N := 6) hx hb hts hinX7 hown hK hP 0 rfl rfl 5 (by decide) (hts (.fieldLink RX7 46 "SilentRent$Text" "value" "I") (List.mem_of_getElem? (i := 5) rfl)) (fun _ h9 => h9) rfl dX7_takeDigits_63 ?_
        refine lv_bipush (v := zI 10) hx hb dX7_takeDigits_66 (by decide) ?_
        refine z_imul (r := (((xt xs) - 48) * 10)) hx hb rfl dX7_takeDigits_68 ?_
        refine lv_aload_n hx hb dX7_takeDigits_69 rfl (lv_at hl 0 rfl) ?_
        refine va_get (D := D) (ci := 7) (v := .ref (xa 1)) (C := RX7) (T := TX7) (N := 6) hx hb hts hinX7 hown hK hP 0 rfl rfl 0 (by decide) (hts (.fieldLink RX7 9 "SilentRent$Text" "bytes" "[I") (List.mem_of_getElem? (i := 3) rfl)) (fun _ h9 => h9) rfl dX7_takeDigits_70 ?_
        refine lv_aload_n hx hb dX7_takeDigits_73 rfl (lv_at hl 0 rfl) ?_
        refine va_get (D := D) (ci := 7) (v := .int (zI ((xs : Nat) : Int))) (C := RX7) (T := TX7) (N := 6) hx hb hts hinX7 hown hK hP 0 rfl rfl 3 (by decide) (hts (.fieldLink RX7 43 "SilentRent$Text" "start" "I") (List.mem_of_getElem? (i := 2) rfl)) (fun _ h9 => h9) rfl dX7_takeDigits_74 ?_
        refine lv_iconst (v := zI 1) hx hb dX7_takeDigits_77 rfl ?_
        refine z_iadd (r := ((xs + 1 : Nat) : Int)) hx hb (by omega) dX7_takeDigits_78 ?_
        refine z_iald hx hb hK hP 1 0 (f := xt) rfl rfl (xs + 1) rfl (by omega) (by decide) dX7_takeDigits_79 ?_
        have hb11 := hxt (xs + 1)
        refine z_iadd (r := ((((xt xs) - 48) * 10) + (xt (xs + 1)))) hx hb rfl dX7_takeDigits_80 ?_
        refine lv_bipush (v := zI 48) hx hb dX7_takeDigits_81 (by decide) ?_
        refine z_isub (r := (((((xt xs) - 48) * 10) + (xt (xs + 1))) - 48)) hx hb rfl dX7_takeDigits_83 ?_
        refine va_put (D := D) (ci := 7) (v := .int (zI (((((xt xs) - 48) * 10) + (xt (xs + 1))) - 48))) (ty := .int) (C := RX7) (T := TX7) (N := 6) hx hb hts hinX7 tyX7 tyX7_ok nmX7 hown hK hP hD hS 0 rfl rfl 5 (by decide) (hts (.fieldLink RX7 46 "SilentRent$Text" "value" "I") (List.mem_of_getElem? (i := 5) rfl)) (fun _ h9 => h9) rfl (by decide +kernel) rfl rfl (Nat.le_of_ble_eq_true rfl) dX7_takeDigits_84 (fun H locs hP hD hS => ?_)
        have hP : va_P D vwCl [((xa 0), .inr (7, [.ref (xa 1), .int (zI ((xl : Nat) : Int)), .int (zI ((xn : Nat) : Int)), .int (zI ((xs : Nat) : Int)), .int (zI xk), .int (zI (((((xt xs) - 48) * 10) + (xt (xs + 1))) - 48))])), ((xa 1), .inl (cy 0, 200, .inl (zA xt)))] H := hP
        have hD : va_D A0 [((xa 0), .inr (7, [.ref (xa 1), .int (zI ((xl : Nat) : Int)), .int (zI ((xn : Nat) : Int)), .int (zI ((xs : Nat) : Int)), .int (zI xk), .int (zI (((((xt xs) - 48) * 10) + (xt (xs + 1))) - 48))])), ((xa 1), .inl (cy 0, 200, .inl (zA xt)))] := hD
        have hw12 : (xk : Int) = (if (2 < xn - xs ∨ (xn - xs = 2 ∧ xt xs = 48)) then 4 else xk) := by (repeat' split) <;> first | rfl | omega
        have hw13 : ((((((xt xs) - 48) * 10) + (xt (xs + 1))) - 48) : Int) = (if (2 < xn - xs ∨ (xn - xs = 2 ∧ xt xs = 48)) then xv else if xn - xs = 2 then (xt xs - 48) * 10 + xt (xs + 1) - 48 else xt xs - 48) := by (repeat' split) <;> first | rfl | omega
        have hP : va_P D vwCl [((xa 0), .inr (7, [.ref (xa 1), .int (zI ((xl : Nat) : Int)), .int (zI ((xn : Nat) : Int)), .int (zI ((xs : Nat) : Int)), .int (zI (if (2 < xn - xs ∨ (xn - xs = 2 ∧ xt xs = 48)) then 4 else xk)), .int (zI (if (2 < xn - xs ∨ (xn - xs = 2 ∧ xt xs = 48)) then xv else if xn - xs = 2 then (xt xs - 48) * 10 + xt (xs + 1) - 48 else xt xs - 48))])), ((xa 1), .inl (cy 0, 200, .inl (zA xt)))] H := by rw [← hw12, ← hw13]; exact hP
        exact zm_vret hx hb hr hlocks hQ hA0 hP hS dX7_takeDigits_87
    refine z_icmp_ne (tgt := 40) hx hb ⟨by omega, by omega⟩ ⟨by omega, by omega⟩ dX7_takeDigits_17 (by decide) (fun c2 => ?_) (fun c2 => ?_)
    · have c2 : ¬ ((xn - xs : Nat) = (2 : Nat)) := by omega
      exact J6 (Or.inl c2) _ _ hP hD hS ls (lv_sub hl [1, 0] rfl)
    · have c2 : (xn - xs : Nat) = (2 : Nat) := by omega
      refine lv_aload_n hx hb dX7_takeDigits_20 rfl (lv_at hl 1 rfl) ?_
      refine va_get (D := D) (ci := 7) (v := .ref (xa 1)) (C := RX7) (T := TX7) (N := 6) hx hb hts hinX7 hown hK hP 0 rfl rfl 0 (by decide) (hts (.fieldLink RX7 9 "SilentRent$Text" "bytes" "[I") (List.mem_of_getElem? (i := 3) rfl)) (fun _ h9 => h9) rfl dX7_takeDigits_21 ?_
      refine lv_aload_n hx hb dX7_takeDigits_24 rfl (lv_at hl 1 rfl) ?_
      refine va_get (D := D) (ci := 7) (v := .int (zI ((xs : Nat) : Int))) (C := RX7) (T := TX7) (N := 6) hx hb hts hinX7 hown hK hP 0 rfl rfl 3 (by decide) (hts (.fieldLink RX7 43 "SilentRent$Text" "start" "I") (List.mem_of_getElem? (i := 2) rfl)) (fun _ h9 => h9) rfl dX7_takeDigits_25 ?_
      refine z_iald hx hb hK hP 1 0 (f := xt) rfl rfl xs rfl (by omega) (by decide) dX7_takeDigits_28 ?_
      have hb3 := hxt xs
      refine lv_bipush (v := zI 48) hx hb dX7_takeDigits_29 (by decide) ?_
      refine z_icmp_ne (tgt := 40) hx hb ⟨by omega, by omega⟩ ⟨by omega, by omega⟩ dX7_takeDigits_31 (by decide) (fun c4 => ?_) (fun c4 => ?_)
      · exact J6 (Or.inr ⟨c2, c4⟩) _ _ hP hD hS ls (lv_sub hl [1, 0] rfl)
      · exact J15 (Or.inr ⟨c1, c2, c4⟩) _ _ hP hD hS ls (lv_sub hl [1, 0] rfl)
abbrev rm_X7_step : Room := { frames := 1, cells := 0, slots := 0, locals := 21 }
set_option maxHeartbeats 4000000 in
set_option maxRecDepth 100000 in
theorem c_X7_step (l : Launch) (D : va_G) (cy : Nat → ClassId) (xa : Nat → Nat) (xt : Nat → Int) (xl : Nat) (xn : Nat) (xs : Nat) (xk : Int) (xv : Int) (hxl : xl ≤ 200) (hxn : xn ≤ xl) (hxv : -3000 ≤ xv ∧ xv ≤ 3000) (hxt : ∀ k, 0 ≤ xt k ∧ xt k ≤ 255) : Met l yX7_step wsX7_step rm_X7_step (pM D cy [((xa 0), .inr (7, [.ref (xa 1), .int (zI ((xl : Nat) : Int)), .int (zI ((xn : Nat) : Int)), .int (zI ((xs : Nat) : Int)), .int (zI xk), .int (zI xv)])), ((xa 1), .inl (cy 0, 200, .inl (zA xt)))] [.ref (xa 0)]) (qM D none [((xa 0), .inr (7, [.ref (xa 1), .int (zI ((xl : Nat) : Int)), .int (zI ((xn : Nat) : Int)), .int (zI ((xs : Nat) : Int)), .int (zI xk), .int (zI xv)])), ((xa 1), .inl (cy 0, 200, .inl (zA xt)))] [((xa 0), .inr (7, [.ref (xa 1), .int (zI ((xl : Nat) : Int)), .int (zI ((nT xt xl xn : Nat) : Int)), .int (zI ((sT xt xl xn : Nat) : Int)), .int (zI (kT xt xl xn)), .int (zI (vT xt xl xn xv))])), ((xa 1), .inl (cy 0, 200, .inl (zA xt)))]) 0 0 (inW [((xa 0), .inr (7, [.ref (xa 1), .int (zI ((xl : Nat) : Int)), .int (zI ((xn : Nat) : Int)), .int (zI ((xs : Nat) : Int)), .int (zI xk), .int (zI xv)])), ((xa 1), .inl (cy 0, 200, .inl (zA xt)))]) := by
  refine met_M (cc := cX7_step) (maxL := 1) (ret := none) RX7 (by decide) rfl rfl (Nat.le_of_ble_eq_true rfl) ?_
  intro p e s m args below meth c ls Q A0 hx hb hr hml hts hown hlocks hQ hA0 hP hK hD hS hl
  have hl : lv_has ls 1 [(0, .ref (xa 0))] := hl
  have hP : va_P D vwCl [((xa 0), .inr (7, [.ref (xa 1), .int (zI ((xl : Nat) : Int)), .int (zI ((xn : Nat) : Int)), .int (zI ((xs : Nat) : Int)), .int (zI xk), .int (zI xv)])), ((xa 1), .inl (cy 0, 200, .inl (zA xt)))] s.heap := hP
  have hinX7 : ∀ w ∈ wsX70, w ∈ wsX7_step := (fun w h => List.mem_cons_of_mem _ (List.mem_append_right _ h))
  have loop0 : ∀ (n9 : Nat) (i : Nat), xl - i < n9 → (xn ≤ i ∧ i ≤ xl) → (sT xt xl xn = rn (spB xt) xl i) → ∀ (g0_xn : Nat), g0_xn = i → ∀ (H : Heap) (locs : List Loc), va_P D vwCl [((xa 0), .inr (7, [.ref (xa 1), .int (zI ((xl : Nat) : Int)), .int (zI ((g0_xn : Nat) : Int)), .int (zI ((xs : Nat) : Int)), .int (zI xk), .int (zI xv)])), ((xa 1), .inl (cy 0, 200, .inl (zA xt)))] H → va_D A0 [((xa 0), .inr (7, [.ref (xa 1), .int (zI ((xl : Nat) : Int)), .int (zI ((g0_xn : Nat) : Int)), .int (zI ((xs : Nat) : Int)), .int (zI xk), .int (zI xv)])), ((xa 1), .inl (cy 0, 200, .inl (zA xt)))] → va_S A0 s.heap H locs → ∀ ls : Array Slot, lv_has ls 1 [(0, .ref (xa 0))] → W p l e rm_X7_step s m args below meth c H locs 0 0 Q (F0 m 0 ls []) := by
    intro n9
    induction n9 with
    | zero => intro i h9; exact absurd h9 (Nat.not_lt_zero _)
    | succ n9 ih0 =>
      intro i hmu0 hi hq g0_xn eg0_xn H locs hP hD hS ls hl
      have eg0_xn := eg0_xn.symm
      subst eg0_xn
      have hl : lv_has ls 1 [(0, .ref (xa 0))] := hl
      have hP : va_P D vwCl [((xa 0), .inr (7, [.ref (xa 1), .int (zI ((xl : Nat) : Int)), .int (zI ((i : Nat) : Int)), .int (zI ((xs : Nat) : Int)), .int (zI xk), .int (zI xv)])), ((xa 1), .inl (cy 0, 200, .inl (zA xt)))] H := hP
      have hD : va_D A0 [((xa 0), .inr (7, [.ref (xa 1), .int (zI ((xl : Nat) : Int)), .int (zI ((i : Nat) : Int)), .int (zI ((xs : Nat) : Int)), .int (zI xk), .int (zI xv)])), ((xa 1), .inl (cy 0, 200, .inl (zA xt)))] := hD
      refine lv_aload_n hx hb dX7_step_0 rfl (lv_at hl 0 rfl) ?_
      refine va_get (D := D) (ci := 7) (v := .int (zI ((i : Nat) : Int))) (C := RX7) (T := TX7) (N := 6) hx hb hts hinX7 hown hK hP 0 rfl rfl 2 (by decide) (hts (.fieldLink RX7 27 "SilentRent$Text" "next" "I") (List.mem_of_getElem? (i := 1) rfl)) (fun _ h9 => h9) rfl dX7_step_1 ?_
      refine lv_aload_n hx hb dX7_step_4 rfl (lv_at hl 0 rfl) ?_
      refine va_get (D := D) (ci := 7) (v := .int (zI ((xl : Nat) : Int))) (C := RX7) (T := TX7) (N := 6) hx hb hts hinX7 hown hK hP 0 rfl rfl 1 (by decide) (hts (.fieldLink RX7 30 "SilentRent$Text" "length" "I") (List.mem_of_getElem? (i := 2) rfl)) (fun _ h9 => h9) rfl dX7_step_5 ?_
      have J5 : ((((xl : Nat) ≤ (i : Nat))) ∨ ((¬ ((xl : Nat) ≤ (i : Nat))) ∧ (¬ ((xt i) = 32)))) → ∀ (H : Heap) (locs : List Loc), va_P D vwCl [((xa 0), .inr (7, [.ref (xa 1), .int (zI ((xl : Nat) : Int)), .int (zI ((i : Nat) : Int)), .int (zI ((xs : Nat) : Int)), .int (zI xk), .int (zI xv)])), ((xa 1), .inl (cy 0, 200, .inl (zA xt)))] H → va_D A0 [((xa 0), .inr (7, [.ref (xa 1), .int (zI ((xl : Nat) : Int)), .int (zI ((i : Nat) : Int)), .int (zI ((xs : Nat) : Int)), .int (zI xk), .int (zI xv)])), ((xa 1), .inl (cy 0, 200, .inl (zA xt)))] → va_S A0 s.heap H locs → ∀ ls : Array Slot, lv_has ls 1 [(0, .ref (xa 0))] → W p l e rm_X7_step s m args below meth c H locs 0 0 Q (F0 m 38 ls []) := by
        intro  hj4 H locs hP hD hS ls hl
        have hs9 := sT_le xt hxn
        have hw6 : (i : Nat) = (sT xt xl xn) := by by_cases h9 : i < xl; (exact (hq.trans (rn_n h9 (fun h8 => by have := of_decide_eq_true (p := xt i = 32) h8; omega))).symm); (exact ((hq.trans (rn_e _ _ _ h9)).trans (by omega)).symm)
        rw [hw6] at hP hD
        have hP : va_P D vwCl [((xa 0), .inr (7, [.ref (xa 1), .int (zI ((xl : Nat) : Int)), .int (zI (((sT xt xl xn) : Nat) : Int)), .int (zI ((xs : Nat) : Int)), .int (zI xk), .int (zI xv)])), ((xa 1), .inl (cy 0, 200, .inl (zA xt)))] H := hP
        have hD : va_D A0 [((xa 0), .inr (7, [.ref (xa 1), .int (zI ((xl : Nat) : Int)), .int (zI (((sT xt xl xn) : Nat) : Int)), .int (zI ((xs : Nat) : Int)), .int (zI xk), .int (zI xv)])), ((xa 1), .inl (cy 0, 200, .inl (zA xt)))] := hD
        refine lv_aload_n hx hb dX7_step_38 rfl (lv_at hl 0 rfl) ?_
        refine lv_aload_n hx hb dX7_step_39 rfl (lv_at hl 0 rfl) ?_
        refine va_get (D := D) (ci := 7) (v := .int (zI (((sT xt xl xn) : Nat) : Int))) (C := RX7) (T := TX7) (N := 6) hx hb hts hinX7 hown hK hP 0 rfl rfl 2 (by decide) (hts (.fieldLink RX7 27 "SilentRent$Text" "next" "I") (List.mem_of_getElem? (i := 1) rfl)) (fun _ h9 => h9) rfl dX7_step_40 ?_
        refine va_put (D := D) (ci := 7) (v := .int (zI (((sT xt xl xn) : Nat) : Int))) (ty := .int) (C := RX7) (T := TX7) (N := 6) hx hb hts hinX7 tyX7 tyX7_ok nmX7 hown hK hP hD hS 0 rfl rfl 3 (by decide) (hts (.fieldLink RX7 43 "SilentRent$Text" "start" "I") (List.mem_of_getElem? (i := 4) rfl)) (fun _ h9 => h9) rfl (by decide +kernel) rfl rfl (Nat.le_of_ble_eq_true rfl) dX7_step_43 (fun H locs hP hD hS => ?_)
        have hP : va_P D vwCl [((xa 0), .inr (7, [.ref (xa 1), .int (zI ((xl : Nat) : Int)), .int (zI (((sT xt xl xn) : Nat) : Int)), .int (zI (((sT xt xl xn) : Nat) : Int)), .int (zI xk), .int (zI xv)])), ((xa 1), .inl (cy 0, 200, .inl (zA xt)))] H := hP
        have hD : va_D A0 [((xa 0), .inr (7, [.ref (xa 1), .int (zI ((xl : Nat) : Int)), .int (zI (((sT xt xl xn) : Nat) : Int)), .int (zI (((sT xt xl xn) : Nat) : Int)), .int (zI xk), .int (zI xv)])), ((xa 1), .inl (cy 0, 200, .inl (zA xt)))] := hD
        refine lv_aload_n hx hb dX7_step_46 rfl (lv_at hl 0 rfl) ?_
        refine va_get (D := D) (ci := 7) (v := .int (zI (((sT xt xl xn) : Nat) : Int))) (C := RX7) (T := TX7) (N := 6) hx hb hts hinX7 hown hK hP 0 rfl rfl 2 (by decide) (hts (.fieldLink RX7 27 "SilentRent$Text" "next" "I") (List.mem_of_getElem? (i := 1) rfl)) (fun _ h9 => h9) rfl dX7_step_47 ?_
        refine lv_aload_n hx hb dX7_step_50 rfl (lv_at hl 0 rfl) ?_
        refine va_get (D := D) (ci := 7) (v := .int (zI ((xl : Nat) : Int))) (C := RX7) (T := TX7) (N := 6) hx hb hts hinX7 hown hK hP 0 rfl rfl 1 (by decide) (hts (.fieldLink RX7 30 "SilentRent$Text" "length" "I") (List.mem_of_getElem? (i := 2) rfl)) (fun _ h9 => h9) rfl dX7_step_51 ?_
        refine z_icmp_lt (tgt := 63) hx hb ⟨by omega, by omega⟩ ⟨by omega, by omega⟩ dX7_step_54 (by decide) (fun c7 => ?_) (fun c7 => ?_)
        · have c7 : ((sT xt xl xn) : Nat) < (xl : Nat) := by omega
          refine lv_aload_n hx hb dX7_step_63 rfl (lv_at hl 0 rfl) ?_
          refine lv_aload_n hx hb dX7_step_64 rfl (lv_at hl 0 rfl) ?_
          refine va_get (D := D) (ci := 7) (v := .ref (xa 1)) (C := RX7) (T := TX7) (N := 6) hx hb hts hinX7 hown hK hP 0 rfl rfl 0 (by decide) (hts (.fieldLink RX7 9 "SilentRent$Text" "bytes" "[I") (List.mem_of_getElem? (i := 3) rfl)) (fun _ h9 => h9) rfl dX7_step_65 ?_
          refine lv_aload_n hx hb dX7_step_68 rfl (lv_at hl 0 rfl) ?_
          refine va_get (D := D) (ci := 7) (v := .int (zI (((sT xt xl xn) : Nat) : Int))) (C := RX7) (T := TX7) (N := 6) hx hb hts hinX7 hown hK hP 0 rfl rfl 2 (by decide) (hts (.fieldLink RX7 27 "SilentRent$Text" "next" "I") (List.mem_of_getElem? (i := 1) rfl)) (fun _ h9 => h9) rfl dX7_step_69 ?_
          refine z_iald hx hb hK hP 1 0 (f := xt) rfl rfl (sT xt xl xn) rfl (by omega) (by decide) dX7_step_72 ?_
          have hb8 := hxt (sT xt xl xn)
          have hPc9 := hP.sub (ws' := []) [] rfl
          refine zr_callS (rest := [.ref (xa 0)]) (As := [.int (zI (xt (sT xt xl xn)))]) (v := (kd (xt (sT xt xl xn)))) (wd := []) ⟨hx, hb, hml, hown, hts⟩ (c_X7_kindOf l D cy (xt (sT xt xl xn)) (by omega)) (va_cwS 1 hts gX7_step_X7_kindOf rfl rfl rfl (by decide +kernel) ⟨Nat.le_of_ble_eq_true rfl, Nat.le_of_ble_eq_true rfl⟩) hK (fun k q h => by cases h) rfl hl.1 rfl (Nat.le_of_ble_eq_true rfl) dX7_step_73 ⟨Nat.zero_le _, Nat.zero_le _⟩ ?_
          have hkd := kd_in (xt (sT xt xl xn))
          refine va_put (D := D) (ci := 7) (v := .int (zI (kd (xt (sT xt xl xn))))) (ty := .int) (C := RX7) (T := TX7) (N := 6) hx hb hts hinX7 tyX7 tyX7_ok nmX7 hown hK hP hD hS 0 rfl rfl 4 (by decide) (hts (.fieldLink RX7 36 "SilentRent$Text" "token" "I") (List.mem_of_getElem? (i := 5) rfl)) (fun _ h9 => h9) rfl (by decide +kernel) rfl rfl (Nat.le_of_ble_eq_true rfl) dX7_step_76 (fun H locs hP hD hS => ?_)
          have hP : va_P D vwCl [((xa 0), .inr (7, [.ref (xa 1), .int (zI ((xl : Nat) : Int)), .int (zI (((sT xt xl xn) : Nat) : Int)), .int (zI (((sT xt xl xn) : Nat) : Int)), .int (zI (kd (xt (sT xt xl xn)))), .int (zI xv)])), ((xa 1), .inl (cy 0, 200, .inl (zA xt)))] H := hP
          have hD : va_D A0 [((xa 0), .inr (7, [.ref (xa 1), .int (zI ((xl : Nat) : Int)), .int (zI (((sT xt xl xn) : Nat) : Int)), .int (zI (((sT xt xl xn) : Nat) : Int)), .int (zI (kd (xt (sT xt xl xn)))), .int (zI xv)])), ((xa 1), .inl (cy 0, 200, .inl (zA xt)))] := hD
          refine lv_aload_n hx hb dX7_step_79 rfl (lv_at hl 0 rfl) ?_
          refine lv_dup hx hb dX7_step_80 rfl ?_
          refine va_get (D := D) (ci := 7) (v := .int (zI (((sT xt xl xn) : Nat) : Int))) (C := RX7) (T := TX7) (N := 6) hx hb hts hinX7 hown hK hP 0 rfl rfl 2 (by decide) (hts (.fieldLink RX7 27 "SilentRent$Text" "next" "I") (List.mem_of_getElem? (i := 1) rfl)) (fun _ h9 => h9) rfl dX7_step_81 ?_
          refine lv_iconst (v := zI 1) hx hb dX7_step_84 rfl ?_
          refine z_iadd (r := (((sT xt xl xn) + 1 : Nat) : Int)) hx hb (by omega) dX7_step_85 ?_
          refine va_put (D := D) (ci := 7) (v := .int (zI (((sT xt xl xn) + 1 : Nat) : Int))) (ty := .int) (C := RX7) (T := TX7) (N := 6) hx hb hts hinX7 tyX7 tyX7_ok nmX7 hown hK hP hD hS 0 rfl rfl 2 (by decide) (hts (.fieldLink RX7 27 "SilentRent$Text" "next" "I") (List.mem_of_getElem? (i := 1) rfl)) (fun _ h9 => h9) rfl (by decide +kernel) rfl rfl (Nat.le_of_ble_eq_true rfl) dX7_step_86 (fun H locs hP hD hS => ?_)
          have hP : va_P D vwCl [((xa 0), .inr (7, [.ref (xa 1), .int (zI ((xl : Nat) : Int)), .int (zI (((sT xt xl xn) + 1 : Nat) : Int)), .int (zI (((sT xt xl xn) : Nat) : Int)), .int (zI (kd (xt (sT xt xl xn)))), .int (zI xv)])), ((xa 1), .inl (cy 0, 200, .inl (zA xt)))] H := hP
          have hD : va_D A0 [((xa 0), .inr (7, [.ref (xa 1), .int (zI ((xl : Nat) : Int)), .int (zI (((sT xt xl xn) + 1 : Nat) : Int)), .int (zI (((sT xt xl xn) : Nat) : Int)), .int (zI (kd (xt (sT xt xl xn)))), .int (zI xv)])), ((xa 1), .inl (cy 0, 200, .inl (zA xt)))] := hD
          have loop89 : ∀ (n9 : Nat) (j : Nat), xl - j < n9 → ((sT xt xl xn) + 1 ≤ j ∧ j ≤ xl) → (eS xt xl (sT xt xl xn) = if (kd (xt (sT xt xl xn))) = 1 ∨ (kd (xt (sT xt xl xn))) = 2 then rn (kdB xt (kd (xt (sT xt xl xn)))) xl j else j) → ∀ (g89_xn : Nat), g89_xn = j → ∀ (H : Heap) (locs : List Loc), va_P D vwCl [((xa 0), .inr (7, [.ref (xa 1), .int (zI ((xl : Nat) : Int)), .int (zI ((g89_xn : Nat) : Int)), .int (zI (((sT xt xl xn) : Nat) : Int)), .int (zI (kd (xt (sT xt xl xn)))), .int (zI xv)])), ((xa 1), .inl (cy 0, 200, .inl (zA xt)))] H → va_D A0 [((xa 0), .inr (7, [.ref (xa 1), .int (zI ((xl : Nat) : Int)), .int (zI ((g89_xn : Nat) : Int)), .int (zI (((sT xt xl xn) : Nat) : Int)), .int (zI (kd (xt (sT xt xl xn)))), .int (zI xv)])), ((xa 1), .inl (cy 0, 200, .inl (zA xt)))] → va_S A0 s.heap H locs → ∀ ls : Array Slot, lv_has ls 1 [(0, .ref (xa 0))] → W p l e rm_X7_step s m args below meth c H locs 0 0 Q (F0 m 89 ls []) := by
            intro n9
            induction n9 with
            | zero => intro j h9; exact absurd h9 (Nat.not_lt_zero _)
            | succ n9 ih89 =>
              intro j hmu89 hj hq2 g89_xn eg89_xn H locs hP hD hS ls hl
              have eg89_xn := eg89_xn.symm
              subst eg89_xn
              have hl : lv_has ls 1 [(0, .ref (xa 0))] := hl
              have hP : va_P D vwCl [((xa 0), .inr (7, [.ref (xa 1), .int (zI ((xl : Nat) : Int)), .int (zI ((j : Nat) : Int)), .int (zI (((sT xt xl xn) : Nat) : Int)), .int (zI (kd (xt (sT xt xl xn)))), .int (zI xv)])), ((xa 1), .inl (cy 0, 200, .inl (zA xt)))] H := hP
              have hD : va_D A0 [((xa 0), .inr (7, [.ref (xa 1), .int (zI ((xl : Nat) : Int)), .int (zI ((j : Nat) : Int)), .int (zI (((sT xt xl xn) : Nat) : Int)), .int (zI (kd (xt (sT xt xl xn)))), .int (zI xv)])), ((xa 1), .inl (cy 0, 200, .inl (zA xt)))] := hD
              have hkj := kd_in (xt j)
              refine lv_aload_n hx hb dX7_step_89 rfl (lv_at hl 0 rfl) ?_
              refine va_get (D := D) (ci := 7) (v := .int (zI ((j : Nat) : Int))) (C := RX7) (T := TX7) (N := 6) hx hb hts hinX7 hown hK hP 0 rfl rfl 2 (by decide) (hts (.fieldLink RX7 27 "SilentRent$Text" "next" "I") (List.mem_of_getElem? (i := 1) rfl)) (fun _ h9 => h9) rfl dX7_step_90 ?_
              refine lv_aload_n hx hb dX7_step_93 rfl (lv_at hl 0 rfl) ?_
              refine va_get (D := D) (ci := 7) (v := .int (zI ((xl : Nat) : Int))) (C := RX7) (T := TX7) (N := 6) hx hb hts hinX7 hown hK hP 0 rfl rfl 1 (by decide) (hts (.fieldLink RX7 30 "SilentRent$Text" "length" "I") (List.mem_of_getElem? (i := 2) rfl)) (fun _ h9 => h9) rfl dX7_step_94 ?_
              have J19 : ((((xl : Nat) ≤ (j : Nat))) ∨ ((¬ ((xl : Nat) ≤ (j : Nat))) ∧ (¬ ((kd (xt (sT xt xl xn))) = 1)) ∧ (¬ ((kd (xt (sT xt xl xn))) = 2))) ∨ ((¬ ((xl : Nat) ≤ (j : Nat))) ∧ (¬ ((kd (xt j)) = (kd (xt (sT xt xl xn))))))) → ∀ (H : Heap) (locs : List Loc), va_P D vwCl [((xa 0), .inr (7, [.ref (xa 1), .int (zI ((xl : Nat) : Int)), .int (zI ((j : Nat) : Int)), .int (zI (((sT xt xl xn) : Nat) : Int)), .int (zI (kd (xt (sT xt xl xn)))), .int (zI xv)])), ((xa 1), .inl (cy 0, 200, .inl (zA xt)))] H → va_D A0 [((xa 0), .inr (7, [.ref (xa 1), .int (zI ((xl : Nat) : Int)), .int (zI ((j : Nat) : Int)), .int (zI (((sT xt xl xn) : Nat) : Int)), .int (zI (kd (xt (sT xt xl xn)))), .int (zI xv)])), ((xa 1), .inl (cy 0, 200, .inl (zA xt)))] → va_S A0 s.heap H locs → ∀ ls : Array Slot, lv_has ls 1 [(0, .ref (xa 0))] → W p l e rm_X7_step s m args below meth c H locs 0 0 Q (F0 m 148 ls []) := by
                intro  hj18 H locs hP hD hS ls hl
                have he9 := eS_le xt (show (sT xt xl xn) < xl by omega)
                have hw20 : (j : Nat) = (eS xt xl (sT xt xl xn)) := by rw [hq2]; split; (by_cases h9 : j < xl; (exact (rn_n h9 (fun h8 => by have := of_decide_eq_true (p := kd (xt j) = (kd (xt (sT xt xl xn)))) h8; omega)).symm); (exact ((rn_e _ _ _ h9).trans (by omega)).symm)); rfl
                rw [hw20] at hP hD
                have hP : va_P D vwCl [((xa 0), .inr (7, [.ref (xa 1), .int (zI ((xl : Nat) : Int)), .int (zI (((eS xt xl (sT xt xl xn)) : Nat) : Int)), .int (zI (((sT xt xl xn) : Nat) : Int)), .int (zI (kd (xt (sT xt xl xn)))), .int (zI xv)])), ((xa 1), .inl (cy 0, 200, .inl (zA xt)))] H := hP
                have hD : va_D A0 [((xa 0), .inr (7, [.ref (xa 1), .int (zI ((xl : Nat) : Int)), .int (zI (((eS xt xl (sT xt xl xn)) : Nat) : Int)), .int (zI (((sT xt xl xn) : Nat) : Int)), .int (zI (kd (xt (sT xt xl xn)))), .int (zI xv)])), ((xa 1), .inl (cy 0, 200, .inl (zA xt)))] := hD
                refine lv_aload_n hx hb dX7_step_148 rfl (lv_at hl 0 rfl) ?_
                refine va_get (D := D) (ci := 7) (v := .int (zI (kd (xt (sT xt xl xn))))) (C := RX7) (T := TX7) (N := 6) hx hb hts hinX7 hown hK hP 0 rfl rfl 4 (by decide) (hts (.fieldLink RX7 36 "SilentRent$Text" "token" "I") (List.mem_of_getElem? (i := 5) rfl)) (fun _ h9 => h9) rfl dX7_step_149 ?_
                refine lv_iconst (v := zI 1) hx hb dX7_step_152 rfl ?_
                refine z_icmp_ne (tgt := 189) hx hb ⟨by omega, by omega⟩ ⟨by omega, by omega⟩ dX7_step_153 (by decide) (fun c21 => ?_) (fun c21 => ?_)
                · refine lv_aload_n hx hb dX7_step_189 rfl (lv_at hl 0 rfl) ?_
                  refine va_get (D := D) (ci := 7) (v := .int (zI (kd (xt (sT xt xl xn))))) (C := RX7) (T := TX7) (N := 6) hx hb hts hinX7 hown hK hP 0 rfl rfl 4 (by decide) (hts (.fieldLink RX7 36 "SilentRent$Text" "token" "I") (List.mem_of_getElem? (i := 5) rfl)) (fun _ h9 => h9) rfl dX7_step_190 ?_
                  refine lv_iconst (v := zI 2) hx hb dX7_step_193 rfl ?_
                  refine z_icmp_ne (tgt := 201) hx hb ⟨by omega, by omega⟩ ⟨by omega, by omega⟩ dX7_step_194 (by decide) (fun c22 => ?_) (fun c22 => ?_)
                  · have hw23 : ((((eS xt xl (sT xt xl xn)) : Nat) : Int) : Int) = ((nT xt xl xn : Nat) : Int) := by first | rfl | (simp only [nT, kT, vT, kS, vS] <;> (repeat' split) <;> first | rfl | omega)
                    have hw24 : ((((sT xt xl xn) : Nat) : Int) : Int) = ((sT xt xl xn : Nat) : Int) := by first | rfl | (simp only [nT, kT, vT, kS, vS] <;> (repeat' split) <;> first | rfl | omega)
                    have hw25 : ((kd (xt (sT xt xl xn))) : Int) = (kT xt xl xn) := by first | rfl | (simp only [nT, kT, vT, kS, vS] <;> (repeat' split) <;> first | rfl | omega)
                    have hw26 : (xv : Int) = (vT xt xl xn xv) := by first | rfl | (simp only [nT, kT, vT, kS, vS] <;> (repeat' split) <;> first | rfl | omega)
                    have hP : va_P D vwCl [((xa 0), .inr (7, [.ref (xa 1), .int (zI ((xl : Nat) : Int)), .int (zI ((nT xt xl xn : Nat) : Int)), .int (zI ((sT xt xl xn : Nat) : Int)), .int (zI (kT xt xl xn)), .int (zI (vT xt xl xn xv))])), ((xa 1), .inl (cy 0, 200, .inl (zA xt)))] H := by rw [← hw23, ← hw24, ← hw25, ← hw26]; exact hP
                    exact zm_vret hx hb hr hlocks hQ hA0 hP hS dX7_step_201
                  · refine lv_aload_n hx hb dX7_step_197 rfl (lv_at hl 0 rfl) ?_
                    refine zm_callV (rest := []) (As := []) (ws' := [((xa 0), .inr (7, [.ref (xa 1), .int (zI ((xl : Nat) : Int)), .int (zI (((eS xt xl (sT xt xl xn)) : Nat) : Int)), .int (zI (((sT xt xl xn) : Nat) : Int)), .int (zI (if (2 < (eS xt xl (sT xt xl xn)) - (sT xt xl xn) ∨ ((eS xt xl (sT xt xl xn)) - (sT xt xl xn) = 2 ∧ xt (sT xt xl xn) = 48)) then 4 else (kd (xt (sT xt xl xn))))), .int (zI (if (2 < (eS xt xl (sT xt xl xn)) - (sT xt xl xn) ∨ ((eS xt xl (sT xt xl xn)) - (sT xt xl xn) = 2 ∧ xt (sT xt xl xn) = 48)) then xv else if (eS xt xl (sT xt xl xn)) - (sT xt xl xn) = 2 then (xt (sT xt xl xn) - 48) * 10 + xt ((sT xt xl xn) + 1) - 48 else xt (sT xt xl xn) - 48))])), ((xa 1), .inl (cy 0, 200, .inl (zA xt)))]) ⟨hx, hb, hml, hown, hts⟩ (c_X7_takeDigits l D cy xa xt xl (eS xt xl (sT xt xl xn)) (sT xt xl xn) (kd (xt (sT xt xl xn))) xv (by omega) (by omega) (by omega) hxt) (cwV 0 hts gX7_step_X7_takeDigits rfl rfl rfl (by decide +kernel) ⟨Nat.le_of_ble_eq_true rfl, Nat.le_of_ble_eq_true rfl⟩) hK hP hD hS [0, 1] [some 0, some 1] rfl rfl rfl (by decide) rfl 0 7 rfl rfl rfl hl.1 rfl (Nat.le_of_ble_eq_true rfl) dX7_step_198 ⟨Nat.zero_le _, Nat.zero_le _⟩ (fun H locs hP hD hS => ?_)
                    have hw27 : ((((eS xt xl (sT xt xl xn)) : Nat) : Int) : Int) = ((nT xt xl xn : Nat) : Int) := by first | rfl | (simp only [nT, kT, vT, kS, vS] <;> (repeat' split) <;> first | rfl | omega)
                    have hw28 : ((((sT xt xl xn) : Nat) : Int) : Int) = ((sT xt xl xn : Nat) : Int) := by first | rfl | (simp only [nT, kT, vT, kS, vS] <;> (repeat' split) <;> first | rfl | omega)
                    have hw29 : ((if (2 < (eS xt xl (sT xt xl xn)) - (sT xt xl xn) ∨ ((eS xt xl (sT xt xl xn)) - (sT xt xl xn) = 2 ∧ xt (sT xt xl xn) = 48)) then 4 else (kd (xt (sT xt xl xn)))) : Int) = (kT xt xl xn) := by first | rfl | (simp only [nT, kT, vT, kS, vS] <;> (repeat' split) <;> first | rfl | omega)
                    have hw30 : ((if (2 < (eS xt xl (sT xt xl xn)) - (sT xt xl xn) ∨ ((eS xt xl (sT xt xl xn)) - (sT xt xl xn) = 2 ∧ xt (sT xt xl xn) = 48)) then xv else if (eS xt xl (sT xt xl xn)) - (sT xt xl xn) = 2 then (xt (sT xt xl xn) - 48) * 10 + xt ((sT xt xl xn) + 1) - 48 else xt (sT xt xl xn) - 48) : Int) = (vT xt xl xn xv) := by first | rfl | (simp only [nT, kT, vT, kS, vS] <;> (repeat' split) <;> first | rfl | omega)
                    have hP : va_P D vwCl [((xa 0), .inr (7, [.ref (xa 1), .int (zI ((xl : Nat) : Int)), .int (zI ((nT xt xl xn : Nat) : Int)), .int (zI ((sT xt xl xn : Nat) : Int)), .int (zI (kT xt xl xn)), .int (zI (vT xt xl xn xv))])), ((xa 1), .inl (cy 0, 200, .inl (zA xt)))] H := by rw [← hw27, ← hw28, ← hw29, ← hw30]; exact hP
                    exact zm_vret hx hb hr hlocks hQ hA0 hP hS dX7_step_201
                · refine lv_aload_n hx hb dX7_step_156 rfl (lv_at hl 0 rfl) ?_
                  refine lv_aload_n hx hb dX7_step_157 rfl (lv_at hl 0 rfl) ?_
                  refine va_get (D := D) (ci := 7) (v := .int (zI (((eS xt xl (sT xt xl xn)) : Nat) : Int))) (C := RX7) (T := TX7) (N := 6) hx hb hts hinX7 hown hK hP 0 rfl rfl 2 (by decide) (hts (.fieldLink RX7 27 "SilentRent$Text" "next" "I") (List.mem_of_getElem? (i := 1) rfl)) (fun _ h9 => h9) rfl dX7_step_158 ?_
                  refine lv_aload_n hx hb dX7_step_161 rfl (lv_at hl 0 rfl) ?_
                  refine va_get (D := D) (ci := 7) (v := .int (zI (((sT xt xl xn) : Nat) : Int))) (C := RX7) (T := TX7) (N := 6) hx hb hts hinX7 hown hK hP 0 rfl rfl 3 (by decide) (hts (.fieldLink RX7 43 "SilentRent$Text" "start" "I") (List.mem_of_getElem? (i := 4) rfl)) (fun _ h9 => h9) rfl dX7_step_162 ?_
                  refine z_isub (r := ((eS xt xl (sT xt xl xn) - (sT xt xl xn) : Nat) : Int)) hx hb (by omega) dX7_step_165 ?_
                  refine lv_iconst (v := zI 1) hx hb dX7_step_166 rfl ?_
                  have J34 : ∀ (z33 : Int), z33 = (if (eS xt xl (sT xt xl xn) - (sT xt xl xn) : Nat) = (1 : Nat) then (xt (sT xt xl xn)) else 0) → ∀ (H : Heap) (locs : List Loc), va_P D vwCl [((xa 0), .inr (7, [.ref (xa 1), .int (zI ((xl : Nat) : Int)), .int (zI (((eS xt xl (sT xt xl xn)) : Nat) : Int)), .int (zI (((sT xt xl xn) : Nat) : Int)), .int (zI (kd (xt (sT xt xl xn)))), .int (zI xv)])), ((xa 1), .inl (cy 0, 200, .inl (zA xt)))] H → va_D A0 [((xa 0), .inr (7, [.ref (xa 1), .int (zI ((xl : Nat) : Int)), .int (zI (((eS xt xl (sT xt xl xn)) : Nat) : Int)), .int (zI (((sT xt xl xn) : Nat) : Int)), .int (zI (kd (xt (sT xt xl xn)))), .int (zI xv)])), ((xa 1), .inl (cy 0, 200, .inl (zA xt)))] → va_S A0 s.heap H locs → ∀ ls : Array Slot, lv_has ls 1 [(0, .ref (xa 0))] → W p l e rm_X7_step s m args below meth c H locs 0 0 Q (F0 m 183 ls [.int (zI z33), .ref (xa 0)]) := by
                    intro z33 ez33 H locs hP hD hS ls hl
                    subst ez33
                    refine va_put (D := D) (ci := 7) (v := .int (zI (if (eS xt xl (sT xt xl xn) - (sT xt xl xn) : Nat) = (1 : Nat) then (xt (sT xt xl xn)) else 0))) (ty := .int) (C := RX7) (T := TX7) (N := 6) hx hb hts hinX7 tyX7 tyX7_ok nmX7 hown hK hP hD hS 0 rfl rfl 5 (by decide) (hts (.fieldLink RX7 46 "SilentRent$Text" "value" "I") (List.mem_of_getElem? (i := 6) rfl)) (fun _ h9 => h9) rfl (by decide +kernel) rfl rfl (Nat.le_of_ble_eq_true rfl) dX7_step_183 (fun H locs hP hD hS => ?_)
                    have hP : va_P D vwCl [((xa 0), .inr (7, [.ref (xa 1), .int (zI ((xl : Nat) : Int)), .int (zI (((eS xt xl (sT xt xl xn)) : Nat) : Int)), .int (zI (((sT xt xl xn) : Nat) : Int)), .int (zI (kd (xt (sT xt xl xn)))), .int (zI (if (eS xt xl (sT xt xl xn) - (sT xt xl xn) : Nat) = (1 : Nat) then (xt (sT xt xl xn)) else 0))])), ((xa 1), .inl (cy 0, 200, .inl (zA xt)))] H := hP
                    have hD : va_D A0 [((xa 0), .inr (7, [.ref (xa 1), .int (zI ((xl : Nat) : Int)), .int (zI (((eS xt xl (sT xt xl xn)) : Nat) : Int)), .int (zI (((sT xt xl xn) : Nat) : Int)), .int (zI (kd (xt (sT xt xl xn)))), .int (zI (if (eS xt xl (sT xt xl xn) - (sT xt xl xn) : Nat) = (1 : Nat) then (xt (sT xt xl xn)) else 0))])), ((xa 1), .inl (cy 0, 200, .inl (zA xt)))] := hD
                    refine lv_goto (tgt := 201) hx hb dX7_step_186 (by decide) ?_
                    have hw35 : ((((eS xt xl (sT xt xl xn)) : Nat) : Int) : Int) = ((nT xt xl xn : Nat) : Int) := by first | rfl | (simp only [nT, kT, vT, kS, vS] <;> (repeat' split) <;> first | rfl | omega)
                    have hw36 : ((((sT xt xl xn) : Nat) : Int) : Int) = ((sT xt xl xn : Nat) : Int) := by first | rfl | (simp only [nT, kT, vT, kS, vS] <;> (repeat' split) <;> first | rfl | omega)
                    have hw37 : ((kd (xt (sT xt xl xn))) : Int) = (kT xt xl xn) := by first | rfl | (simp only [nT, kT, vT, kS, vS] <;> (repeat' split) <;> first | rfl | omega)
                    have hw38 : ((if (eS xt xl (sT xt xl xn) - (sT xt xl xn) : Nat) = (1 : Nat) then (xt (sT xt xl xn)) else 0) : Int) = (vT xt xl xn xv) := by first | rfl | (simp only [nT, kT, vT, kS, vS] <;> (repeat' split) <;> first | rfl | omega)
                    have hP : va_P D vwCl [((xa 0), .inr (7, [.ref (xa 1), .int (zI ((xl : Nat) : Int)), .int (zI ((nT xt xl xn : Nat) : Int)), .int (zI ((sT xt xl xn : Nat) : Int)), .int (zI (kT xt xl xn)), .int (zI (vT xt xl xn xv))])), ((xa 1), .inl (cy 0, 200, .inl (zA xt)))] H := by rw [← hw35, ← hw36, ← hw37, ← hw38]; exact hP
                    exact zm_vret hx hb hr hlocks hQ hA0 hP hS dX7_step_201
                  refine z_icmp_ne (tgt := 182) hx hb ⟨by omega, by omega⟩ ⟨by omega, by omega⟩ dX7_step_167 (by decide) (fun c31 => ?_) (fun c31 => ?_)
                  · have c31 : ¬ ((eS xt xl (sT xt xl xn) - (sT xt xl xn) : Nat) = (1 : Nat)) := by omega
                    refine lv_iconst (v := zI 0) hx hb dX7_step_182 rfl ?_
                    exact J34 0 (by rw [if_neg c31]) _ _ hP hD hS ls (lv_sub hl [0] rfl)
                  · have c31 : (eS xt xl (sT xt xl xn) - (sT xt xl xn) : Nat) = (1 : Nat) := by omega
                    refine lv_aload_n hx hb dX7_step_170 rfl (lv_at hl 0 rfl) ?_
                    refine va_get (D := D) (ci := 7) (v := .ref (xa 1)) (C := RX7) (T := TX7) (N := 6) hx hb hts hinX7 hown hK hP 0 rfl rfl 0 (by decide) (hts (.fieldLink RX7 9 "SilentRent$Text" "bytes" "[I") (List.mem_of_getElem? (i := 3) rfl)) (fun _ h9 => h9) rfl dX7_step_171 ?_
                    refine lv_aload_n hx hb dX7_step_174 rfl (lv_at hl 0 rfl) ?_
                    refine va_get (D := D) (ci := 7) (v := .int (zI (((sT xt xl xn) : Nat) : Int))) (C := RX7) (T := TX7) (N := 6) hx hb hts hinX7 hown hK hP 0 rfl rfl 3 (by decide) (hts (.fieldLink RX7 43 "SilentRent$Text" "start" "I") (List.mem_of_getElem? (i := 4) rfl)) (fun _ h9 => h9) rfl dX7_step_175 ?_
                    refine z_iald hx hb hK hP 1 0 (f := xt) rfl rfl (sT xt xl xn) rfl (by omega) (by decide) dX7_step_178 ?_
                    have hb32 := hxt (sT xt xl xn)
                    refine lv_goto (tgt := 183) hx hb dX7_step_179 (by decide) ?_
                    exact J34 (xt (sT xt xl xn)) (by rw [if_pos c31]) _ _ hP hD hS ls (lv_sub hl [0] rfl)
              refine z_icmp_ge (tgt := 148) hx hb ⟨by omega, by omega⟩ ⟨by omega, by omega⟩ dX7_step_97 (by decide) (fun c10 => ?_) (fun c10 => ?_)
              · have c10 : (xl : Nat) ≤ (j : Nat) := by omega
                exact J19 (Or.inl c10) _ _ hP hD hS ls (lv_sub hl [0] rfl)
              · have c10 : ¬ ((xl : Nat) ≤ (j : Nat)) := by omega
                refine lv_aload_n hx hb dX7_step_100 rfl (lv_at hl 0 rfl) ?_
                refine va_get (D := D) (ci := 7) (v := .int (zI (kd (xt (sT xt xl xn))))) (C := RX7) (T := TX7) (N := 6) hx hb hts hinX7 hown hK hP 0 rfl rfl 4 (by decide) (hts (.fieldLink RX7 36 "SilentRent$Text" "token" "I") (List.mem_of_getElem? (i := 5) rfl)) (fun _ h9 => h9) rfl dX7_step_101 ?_
                refine lv_iconst (v := zI 1) hx hb dX7_step_104 rfl ?_
                have J14 : ((((kd (xt (sT xt xl xn))) = 1)) ∨ ((¬ ((kd (xt (sT xt xl xn))) = 1)) ∧ ((kd (xt (sT xt xl xn))) = 2))) → ∀ (H : Heap) (locs : List Loc), va_P D vwCl [((xa 0), .inr (7, [.ref (xa 1), .int (zI ((xl : Nat) : Int)), .int (zI ((j : Nat) : Int)), .int (zI (((sT xt xl xn) : Nat) : Int)), .int (zI (kd (xt (sT xt xl xn)))), .int (zI xv)])), ((xa 1), .inl (cy 0, 200, .inl (zA xt)))] H → va_D A0 [((xa 0), .inr (7, [.ref (xa 1), .int (zI ((xl : Nat) : Int)), .int (zI ((j : Nat) : Int)), .int (zI (((sT xt xl xn) : Nat) : Int)), .int (zI (kd (xt (sT xt xl xn)))), .int (zI xv)])), ((xa 1), .inl (cy 0, 200, .inl (zA xt)))] → va_S A0 s.heap H locs → ∀ ls : Array Slot, lv_has ls 1 [(0, .ref (xa 0))] → W p l e rm_X7_step s m args below meth c H locs 0 0 Q (F0 m 116 ls []) := by
                  intro  hj13 H locs hP hD hS ls hl
                  refine lv_aload_n hx hb dX7_step_116 rfl (lv_at hl 0 rfl) ?_
                  refine va_get (D := D) (ci := 7) (v := .ref (xa 1)) (C := RX7) (T := TX7) (N := 6) hx hb hts hinX7 hown hK hP 0 rfl rfl 0 (by decide) (hts (.fieldLink RX7 9 "SilentRent$Text" "bytes" "[I") (List.mem_of_getElem? (i := 3) rfl)) (fun _ h9 => h9) rfl dX7_step_117 ?_
                  refine lv_aload_n hx hb dX7_step_120 rfl (lv_at hl 0 rfl) ?_
                  refine va_get (D := D) (ci := 7) (v := .int (zI ((j : Nat) : Int))) (C := RX7) (T := TX7) (N := 6) hx hb hts hinX7 hown hK hP 0 rfl rfl 2 (by decide) (hts (.fieldLink RX7 27 "SilentRent$Text" "next" "I") (List.mem_of_getElem? (i := 1) rfl)) (fun _ h9 => h9) rfl dX7_step_121 ?_
                  refine z_iald hx hb hK hP 1 0 (f := xt) rfl rfl j rfl (by omega) (by decide) dX7_step_124 ?_
                  have hb15 := hxt j
                  have hPc16 := hP.sub (ws' := []) [] rfl
                  refine zr_callS (rest := []) (As := [.int (zI (xt j))]) (v := (kd (xt j))) (wd := []) ⟨hx, hb, hml, hown, hts⟩ (c_X7_kindOf l D cy (xt j) (by omega)) (va_cwS 1 hts gX7_step_X7_kindOf rfl rfl rfl (by decide +kernel) ⟨Nat.le_of_ble_eq_true rfl, Nat.le_of_ble_eq_true rfl⟩) hK (fun k q h => by cases h) rfl hl.1 rfl (Nat.le_of_ble_eq_true rfl) dX7_step_125 ⟨Nat.zero_le _, Nat.zero_le _⟩ ?_
                  refine lv_aload_n hx hb dX7_step_128 rfl (lv_at hl 0 rfl) ?_
                  refine va_get (D := D) (ci := 7) (v := .int (zI (kd (xt (sT xt xl xn))))) (C := RX7) (T := TX7) (N := 6) hx hb hts hinX7 hown hK hP 0 rfl rfl 4 (by decide) (hts (.fieldLink RX7 36 "SilentRent$Text" "token" "I") (List.mem_of_getElem? (i := 5) rfl)) (fun _ h9 => h9) rfl dX7_step_129 ?_
                  refine z_icmp_ne (tgt := 148) hx hb ⟨by omega, by omega⟩ ⟨by omega, by omega⟩ dX7_step_132 (by decide) (fun c17 => ?_) (fun c17 => ?_)
                  · exact J19 (Or.inr (Or.inr ⟨c10, c17⟩)) _ _ hP hD hS ls (lv_sub hl [0] rfl)
                  · refine lv_aload_n hx hb dX7_step_135 rfl (lv_at hl 0 rfl) ?_
                    refine lv_dup hx hb dX7_step_136 rfl ?_
                    refine va_get (D := D) (ci := 7) (v := .int (zI ((j : Nat) : Int))) (C := RX7) (T := TX7) (N := 6) hx hb hts hinX7 hown hK hP 0 rfl rfl 2 (by decide) (hts (.fieldLink RX7 27 "SilentRent$Text" "next" "I") (List.mem_of_getElem? (i := 1) rfl)) (fun _ h9 => h9) rfl dX7_step_137 ?_
                    refine lv_iconst (v := zI 1) hx hb dX7_step_140 rfl ?_
                    refine z_iadd (r := ((j + 1 : Nat) : Int)) hx hb (by omega) dX7_step_141 ?_
                    refine va_put (D := D) (ci := 7) (v := .int (zI ((j + 1 : Nat) : Int))) (ty := .int) (C := RX7) (T := TX7) (N := 6) hx hb hts hinX7 tyX7 tyX7_ok nmX7 hown hK hP hD hS 0 rfl rfl 2 (by decide) (hts (.fieldLink RX7 27 "SilentRent$Text" "next" "I") (List.mem_of_getElem? (i := 1) rfl)) (fun _ h9 => h9) rfl (by decide +kernel) rfl rfl (Nat.le_of_ble_eq_true rfl) dX7_step_142 (fun H locs hP hD hS => ?_)
                    have hP : va_P D vwCl [((xa 0), .inr (7, [.ref (xa 1), .int (zI ((xl : Nat) : Int)), .int (zI ((j + 1 : Nat) : Int)), .int (zI (((sT xt xl xn) : Nat) : Int)), .int (zI (kd (xt (sT xt xl xn)))), .int (zI xv)])), ((xa 1), .inl (cy 0, 200, .inl (zA xt)))] H := hP
                    have hD : va_D A0 [((xa 0), .inr (7, [.ref (xa 1), .int (zI ((xl : Nat) : Int)), .int (zI ((j + 1 : Nat) : Int)), .int (zI (((sT xt xl xn) : Nat) : Int)), .int (zI (kd (xt (sT xt xl xn)))), .int (zI xv)])), ((xa 1), .inl (cy 0, 200, .inl (zA xt)))] := hD
                    refine lv_goto (tgt := 89) hx hb dX7_step_145 (by decide) ?_
                    exact ih89 (j + 1) (by omega) (by omega) (by rw [hq2, if_pos (by omega), if_pos (by omega)]; exact rn_y (by omega) (decide_eq_true (by omega))) (j + 1) (by first | rfl | omega) _ _ hP hD hS ls (lv_sub hl [0] rfl)
                refine z_icmp_eq (tgt := 116) hx hb ⟨by omega, by omega⟩ ⟨by omega, by omega⟩ dX7_step_105 (by decide) (fun c11 => ?_) (fun c11 => ?_)
                · exact J14 (Or.inl c11) _ _ hP hD hS ls (lv_sub hl [0] rfl)
                · refine lv_aload_n hx hb dX7_step_108 rfl (lv_at hl 0 rfl) ?_
                  refine va_get (D := D) (ci := 7) (v := .int (zI (kd (xt (sT xt xl xn))))) (C := RX7) (T := TX7) (N := 6) hx hb hts hinX7 hown hK hP 0 rfl rfl 4 (by decide) (hts (.fieldLink RX7 36 "SilentRent$Text" "token" "I") (List.mem_of_getElem? (i := 5) rfl)) (fun _ h9 => h9) rfl dX7_step_109 ?_
                  refine lv_iconst (v := zI 2) hx hb dX7_step_112 rfl ?_
                  refine z_icmp_ne (tgt := 148) hx hb ⟨by omega, by omega⟩ ⟨by omega, by omega⟩ dX7_step_113 (by decide) (fun c12 => ?_) (fun c12 => ?_)
                  · exact J19 (Or.inr (Or.inl ⟨c10, c11, c12⟩)) _ _ hP hD hS ls (lv_sub hl [0] rfl)
                  · exact J14 (Or.inr ⟨c11, c12⟩) _ _ hP hD hS ls (lv_sub hl [0] rfl)
          exact loop89 ((xl - (sT xt xl xn) + 1) + 1) ((sT xt xl xn) + 1) (by omega) (by omega) rfl ((sT xt xl xn) + 1) (by first | rfl | omega | simp) _ _ hP hD hS ls (lv_sub hl [0] rfl)
        · have c7 : ¬ (((sT xt xl xn) : Nat) < (xl : Nat)) := by omega
          refine lv_aload_n hx hb dX7_step_57 rfl (lv_at hl 0 rfl) ?_
          refine lv_iconst (v := zI 0) hx hb dX7_step_58 rfl ?_
          refine va_put (D := D) (ci := 7) (v := .int (zI 0)) (ty := .int) (C := RX7) (T := TX7) (N := 6) hx hb hts hinX7 tyX7 tyX7_ok nmX7 hown hK hP hD hS 0 rfl rfl 4 (by decide) (hts (.fieldLink RX7 36 "SilentRent$Text" "token" "I") (List.mem_of_getElem? (i := 5) rfl)) (fun _ h9 => h9) rfl (by decide +kernel) rfl rfl (Nat.le_of_ble_eq_true rfl) dX7_step_59 (fun H locs hP hD hS => ?_)
          have hP : va_P D vwCl [((xa 0), .inr (7, [.ref (xa 1), .int (zI ((xl : Nat) : Int)), .int (zI (((sT xt xl xn) : Nat) : Int)), .int (zI (((sT xt xl xn) : Nat) : Int)), .int (zI 0), .int (zI xv)])), ((xa 1), .inl (cy 0, 200, .inl (zA xt)))] H := hP
          have hD : va_D A0 [((xa 0), .inr (7, [.ref (xa 1), .int (zI ((xl : Nat) : Int)), .int (zI (((sT xt xl xn) : Nat) : Int)), .int (zI (((sT xt xl xn) : Nat) : Int)), .int (zI 0), .int (zI xv)])), ((xa 1), .inl (cy 0, 200, .inl (zA xt)))] := hD
          have hw39 : ((((sT xt xl xn) : Nat) : Int) : Int) = ((nT xt xl xn : Nat) : Int) := by first | rfl | (simp only [nT, kT, vT, kS, vS] <;> (repeat' split) <;> first | rfl | omega)
          have hw40 : ((((sT xt xl xn) : Nat) : Int) : Int) = ((sT xt xl xn : Nat) : Int) := by first | rfl | (simp only [nT, kT, vT, kS, vS] <;> (repeat' split) <;> first | rfl | omega)
          have hw41 : (0 : Int) = (kT xt xl xn) := by first | rfl | (simp only [nT, kT, vT, kS, vS] <;> (repeat' split) <;> first | rfl | omega)
          have hw42 : (xv : Int) = (vT xt xl xn xv) := by first | rfl | (simp only [nT, kT, vT, kS, vS] <;> (repeat' split) <;> first | rfl | omega)
          have hP : va_P D vwCl [((xa 0), .inr (7, [.ref (xa 1), .int (zI ((xl : Nat) : Int)), .int (zI ((nT xt xl xn : Nat) : Int)), .int (zI ((sT xt xl xn : Nat) : Int)), .int (zI (kT xt xl xn)), .int (zI (vT xt xl xn xv))])), ((xa 1), .inl (cy 0, 200, .inl (zA xt)))] H := by rw [← hw39, ← hw40, ← hw41, ← hw42]; exact hP
          exact zm_vret hx hb hr hlocks hQ hA0 hP hS dX7_step_62
      refine z_icmp_ge (tgt := 38) hx hb ⟨by omega, by omega⟩ ⟨by omega, by omega⟩ dX7_step_8 (by decide) (fun c1 => ?_) (fun c1 => ?_)
      · have c1 : (xl : Nat) ≤ (i : Nat) := by omega
        exact J5 (Or.inl c1) _ _ hP hD hS ls (lv_sub hl [0] rfl)
      · have c1 : ¬ ((xl : Nat) ≤ (i : Nat)) := by omega
        refine lv_aload_n hx hb dX7_step_11 rfl (lv_at hl 0 rfl) ?_
        refine va_get (D := D) (ci := 7) (v := .ref (xa 1)) (C := RX7) (T := TX7) (N := 6) hx hb hts hinX7 hown hK hP 0 rfl rfl 0 (by decide) (hts (.fieldLink RX7 9 "SilentRent$Text" "bytes" "[I") (List.mem_of_getElem? (i := 3) rfl)) (fun _ h9 => h9) rfl dX7_step_12 ?_
        refine lv_aload_n hx hb dX7_step_15 rfl (lv_at hl 0 rfl) ?_
        refine va_get (D := D) (ci := 7) (v := .int (zI ((i : Nat) : Int))) (C := RX7) (T := TX7) (N := 6) hx hb hts hinX7 hown hK hP 0 rfl rfl 2 (by decide) (hts (.fieldLink RX7 27 "SilentRent$Text" "next" "I") (List.mem_of_getElem? (i := 1) rfl)) (fun _ h9 => h9) rfl dX7_step_16 ?_
        refine z_iald hx hb hK hP 1 0 (f := xt) rfl rfl i rfl (by omega) (by decide) dX7_step_19 ?_
        have hb2 := hxt i
        refine lv_bipush (v := zI 32) hx hb dX7_step_20 (by decide) ?_
        refine z_icmp_ne (tgt := 38) hx hb ⟨by omega, by omega⟩ ⟨by omega, by omega⟩ dX7_step_22 (by decide) (fun c3 => ?_) (fun c3 => ?_)
        · exact J5 (Or.inr ⟨c1, c3⟩) _ _ hP hD hS ls (lv_sub hl [0] rfl)
        · refine lv_aload_n hx hb dX7_step_25 rfl (lv_at hl 0 rfl) ?_
          refine lv_dup hx hb dX7_step_26 rfl ?_
          refine va_get (D := D) (ci := 7) (v := .int (zI ((i : Nat) : Int))) (C := RX7) (T := TX7) (N := 6) hx hb hts hinX7 hown hK hP 0 rfl rfl 2 (by decide) (hts (.fieldLink RX7 27 "SilentRent$Text" "next" "I") (List.mem_of_getElem? (i := 1) rfl)) (fun _ h9 => h9) rfl dX7_step_27 ?_
          refine lv_iconst (v := zI 1) hx hb dX7_step_30 rfl ?_
          refine z_iadd (r := ((i + 1 : Nat) : Int)) hx hb (by omega) dX7_step_31 ?_
          refine va_put (D := D) (ci := 7) (v := .int (zI ((i + 1 : Nat) : Int))) (ty := .int) (C := RX7) (T := TX7) (N := 6) hx hb hts hinX7 tyX7 tyX7_ok nmX7 hown hK hP hD hS 0 rfl rfl 2 (by decide) (hts (.fieldLink RX7 27 "SilentRent$Text" "next" "I") (List.mem_of_getElem? (i := 1) rfl)) (fun _ h9 => h9) rfl (by decide +kernel) rfl rfl (Nat.le_of_ble_eq_true rfl) dX7_step_32 (fun H locs hP hD hS => ?_)
          have hP : va_P D vwCl [((xa 0), .inr (7, [.ref (xa 1), .int (zI ((xl : Nat) : Int)), .int (zI ((i + 1 : Nat) : Int)), .int (zI ((xs : Nat) : Int)), .int (zI xk), .int (zI xv)])), ((xa 1), .inl (cy 0, 200, .inl (zA xt)))] H := hP
          have hD : va_D A0 [((xa 0), .inr (7, [.ref (xa 1), .int (zI ((xl : Nat) : Int)), .int (zI ((i + 1 : Nat) : Int)), .int (zI ((xs : Nat) : Int)), .int (zI xk), .int (zI xv)])), ((xa 1), .inl (cy 0, 200, .inl (zA xt)))] := hD
          refine lv_goto (tgt := 0) hx hb dX7_step_35 (by decide) ?_
          exact ih0 (i + 1) (by omega) (by omega) (by rw [hq]; exact rn_y (by omega) (decide_eq_true (by omega))) (i + 1) (by first | rfl | omega) _ _ hP hD hS ls (lv_sub hl [0] rfl)
  exact loop0 ((xl - xn) + 1) xn (by omega) (by omega) rfl xn (by first | rfl | omega | simp) _ _ hP hD hS ls (lv_sub hl [0] rfl)
abbrev rm_X7_number : Room := { frames := 2, cells := 0, slots := 0, locals := 41 }
set_option maxHeartbeats 4000000 in
set_option maxRecDepth 100000 in
theorem c_X7_number (l : Launch) (D : va_G) (cy : Nat → ClassId) (xa : Nat → Nat) (xt : Nat → Int) (xl : Nat) (xn : Nat) (xs : Nat) (xk : Int) (xv : Int) (lo : Int) (hi0 : Int) (hlo : inR lo) (hhi : inR hi0) (hxl : xl ≤ 200) (hxn : xn ≤ xl) (hxv : -3000 ≤ xv ∧ xv ≤ 3000) (hxt : ∀ k, 0 ≤ xt k ∧ xt k ≤ 255) : Met l yX7_number wsX7_number rm_X7_number (pM D cy [((xa 0), .inr (7, [.ref (xa 1), .int (zI ((xl : Nat) : Int)), .int (zI ((xn : Nat) : Int)), .int (zI ((xs : Nat) : Int)), .int (zI xk), .int (zI xv)])), ((xa 1), .inl (cy 0, 200, .inl (zA xt)))] [.ref (xa 0), .int (zI lo), .int (zI hi0)]) (qM D (some (.int (zI (if okN xt xl xn xv lo hi0 then 1 else 0)))) [((xa 0), .inr (7, [.ref (xa 1), .int (zI ((xl : Nat) : Int)), .int (zI ((xn : Nat) : Int)), .int (zI ((xs : Nat) : Int)), .int (zI xk), .int (zI xv)])), ((xa 1), .inl (cy 0, 200, .inl (zA xt)))] [((xa 0), .inr (7, [.ref (xa 1), .int (zI ((xl : Nat) : Int)), .int (zI ((nT xt xl xn : Nat) : Int)), .int (zI ((sT xt xl xn : Nat) : Int)), .int (zI (kT xt xl xn)), .int (zI (vT xt xl xn xv))])), ((xa 1), .inl (cy 0, 200, .inl (zA xt)))]) 0 0 (inW [((xa 0), .inr (7, [.ref (xa 1), .int (zI ((xl : Nat) : Int)), .int (zI ((xn : Nat) : Int)), .int (zI ((xs : Nat) : Int)), .int (zI xk), .int (zI xv)])), ((xa 1), .inl (cy 0, 200, .inl (zA xt)))]) := by
  refine met_M (cc := cX7_number) (maxL := 3) (ret := (some .boolean)) RX7 (by decide) rfl rfl (Nat.le_of_ble_eq_true rfl) ?_
  intro p e s m args below meth c ls Q A0 hx hb hr hml hts hown hlocks hQ hA0 hP hK hD hS hl
  have hl : lv_has ls 3 [(0, .ref (xa 0)), (1, .int (zI lo)), (2, .int (zI hi0))] := hl
  have hP : va_P D vwCl [((xa 0), .inr (7, [.ref (xa 1), .int (zI ((xl : Nat) : Int)), .int (zI ((xn : Nat) : Int)), .int (zI ((xs : Nat) : Int)), .int (zI xk), .int (zI xv)])), ((xa 1), .inl (cy 0, 200, .inl (zA xt)))] s.heap := hP
  have hinX7 : ∀ w ∈ wsX70, w ∈ wsX7_number := (fun w h => List.mem_cons_of_mem _ (List.mem_append_right _ h))
  refine lv_aload_n hx hb dX7_number_0 rfl (lv_at hl 0 rfl) ?_
  refine zm_callV (rest := []) (As := []) (ws' := [((xa 0), .inr (7, [.ref (xa 1), .int (zI ((xl : Nat) : Int)), .int (zI ((nT xt xl xn : Nat) : Int)), .int (zI ((sT xt xl xn : Nat) : Int)), .int (zI (kT xt xl xn)), .int (zI (vT xt xl xn xv))])), ((xa 1), .inl (cy 0, 200, .inl (zA xt)))]) ⟨hx, hb, hml, hown, hts⟩ (c_X7_step l D cy xa xt xl xn xs xk xv (by omega) (by omega) (by omega) hxt) (cwV 0 hts gX7_number_X7_step rfl rfl rfl (by decide +kernel) ⟨Nat.le_of_ble_eq_true rfl, Nat.le_of_ble_eq_true rfl⟩) hK hP hD hS [0, 1] [some 0, some 1] rfl rfl rfl (by decide) rfl 0 7 rfl rfl rfl hl.1 rfl (Nat.le_of_ble_eq_true rfl) dX7_number_1 ⟨Nat.zero_le _, Nat.zero_le _⟩ (fun H locs hP hD hS => ?_)
  have hk9 := kT_in xt xl xn
  have hv9 := vT_in hxt xl xn hxv
  refine lv_aload_n hx hb dX7_number_4 rfl (lv_at hl 0 rfl) ?_
  refine va_get (D := D) (ci := 7) (v := .int (zI (kT xt xl xn))) (C := RX7) (T := TX7) (N := 6) hx hb hts hinX7 hown hK hP 0 rfl rfl 4 (by decide) (hts (.fieldLink RX7 36 "SilentRent$Text" "token" "I") (List.mem_of_getElem? (i := 1) rfl)) (fun _ h9 => h9) rfl dX7_number_5 ?_
  refine lv_iconst (v := zI 2) hx hb dX7_number_8 rfl ?_
  refine z_icmp_ne (tgt := 32) hx hb ⟨by omega, by omega⟩ ⟨by omega, by omega⟩ dX7_number_9 (by decide) (fun c1 => ?_) (fun c1 => ?_)
  · refine lv_iconst (v := zI 0) hx hb dX7_number_32 rfl ?_
    have hP : va_P D vwCl [((xa 0), .inr (7, [.ref (xa 1), .int (zI ((xl : Nat) : Int)), .int (zI ((nT xt xl xn : Nat) : Int)), .int (zI ((sT xt xl xn : Nat) : Int)), .int (zI (kT xt xl xn)), .int (zI (vT xt xl xn xv))])), ((xa 1), .inl (cy 0, 200, .inl (zA xt)))] H := hP
    exact zm_zret hx hb hr hlocks hQ hA0 hP hS (by first | exact (if_pos ⟨by omega, by omega, by omega⟩).symm | exact (if_neg (fun h => by have h1 := h.1; have h2 := h.2.1; have h3 := h.2.2; omega)).symm) (by first | omega | (split <;> omega)) dX7_number_33
  · refine lv_aload_n hx hb dX7_number_12 rfl (lv_at hl 0 rfl) ?_
    refine va_get (D := D) (ci := 7) (v := .int (zI (vT xt xl xn xv))) (C := RX7) (T := TX7) (N := 6) hx hb hts hinX7 hown hK hP 0 rfl rfl 5 (by decide) (hts (.fieldLink RX7 46 "SilentRent$Text" "value" "I") (List.mem_of_getElem? (i := 2) rfl)) (fun _ h9 => h9) rfl dX7_number_13 ?_
    refine lv_iload_n hx hb dX7_number_16 rfl (lv_at hl 1 rfl) ?_
    refine z_icmp_lt (tgt := 32) hx hb ⟨by omega, by omega⟩ ⟨by omega, by omega⟩ dX7_number_17 (by decide) (fun c2 => ?_) (fun c2 => ?_)
    · refine lv_iconst (v := zI 0) hx hb dX7_number_32 rfl ?_
      have hP : va_P D vwCl [((xa 0), .inr (7, [.ref (xa 1), .int (zI ((xl : Nat) : Int)), .int (zI ((nT xt xl xn : Nat) : Int)), .int (zI ((sT xt xl xn : Nat) : Int)), .int (zI (kT xt xl xn)), .int (zI (vT xt xl xn xv))])), ((xa 1), .inl (cy 0, 200, .inl (zA xt)))] H := hP
      exact zm_zret hx hb hr hlocks hQ hA0 hP hS (by first | exact (if_pos ⟨by omega, by omega, by omega⟩).symm | exact (if_neg (fun h => by have h1 := h.1; have h2 := h.2.1; have h3 := h.2.2; omega)).symm) (by first | omega | (split <;> omega)) dX7_number_33
    · refine lv_aload_n hx hb dX7_number_20 rfl (lv_at hl 0 rfl) ?_
      refine va_get (D := D) (ci := 7) (v := .int (zI (vT xt xl xn xv))) (C := RX7) (T := TX7) (N := 6) hx hb hts hinX7 hown hK hP 0 rfl rfl 5 (by decide) (hts (.fieldLink RX7 46 "SilentRent$Text" "value" "I") (List.mem_of_getElem? (i := 2) rfl)) (fun _ h9 => h9) rfl dX7_number_21 ?_
      refine lv_iload_n hx hb dX7_number_24 rfl (lv_at hl 2 rfl) ?_
      refine z_icmp_gt (tgt := 32) hx hb ⟨by omega, by omega⟩ ⟨by omega, by omega⟩ dX7_number_25 (by decide) (fun c3 => ?_) (fun c3 => ?_)
      · refine lv_iconst (v := zI 0) hx hb dX7_number_32 rfl ?_
        have hP : va_P D vwCl [((xa 0), .inr (7, [.ref (xa 1), .int (zI ((xl : Nat) : Int)), .int (zI ((nT xt xl xn : Nat) : Int)), .int (zI ((sT xt xl xn : Nat) : Int)), .int (zI (kT xt xl xn)), .int (zI (vT xt xl xn xv))])), ((xa 1), .inl (cy 0, 200, .inl (zA xt)))] H := hP
        exact zm_zret hx hb hr hlocks hQ hA0 hP hS (by first | exact (if_pos ⟨by omega, by omega, by omega⟩).symm | exact (if_neg (fun h => by have h1 := h.1; have h2 := h.2.1; have h3 := h.2.2; omega)).symm) (by first | omega | (split <;> omega)) dX7_number_33
      · refine lv_iconst (v := zI 1) hx hb dX7_number_28 rfl ?_
        refine lv_goto (tgt := 33) hx hb dX7_number_29 (by decide) ?_
        have hP : va_P D vwCl [((xa 0), .inr (7, [.ref (xa 1), .int (zI ((xl : Nat) : Int)), .int (zI ((nT xt xl xn : Nat) : Int)), .int (zI ((sT xt xl xn : Nat) : Int)), .int (zI (kT xt xl xn)), .int (zI (vT xt xl xn xv))])), ((xa 1), .inl (cy 0, 200, .inl (zA xt)))] H := hP
        exact zm_zret hx hb hr hlocks hQ hA0 hP hS (by first | exact (if_pos ⟨by omega, by omega, by omega⟩).symm | exact (if_neg (fun h => by have h1 := h.1; have h2 := h.2.1; have h3 := h.2.2; omega)).symm) (by first | omega | (split <;> omega)) dX7_number_33
abbrev rm_X7_semicolon : Room := { frames := 2, cells := 0, slots := 0, locals := 41 }
set_option maxHeartbeats 4000000 in
set_option maxRecDepth 100000 in
theorem c_X7_semicolon (l : Launch) (D : va_G) (cy : Nat → ClassId) (xa : Nat → Nat) (xt : Nat → Int) (xl : Nat) (xn : Nat) (xs : Nat) (xk : Int) (xv : Int) (hxl : xl ≤ 200) (hxn : xn ≤ xl) (hxv : -3000 ≤ xv ∧ xv ≤ 3000) (hxt : ∀ k, 0 ≤ xt k ∧ xt k ≤ 255) : Met l yX7_semicolon wsX7_semicolon rm_X7_semicolon (pM D cy [((xa 0), .inr (7, [.ref (xa 1), .int (zI ((xl : Nat) : Int)), .int (zI ((xn : Nat) : Int)), .int (zI ((xs : Nat) : Int)), .int (zI xk), .int (zI xv)])), ((xa 1), .inl (cy 0, 200, .inl (zA xt)))] [.ref (xa 0)]) (qM D (some (.int (zI (if kT xt xl xn = 3 then 1 else 0)))) [((xa 0), .inr (7, [.ref (xa 1), .int (zI ((xl : Nat) : Int)), .int (zI ((xn : Nat) : Int)), .int (zI ((xs : Nat) : Int)), .int (zI xk), .int (zI xv)])), ((xa 1), .inl (cy 0, 200, .inl (zA xt)))] [((xa 0), .inr (7, [.ref (xa 1), .int (zI ((xl : Nat) : Int)), .int (zI ((nT xt xl xn : Nat) : Int)), .int (zI ((sT xt xl xn : Nat) : Int)), .int (zI (kT xt xl xn)), .int (zI (vT xt xl xn xv))])), ((xa 1), .inl (cy 0, 200, .inl (zA xt)))]) 0 0 (inW [((xa 0), .inr (7, [.ref (xa 1), .int (zI ((xl : Nat) : Int)), .int (zI ((xn : Nat) : Int)), .int (zI ((xs : Nat) : Int)), .int (zI xk), .int (zI xv)])), ((xa 1), .inl (cy 0, 200, .inl (zA xt)))]) := by
  refine met_M (cc := cX7_semicolon) (maxL := 1) (ret := (some .boolean)) RX7 (by decide) rfl rfl (Nat.le_of_ble_eq_true rfl) ?_
  intro p e s m args below meth c ls Q A0 hx hb hr hml hts hown hlocks hQ hA0 hP hK hD hS hl
  have hl : lv_has ls 1 [(0, .ref (xa 0))] := hl
  have hP : va_P D vwCl [((xa 0), .inr (7, [.ref (xa 1), .int (zI ((xl : Nat) : Int)), .int (zI ((xn : Nat) : Int)), .int (zI ((xs : Nat) : Int)), .int (zI xk), .int (zI xv)])), ((xa 1), .inl (cy 0, 200, .inl (zA xt)))] s.heap := hP
  have hinX7 : ∀ w ∈ wsX70, w ∈ wsX7_semicolon := (fun w h => List.mem_cons_of_mem _ (List.mem_append_right _ h))
  refine lv_aload_n hx hb dX7_semicolon_0 rfl (lv_at hl 0 rfl) ?_
  refine zm_callV (rest := []) (As := []) (ws' := [((xa 0), .inr (7, [.ref (xa 1), .int (zI ((xl : Nat) : Int)), .int (zI ((nT xt xl xn : Nat) : Int)), .int (zI ((sT xt xl xn : Nat) : Int)), .int (zI (kT xt xl xn)), .int (zI (vT xt xl xn xv))])), ((xa 1), .inl (cy 0, 200, .inl (zA xt)))]) ⟨hx, hb, hml, hown, hts⟩ (c_X7_step l D cy xa xt xl xn xs xk xv (by omega) (by omega) (by omega) hxt) (cwV 0 hts gX7_semicolon_X7_step rfl rfl rfl (by decide +kernel) ⟨Nat.le_of_ble_eq_true rfl, Nat.le_of_ble_eq_true rfl⟩) hK hP hD hS [0, 1] [some 0, some 1] rfl rfl rfl (by decide) rfl 0 7 rfl rfl rfl hl.1 rfl (Nat.le_of_ble_eq_true rfl) dX7_semicolon_1 ⟨Nat.zero_le _, Nat.zero_le _⟩ (fun H locs hP hD hS => ?_)
  have hk9 := kT_in xt xl xn
  refine lv_aload_n hx hb dX7_semicolon_4 rfl (lv_at hl 0 rfl) ?_
  refine va_get (D := D) (ci := 7) (v := .int (zI (kT xt xl xn))) (C := RX7) (T := TX7) (N := 6) hx hb hts hinX7 hown hK hP 0 rfl rfl 4 (by decide) (hts (.fieldLink RX7 36 "SilentRent$Text" "token" "I") (List.mem_of_getElem? (i := 1) rfl)) (fun _ h9 => h9) rfl dX7_semicolon_5 ?_
  refine lv_iconst (v := zI 3) hx hb dX7_semicolon_8 rfl ?_
  refine z_icmp_ne (tgt := 16) hx hb ⟨by omega, by omega⟩ ⟨by omega, by omega⟩ dX7_semicolon_9 (by decide) (fun c1 => ?_) (fun c1 => ?_)
  · refine lv_iconst (v := zI 0) hx hb dX7_semicolon_16 rfl ?_
    have hP : va_P D vwCl [((xa 0), .inr (7, [.ref (xa 1), .int (zI ((xl : Nat) : Int)), .int (zI ((nT xt xl xn : Nat) : Int)), .int (zI ((sT xt xl xn : Nat) : Int)), .int (zI (kT xt xl xn)), .int (zI (vT xt xl xn xv))])), ((xa 1), .inl (cy 0, 200, .inl (zA xt)))] H := hP
    exact zm_zret hx hb hr hlocks hQ hA0 hP hS (by first | exact (if_pos (by omega)).symm | exact (if_neg (by omega)).symm) (by first | omega | (split <;> omega)) dX7_semicolon_17
  · refine lv_iconst (v := zI 1) hx hb dX7_semicolon_12 rfl ?_
    refine lv_goto (tgt := 17) hx hb dX7_semicolon_13 (by decide) ?_
    have hP : va_P D vwCl [((xa 0), .inr (7, [.ref (xa 1), .int (zI ((xl : Nat) : Int)), .int (zI ((nT xt xl xn : Nat) : Int)), .int (zI ((sT xt xl xn : Nat) : Int)), .int (zI (kT xt xl xn)), .int (zI (vT xt xl xn xv))])), ((xa 1), .inl (cy 0, 200, .inl (zA xt)))] H := hP
    exact zm_zret hx hb hr hlocks hQ hA0 hP hS (by first | exact (if_pos (by omega)).symm | exact (if_neg (by omega)).symm) (by first | omega | (split <;> omega)) dX7_semicolon_17
