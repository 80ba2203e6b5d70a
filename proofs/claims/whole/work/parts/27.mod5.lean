/-! the model: the crowd, the odds -/
theorem or2_and : ∀ j, j < 6 → ∀ a, a < 64 → ∀ s, s < 64 → ((a ||| 2 ^ j) &&& s = 0 ↔ a &&& s = 0 ∧ (s >>> j) &&& 1 = 0) := by decide +kernel
theorem cr_s {Q : Nat → Prop} [DecidablePred Q] {j s : Nat} (hj : j < 6) (hs : s < 64) : (bits (fun t => decide (Q t)) (j + 1) &&& s = 0) ↔ (bits (fun t => decide (Q t)) j &&& s = 0 ∧ ¬ (Q j ∧ (s >>> j) &&& 1 = 1)) := by
  have h1 := bits_lt64 (fun t => decide (Q t)) j (by omega)
  have h2 : (s >>> j) &&& 1 ≤ 1 := Nat.and_le_right
  have h3 := or2_and j hj _ h1 s hs
  show ((if decide (Q j) = true then bits (fun t => decide (Q t)) j ||| 2 ^ j else bits (fun t => decide (Q t)) j) &&& s = 0) ↔ _
  by_cases h : Q j
  · rw [if_pos (decide_eq_true h), h3]
    constructor
    · intro h4; exact ⟨h4.1, fun h5 => by omega⟩
    · intro h4
      refine ⟨h4.1, ?_⟩
      have : ¬ (s >>> j) &&& 1 = 1 := fun h5 => h4.2 ⟨h, h5⟩
      omega
  · rw [if_neg (fun h5 => h (of_decide_eq_true h5))]
    exact ⟨fun h4 => ⟨h4, fun h5 => h h5.1⟩, fun h4 => h4.1⟩
theorem pop_or : ∀ k, k < 6 → ∀ a, a < 64 → a < 2 ^ k → popc (a ||| 2 ^ k) = popc a + 1 := by decide +kernel
theorem rmb_s {pr sl mu : Nat → Int} {te k s : Nat} (hk : k < 6) : popc (rmb pr sl mu te (k + 1) s) = if whm pr sl mu te k &&& s = 0 then popc (rmb pr sl mu te k s) else popc (rmb pr sl mu te k s) + 1 := by
  have h1 := rmb_lt64 pr sl mu te k s (by omega)
  have h2 : rmb pr sl mu te k s < 2 ^ k := bits_lt _ _
  show popc (if decide (¬ (whm pr sl mu te k &&& s) = 0) = true then rmb pr sl mu te k s ||| 2 ^ k else rmb pr sl mu te k s) = _
  by_cases h : whm pr sl mu te k &&& s = 0
  · rw [if_neg (fun h5 => absurd h (of_decide_eq_true h5)), if_pos h]
  · rw [if_pos (decide_eq_true h), if_neg h, pop_or k hk _ h1 h2]
def gcI (a b : Int) : Int := ((Nat.gcd a.toNat b.toNat : Nat) : Int)
theorem gcI_0 {a : Int} (h : 0 ≤ a) : gcI a 0 = a := by
  show ((Nat.gcd a.toNat 0 : Nat) : Int) = a
  rw [Nat.gcd_zero_right]
  omega
theorem gcI_s {a b : Int} (ha : 0 ≤ a) (hb : 0 < b) : gcI a b = gcI b (a % b) := by
  obtain ⟨m, rfl⟩ := Int.eq_ofNat_of_zero_le ha
  obtain ⟨n, rfl⟩ := Int.eq_ofNat_of_zero_le (Int.le_of_lt hb)
  unfold gcI
  rw [← Int.natCast_emod]
  simp only [Int.toNat_natCast]
  rw [Nat.gcd_comm m n, Nat.gcd_rec n m, Nat.gcd_comm]
theorem gcs_gcd : ∀ (m : Nat) (a b : Int), 0 ≤ a → 0 ≤ b → b < 2 ^ m → gcs (2 * m + 1) a b = gcI a b
  | 0, a, b, ha, hb, h => by
    have e : b = 0 := by have : (2 : Int) ^ 0 = 1 := rfl; omega
    subst e
    rw [gcs_0, gcI_0 ha]
  | m + 1, a, b, ha, hb, h => by
    rw [show 2 * (m + 1) + 1 = (2 * m + 1) + 1 + 1 from by omega, gcs_s]
    by_cases e : b = 0
    · rw [if_pos e, e, gcI_0 ha]
    · rw [if_neg e, gcI_s ha (by omega), gcs_s]
      have h1 := Int.emod_nonneg a e
      have h2 := Int.emod_lt_of_pos a (show 0 < b by omega)
      by_cases e2 : a % b = 0
      · rw [if_pos e2, e2, gcI_0 hb]
      · rw [if_neg e2, gcI_s hb (by omega)]
        have h3 := Int.emod_nonneg b e2
        have h4 := Int.emod_lt_of_pos b (show 0 < a % b by omega)
        have h5 := Int.emod_add_mul_ediv b (a % b)
        have h6 : 1 ≤ b / (a % b) := Int.le_ediv_of_mul_le (by omega) (by omega)
        have h7 : a % b * 1 ≤ a % b * (b / (a % b)) := Int.mul_le_mul_of_nonneg_left h6 h1
        have h8 : (2 : Int) ^ (m + 1) = 2 ^ m * 2 := Int.pow_succ _ _
        exact gcs_gcd m _ _ h1 h3 (by omega)
def moU (hm pr sl mu : Nat → Int) (ro : Nat) (x : Int) : Nat → Int
  | 0 => 1
  | n + 1 => if hm n = -9 then moU hm pr sl mu ro x n else moU hm pr sl mu ro x n * (if 2 ≤ spr hm pr sl mu ro n then 10 else if 0 ≤ spr hm pr sl mu ro n then 10 - x else 0)
def moL (hm : Nat → Int) : Nat → Int
  | 0 => 1
  | n + 1 => if hm n = -9 then moL hm n else moL hm n * 10
theorem moU_in {hm pr sl mu : Nat → Int} {ro : Nat} {x : Int} (hx : 0 ≤ x ∧ x ≤ 10) : ∀ n, 0 ≤ moU hm pr sl mu ro x n ∧ moU hm pr sl mu ro x n ≤ (10 : Int) ^ n
  | 0 => by show (0 : Int) ≤ 1 ∧ (1 : Int) ≤ 10 ^ 0; decide
  | n + 1 => by
    have ih := moU_in hx (hm := hm) (pr := pr) (sl := sl) (mu := mu) (ro := ro) n
    have e : (10 : Int) ^ (n + 1) = 10 ^ n * 10 := Int.pow_succ _ _
    unfold moU
    split
    · omega
    · generalize hy : (if 2 ≤ spr hm pr sl mu ro n then (10 : Int) else if 0 ≤ spr hm pr sl mu ro n then 10 - x else 0) = y
      have h1 : 0 ≤ y ∧ y ≤ 10 := by
        rw [← hy]
        (repeat' split) <;> omega
      have h2 : moU hm pr sl mu ro x n * y ≤ moU hm pr sl mu ro x n * 10 := Int.mul_le_mul_of_nonneg_left h1.2 ih.1
      exact ⟨Int.mul_nonneg ih.1 h1.1, by omega⟩
theorem moL_in (hm : Nat → Int) : ∀ n, 1 ≤ moL hm n ∧ moL hm n ≤ (10 : Int) ^ n
  | 0 => by show (1 : Int) ≤ 1 ∧ (1 : Int) ≤ 10 ^ 0; decide
  | n + 1 => by
    have ih := moL_in hm n
    have e : (10 : Int) ^ (n + 1) = 10 ^ n * 10 := Int.pow_succ _ _
    unfold moL
    split <;> omega
theorem mo_od (hm pr sl mu : Nat → Int) (ro : Nat) (x : Int) : ∀ n, ∃ c : Nat, 0 < c ∧ moU hm pr sl mu ro x n = odU hm pr sl mu ro x n * (c : Int) ∧ moL hm n = odL hm pr sl mu ro n * (c : Int)
  | 0 => ⟨1, by decide, rfl, rfl⟩
  | n + 1 => by
    obtain ⟨c, h0, h1, h2⟩ := mo_od hm pr sl mu ro x n
    unfold moU moL odU odL
    by_cases e : hm n = -9
    · rw [if_pos e, if_pos e, if_pos e, if_pos e]
      exact ⟨c, h0, h1, h2⟩
    · rw [if_neg e, if_neg e, if_neg e, if_neg e]
      by_cases e2 : 2 ≤ spr hm pr sl mu ro n
      · rw [if_pos e2, if_pos e2, if_pos e2, h1, h2]
        refine ⟨c * 10, by omega, ?_, ?_⟩ <;> rw [Int.natCast_mul, Int.mul_assoc] <;> rfl
      · rw [if_neg e2, if_neg e2, if_neg e2, h1, h2]
        refine ⟨c, h0, ?_, ?_⟩
        · rw [Int.mul_assoc, Int.mul_comm (c : Int), ← Int.mul_assoc]
        · rw [Int.mul_assoc, Int.mul_comm (c : Int), ← Int.mul_assoc]
theorem gcI_mul {a b : Int} (ha : 0 ≤ a) (hb : 0 ≤ b) (c : Nat) : gcI (a * (c : Int)) (b * (c : Int)) = gcI a b * (c : Int) := by
  obtain ⟨m, rfl⟩ := Int.eq_ofNat_of_zero_le ha
  obtain ⟨n, rfl⟩ := Int.eq_ofNat_of_zero_le hb
  unfold gcI
  rw [← Int.natCast_mul, ← Int.natCast_mul]
  simp only [Int.toNat_natCast]
  rw [Nat.gcd_mul_right, Int.natCast_mul]
theorem od_gc {hm pr sl mu : Nat → Int} {ro te : Nat} {x : Int} (hte : te ≤ 6) (hx : 0 ≤ x ∧ x ≤ 10) : gcs 100 (odU hm pr sl mu ro x te) (odL hm pr sl mu ro te) = gcI (odU hm pr sl mu ro x te) (odL hm pr sl mu ro te) ∧ 0 < gcI (odU hm pr sl mu ro x te) (odL hm pr sl mu ro te) := by
  have h1 := odU_in hx (hm := hm) (pr := pr) (sl := sl) (mu := mu) (ro := ro) te
  have h2 := odL_in hm pr sl mu ro te
  have h3 := ten6 hte
  constructor
  · have h4 := gcs_gcd 49 (odU hm pr sl mu ro x te) (odL hm pr sl mu ro te) h1.1 (by omega) (by have : (1000000 : Int) < 2 ^ 49 := (by decide); omega)
    have h5 : gcs 100 (odU hm pr sl mu ro x te) (odL hm pr sl mu ro te) = gcs (2 * 49 + 1) (odL hm pr sl mu ro te) (odU hm pr sl mu ro x te % odL hm pr sl mu ro te) := by
      rw [show 100 = (2 * 49 + 1) + 1 from rfl, gcs_s, if_neg (by omega)]
    have h6 := Int.emod_nonneg (odU hm pr sl mu ro x te) (show odL hm pr sl mu ro te ≠ 0 by omega)
    have h7 := Int.emod_lt_of_pos (odU hm pr sl mu ro x te) (show 0 < odL hm pr sl mu ro te by omega)
    rw [h5, gcs_gcd 49 _ _ (by omega) h6 (by have : (1000000 : Int) < 2 ^ 49 := (by decide); omega), ← gcI_s h1.1 (by omega)]
  · unfold gcI
    have : 0 < Nat.gcd (odU hm pr sl mu ro x te).toNat (odL hm pr sl mu ro te).toNat := Nat.gcd_pos_of_pos_right _ (by omega)
    omega
theorem mo_div {hm pr sl mu : Nat → Int} {ro te : Nat} {x : Int} (hte : te ≤ 6) (hx : 0 ≤ x ∧ x ≤ 10) : moU hm pr sl mu ro x te / gcI (moU hm pr sl mu ro x te) (moL hm te) = odU hm pr sl mu ro x te / gcs 100 (odU hm pr sl mu ro x te) (odL hm pr sl mu ro te) ∧ moL hm te / gcI (moU hm pr sl mu ro x te) (moL hm te) = odL hm pr sl mu ro te / gcs 100 (odU hm pr sl mu ro x te) (odL hm pr sl mu ro te) := by
  obtain ⟨c, h0, h1, h2⟩ := mo_od hm pr sl mu ro x te
  have h3 := odU_in hx (hm := hm) (pr := pr) (sl := sl) (mu := mu) (ro := ro) te
  have h4 := odL_in hm pr sl mu ro te
  have hg := od_gc (hm := hm) (pr := pr) (sl := sl) (mu := mu) (ro := ro) hte hx
  rw [h1, h2, gcI_mul h3.1 (by omega), hg.1]
  exact ⟨Int.mul_ediv_mul_of_pos_left _ _ (by omega), Int.mul_ediv_mul_of_pos_left _ _ (by omega)⟩
abbrev rm_X9_crowd : Room := { frames := 2, cells := 0, slots := 0, locals := 43 }
set_option maxHeartbeats 4000000 in
set_option maxRecDepth 100000 in
theorem c_X9_crowd (l : Launch) (D : va_G) (cy : Nat → ClassId) (ma : Nat → Nat) (xt : Nat → Int) (xl : Nat) (at0 : Nat) (bg : Nat) (tk0 : Int) (td : Int) (rd : Nat → Int) (hs : Nat → Int) (day : Int) (hm : Nat → Int) (tk : Nat → Int) (py : Nat → Int) (db : Nat → Int) (un : Nat → Int) (ud : Nat) (rs : Nat → Int) (be : Int) (bp : Int) (gp : Nat → Int) (ln : Nat) (wh : Nat → Nat) (lk : Nat → Int) (wa : Int) (so : Nat → Nat) (tr : Int) (kp : Nat → Int) (ro : Nat) (te : Nat) (ch : Nat) (pr : Nat → Int) (sl : Nat → Int) (mu : Nat → Int) (wi : Nat → Int) (ak : Nat → Int) (he : Nat → Nat) (li : Nat → Nat) (hro : ro ≤ 6) (hte : te ≤ 6) (hch : ch ≤ 5) (hHB : HB pr sl mu wi ak he li) (hHS : HS hs ro te ch pr sl mu wi ak he li) : Met l yX9_crowd wsX9_crowd rm_X9_crowd (pR D cy [((ma 0), .inr (9, [.ref (ma 1), .int (zI ((xl : Nat) : Int)), .int (zI ((at0 : Nat) : Int)), .int (zI ((bg : Nat) : Int)), .int (zI tk0), .int (zI td), .ref (ma 2), .ref (ma 3), .ref (ma 4), .ref (ma 5), .int (zI ((ud : Nat) : Int)), .ref (ma 6), .int (zI be), .int (zI bp), .ref (ma 7), .int (zI ((ln : Nat) : Int)), .ref (ma 8), .ref (ma 9), .int (zI wa), .ref (ma 10), .long (zL tr), .ref (ma 11)])), ((ma 1), .inl (cy 0, 200, .inl (zA xt))), ((ma 2), .inl (cy 0, 44, .inl (zA rd))), ((ma 3), .inl (cy 0, 44, .inl (zA hs))), ((ma 4), .inl (cy 0, 25, .inl (zA (enc day hm tk py db)))), ((ma 5), .inl (cy 0, 250, .inl (zA un))), ((ma 6), .inl (cy 0, 6, .inl (zA rs))), ((ma 7), .inl (cy 0, 64, .inl (zA gp))), ((ma 8), .inl (cy 0, 6, .inl (zA (fun j => ((wh j : Nat) : Int))))), ((ma 9), .inl (cy 0, 6, .inl (zA lk))), ((ma 10), .inl (cy 0, 6, .inl (zA (fun j => ((so j : Nat) : Int))))), ((ma 11), .inl (cy 0, 554, .inl (zA kp)))] [.ref (ma 0)]) (qR ((bst (fun n => decide (popc (rmb pr sl mu te ro n) < popc n)) 7 (2 ^ te)).1)) 0 0 (fun _ => False) := by
  refine met_R (cc := cX9_crowd) (maxL := 7) (ret := (some .int)) RX9 (by decide) rfl rfl (Nat.le_of_ble_eq_true rfl) ?_
  intro p e s m args below meth c ls Q hx hb hr hml hts hown hlocks hQ hP hK hl
  have hl : lv_has ls 7 [(0, .ref (ma 0))] := hl
  have hinX9 : ∀ w ∈ wsX90, w ∈ wsX9_crowd := (fun w h => List.mem_cons_of_mem _ (List.mem_append_right _ h))
  have hpw := pow_le64 te (by omega)
  refine lv_bipush (v := zI (-9)) hx hb dX9_crowd_0 (by decide) ?_
  refine lv_istore_n (lv' := [(1, .int (zI (-9))), (0, .ref (ma 0))]) hx hb dX9_crowd_2 rfl hl (by decide) rfl (fun ls hl => ?_)
  refine lv_iconst (v := zI 1) hx hb dX9_crowd_3 rfl ?_
  refine lv_istore_n (lv' := [(2, .int (zI 1)), (1, .int (zI (-9))), (0, .ref (ma 0))]) hx hb dX9_crowd_4 rfl hl (by decide) rfl (fun ls hl => ?_)
  have loop5 : ∀ (n9 : Nat) (i : Nat), 2 ^ te - i < n9 → (1 ≤ i ∧ i ≤ 2 ^ te) → ∀ (x5_1 : Int), x5_1 = ((bst (fun n => decide (popc (rmb pr sl mu te ro n) < popc n)) 7 i).1) → ∀ (x5_2 : Int), x5_2 = ((i : Nat) : Int) → ∀ ls : Array Slot, lv_has ls 7 [(0, .ref (ma 0)), (1, .int (zI x5_1)), (2, .int (zI x5_2))] → W p l e rm_X9_crowd s m args below meth c s.heap [] 0 0 Q (F0 m 5 ls []) := by
    intro n9
    induction n9 with
    | zero => intro i h9; exact absurd h9 (Nat.not_lt_zero _)
    | succ n9 ih5 =>
      intro i hmu5 hi x5_1 ex5_1 x5_2 ex5_2 ls hl
      subst ex5_1
      subst ex5_2
      have hl : lv_has ls 7 [(0, .ref (ma 0)), (1, .int (zI ((bst (fun n => decide (popc (rmb pr sl mu te ro n) < popc n)) 7 i).1))), (2, .int (zI ((i : Nat) : Int)))] := hl
      have hf1 := bst_in (fun n => decide (popc (rmb pr sl mu te ro n) < popc n)) 7 i
      have hbb := bst2 (fun n => decide (popc (rmb pr sl mu te ro n) < popc n)) 7 i
      have hbo := bst_or (fun n => decide (popc (rmb pr sl mu te ro n) < popc n)) 7 i
      have hf2 := popc_le6 i
      have hf3 := popc_le6 (bst (fun n => decide (popc (rmb pr sl mu te ro n) < popc n)) 7 i).1.toNat
      refine lv_iload_n hx hb dX9_crowd_5 rfl (lv_at hl 2 rfl) ?_
      refine lv_iconst (v := zI 1) hx hb dX9_crowd_6 rfl ?_
      refine lv_aload_n hx hb dX9_crowd_7 rfl (lv_at hl 0 rfl) ?_
      refine va_get (D := D) (ci := 9) (v := .ref (ma 3)) (C := RX9) (T := TX9) (N := 22) hx hb hts hinX9 hown hK hP 0 rfl rfl 7 (by decide) (hts (.fieldLink RX9 16 "SilentRentModel" "house" "[I") (List.mem_of_getElem? (i := 1) rfl)) (fun _ h9 => h9) rfl dX9_crowd_8 ?_
      refine lv_iconst (v := zI 1) hx hb dX9_crowd_11 rfl ?_
      refine z_iald2 hx hb hK hP 3 0 (f := hs) (v := ((te : Nat) : Int)) rfl rfl 1 (by omega) (by omega) (by decide) (hHS.2.1) dX9_crowd_12 ?_
      have hp1 := pow_le3 te (by omega)
      refine z_ishl (r := ((2 ^ te : Nat) : Int)) hx hb (zI_shl1 te (by omega)) dX9_crowd_13 ?_
      refine z_icmp_ge (tgt := 157) hx hb ⟨by omega, by omega⟩ ⟨by omega, by omega⟩ dX9_crowd_14 (by decide) (fun c2 => ?_) (fun c2 => ?_)
      · have c2 : (2 ^ te : Nat) ≤ (i : Nat) := by omega
        refine lv_iload_n hx hb dX9_crowd_157 rfl (lv_at hl 1 rfl) ?_
        exact zr_iret hx hb hr hlocks hQ (by rw [show i = 2 ^ te from by omega]) dX9_crowd_158
      · have c2 : ¬ ((2 ^ te : Nat) ≤ (i : Nat)) := by omega
        refine lv_iconst (v := zI 0) hx hb dX9_crowd_17 rfl ?_
        refine lv_istore_n (lv' := [(3, .int (zI 0)), (0, .ref (ma 0)), (1, .int (zI ((bst (fun n => decide (popc (rmb pr sl mu te ro n) < popc n)) 7 i).1))), (2, .int (zI ((i : Nat) : Int)))]) hx hb dX9_crowd_18 rfl hl (by decide) rfl (fun ls hl => ?_)
        refine lv_iconst (v := zI 0) hx hb dX9_crowd_19 rfl ?_
        refine lv_istore (lv' := [(4, .int (zI 0)), (3, .int (zI 0)), (0, .ref (ma 0)), (1, .int (zI ((bst (fun n => decide (popc (rmb pr sl mu te ro n) < popc n)) 7 i).1))), (2, .int (zI ((i : Nat) : Int)))]) hx hb dX9_crowd_20 hl (by decide) rfl (fun ls hl => ?_)
        have loop22 : ∀ (n9 : Nat) (k : Nat), ro - k < n9 → (k ≤ ro) → (i < 2 ^ te) → ∀ (x22_3 : Int), x22_3 = ((popc (rmb pr sl mu te k i) : Nat) : Int) → ∀ (x22_4 : Int), x22_4 = ((k : Nat) : Int) → ∀ ls : Array Slot, lv_has ls 7 [(0, .ref (ma 0)), (1, .int (zI ((bst (fun n => decide (popc (rmb pr sl mu te ro n) < popc n)) 7 i).1))), (2, .int (zI ((i : Nat) : Int))), (3, .int (zI x22_3)), (4, .int (zI x22_4))] → W p l e rm_X9_crowd s m args below meth c s.heap [] 0 0 Q (F0 m 22 ls []) := by
          intro n9
          induction n9 with
          | zero => intro k h9; exact absurd h9 (Nat.not_lt_zero _)
          | succ n9 ih22 =>
            intro k hmu22 hk hi9 x22_3 ex22_3 x22_4 ex22_4 ls hl
            subst ex22_3
            subst ex22_4
            have hl : lv_has ls 7 [(0, .ref (ma 0)), (1, .int (zI ((bst (fun n => decide (popc (rmb pr sl mu te ro n) < popc n)) 7 i).1))), (2, .int (zI ((i : Nat) : Int))), (3, .int (zI ((popc (rmb pr sl mu te k i) : Nat) : Int))), (4, .int (zI ((k : Nat) : Int)))] := hl
            have hk6 := popc_le6 (rmb pr sl mu te k i)
            refine lv_iload hx hb dX9_crowd_22 (lv_at hl 4 rfl) ?_
            refine lv_aload_n hx hb dX9_crowd_24 rfl (lv_at hl 0 rfl) ?_
            refine va_get (D := D) (ci := 9) (v := .ref (ma 3)) (C := RX9) (T := TX9) (N := 22) hx hb hts hinX9 hown hK hP 0 rfl rfl 7 (by decide) (hts (.fieldLink RX9 16 "SilentRentModel" "house" "[I") (List.mem_of_getElem? (i := 1) rfl)) (fun _ h9 => h9) rfl dX9_crowd_25 ?_
            refine lv_iconst (v := zI 0) hx hb dX9_crowd_28 rfl ?_
            refine z_iald2 hx hb hK hP 3 0 (f := hs) (v := ((ro : Nat) : Int)) rfl rfl 0 (by omega) (by omega) (by decide) (hHS.1) dX9_crowd_29 ?_
            refine z_icmp_ge (tgt := 108) hx hb ⟨by omega, by omega⟩ ⟨by omega, by omega⟩ dX9_crowd_30 (by decide) (fun c3 => ?_) (fun c3 => ?_)
            · have c3 : (ro : Nat) ≤ (k : Nat) := by omega
              have hke : k = ro := by omega
              refine lv_iload_n hx hb dX9_crowd_108 rfl (lv_at hl 3 rfl) ?_
              refine lv_iload_n hx hb dX9_crowd_109 rfl (lv_at hl 2 rfl) ?_
              have hPc4 := hP.sub (ws' := []) [] rfl
              refine zr_callS (rest := [.int (zI ((popc (rmb pr sl mu te k i) : Nat) : Int))]) (As := [.int (zI ((i : Nat) : Int))]) (v := ((popc i : Nat) : Int)) (wd := []) ⟨hx, hb, hml, hown, hts⟩ (c_X9_many l D cy ((i : Nat) : Int) (by omega)) (va_cwS 1 hts gX9_crowd_X9_many rfl rfl rfl (by decide +kernel) ⟨Nat.le_of_ble_eq_true rfl, Nat.le_of_ble_eq_true rfl⟩) hK (fun k q h => by cases h) rfl hl.1 rfl (Nat.le_of_ble_eq_true rfl) dX9_crowd_110 ⟨Nat.zero_le _, Nat.zero_le _⟩ ?_
              refine z_icmp_ge (tgt := 137) hx hb ⟨by omega, by omega⟩ ⟨by omega, by omega⟩ dX9_crowd_113 (by decide) (fun c5 => ?_) (fun c5 => ?_)
              · have c5 : (popc i : Nat) ≤ (popc (rmb pr sl mu te k i) : Nat) := by omega
                refine lv_iconst (v := zI 0) hx hb dX9_crowd_137 rfl ?_
                refine lv_istore (lv' := [(4, .int (zI 0)), (0, .ref (ma 0)), (1, .int (zI ((bst (fun n => decide (popc (rmb pr sl mu te ro n) < popc n)) 7 i).1))), (2, .int (zI ((i : Nat) : Int))), (3, .int (zI ((popc (rmb pr sl mu te k i) : Nat) : Int)))]) hx hb dX9_crowd_138 hl (by decide) rfl (fun ls hl => ?_)
                refine lv_iload hx hb dX9_crowd_140 (lv_at hl 0 rfl) ?_
                refine z_if_eq (tgt := 149) hx hb ⟨by omega, by omega⟩ dX9_crowd_142 (by decide) (fun c6 => ?_) (fun c6 => ?_)
                · refine lv_iload_n hx hb dX9_crowd_149 rfl (lv_at hl 2 rfl) ?_
                  refine lv_istore_n (lv' := [(1, .int (zI ((bst (fun n => decide (popc (rmb pr sl mu te ro n) < popc n)) 7 i).1))), (4, .int (zI 0)), (0, .ref (ma 0)), (2, .int (zI ((i : Nat) : Int))), (3, .int (zI ((popc (rmb pr sl mu te k i) : Nat) : Int)))]) hx hb dX9_crowd_150 rfl hl (by decide) rfl (fun ls hl => ?_)
                  refine z_iinc (r := ((i + 1 : Nat) : Int)) (lv' := [(2, .int (zI ((i + 1 : Nat) : Int))), (1, .int (zI ((bst (fun n => decide (popc (rmb pr sl mu te ro n) < popc n)) 7 i).1))), (4, .int (zI 0)), (0, .ref (ma 0)), (3, .int (zI ((popc (rmb pr sl mu te k i) : Nat) : Int)))]) hx hb (by omega) dX9_crowd_151 hl (k := 3) rfl (by decide) rfl (fun ls hl => ?_)
                  refine lv_goto (tgt := 5) hx hb dX9_crowd_154 (by decide) ?_
                  exact ih5 (i + 1) (by omega) (by omega) ((bst (fun n => decide (popc (rmb pr sl mu te ro n) < popc n)) 7 i).1) (by rw [bst_s, hbb]; simp only [decide_eq_true_eq]; rw [hke] at *; by_cases h9 : (bst (fun n => decide (popc (rmb pr sl mu te ro n) < popc n)) 7 i).1 = -9; (rw [if_pos h9]; split <;> first | rfl | omega); (rw [if_neg h9]; split <;> first | rfl | omega)) ((i + 1 : Nat) : Int) (by first | rfl | omega) ls (lv_sub hl [3, 1, 0] rfl)
                · exact absurd c6 (by decide)
              · have c5 : ¬ ((popc i : Nat) ≤ (popc (rmb pr sl mu te k i) : Nat)) := by omega
                refine lv_iload_n hx hb dX9_crowd_116 rfl (lv_at hl 1 rfl) ?_
                refine lv_bipush (v := zI (-9)) hx hb dX9_crowd_117 (by decide) ?_
                refine z_icmp_eq (tgt := 133) hx hb ⟨by omega, by omega⟩ ⟨by omega, by omega⟩ dX9_crowd_119 (by decide) (fun c7 => ?_) (fun c7 => ?_)
                · refine lv_iconst (v := zI 1) hx hb dX9_crowd_133 rfl ?_
                  refine lv_goto (tgt := 138) hx hb dX9_crowd_134 (by decide) ?_
                  refine lv_istore (lv' := [(4, .int (zI 1)), (0, .ref (ma 0)), (1, .int (zI ((bst (fun n => decide (popc (rmb pr sl mu te ro n) < popc n)) 7 i).1))), (2, .int (zI ((i : Nat) : Int))), (3, .int (zI ((popc (rmb pr sl mu te k i) : Nat) : Int)))]) hx hb dX9_crowd_138 hl (by decide) rfl (fun ls hl => ?_)
                  refine lv_iload hx hb dX9_crowd_140 (lv_at hl 0 rfl) ?_
                  refine z_if_eq (tgt := 149) hx hb ⟨by omega, by omega⟩ dX9_crowd_142 (by decide) (fun c8 => ?_) (fun c8 => ?_)
                  · exact absurd c8 (by decide)
                  · refine lv_iload_n hx hb dX9_crowd_145 rfl (lv_at hl 3 rfl) ?_
                    refine lv_goto (tgt := 150) hx hb dX9_crowd_146 (by decide) ?_
                    refine lv_istore_n (lv' := [(1, .int (zI ((i : Nat) : Int))), (4, .int (zI 1)), (0, .ref (ma 0)), (2, .int (zI ((i : Nat) : Int))), (3, .int (zI ((popc (rmb pr sl mu te k i) : Nat) : Int)))]) hx hb dX9_crowd_150 rfl hl (by decide) rfl (fun ls hl => ?_)
                    refine z_iinc (r := ((i + 1 : Nat) : Int)) (lv' := [(2, .int (zI ((i + 1 : Nat) : Int))), (1, .int (zI ((i : Nat) : Int))), (4, .int (zI 1)), (0, .ref (ma 0)), (3, .int (zI ((popc (rmb pr sl mu te k i) : Nat) : Int)))]) hx hb (by omega) dX9_crowd_151 hl (k := 3) rfl (by decide) rfl (fun ls hl => ?_)
                    refine lv_goto (tgt := 5) hx hb dX9_crowd_154 (by decide) ?_
                    exact ih5 (i + 1) (by omega) (by omega) ((i : Nat) : Int) (by rw [bst_s, hbb]; simp only [decide_eq_true_eq]; rw [hke] at *; by_cases h9 : (bst (fun n => decide (popc (rmb pr sl mu te ro n) < popc n)) 7 i).1 = -9; (rw [if_pos h9]; split <;> first | rfl | omega); (rw [if_neg h9]; split <;> first | rfl | omega)) ((i + 1 : Nat) : Int) (by first | rfl | omega) ls (lv_sub hl [3, 1, 0] rfl)
                · refine lv_iload_n hx hb dX9_crowd_122 rfl (lv_at hl 2 rfl) ?_
                  have hPc9 := hP.sub (ws' := []) [] rfl
                  refine zr_callS (rest := []) (As := [.int (zI ((i : Nat) : Int))]) (v := ((popc i : Nat) : Int)) (wd := []) ⟨hx, hb, hml, hown, hts⟩ (c_X9_many l D cy ((i : Nat) : Int) (by omega)) (va_cwS 1 hts gX9_crowd_X9_many rfl rfl rfl (by decide +kernel) ⟨Nat.le_of_ble_eq_true rfl, Nat.le_of_ble_eq_true rfl⟩) hK (fun k q h => by cases h) rfl hl.1 rfl (Nat.le_of_ble_eq_true rfl) dX9_crowd_123 ⟨Nat.zero_le _, Nat.zero_le _⟩ ?_
                  refine lv_iload_n hx hb dX9_crowd_126 rfl (lv_at hl 1 rfl) ?_
                  have hPc10 := hP.sub (ws' := []) [] rfl
                  refine zr_callS (rest := [.int (zI ((popc i : Nat) : Int))]) (As := [.int (zI ((bst (fun n => decide (popc (rmb pr sl mu te ro n) < popc n)) 7 i).1))]) (v := ((popc ((bst (fun n => decide (popc (rmb pr sl mu te ro n) < popc n)) 7 i).1).toNat : Nat) : Int)) (wd := []) ⟨hx, hb, hml, hown, hts⟩ (c_X9_many l D cy ((bst (fun n => decide (popc (rmb pr sl mu te ro n) < popc n)) 7 i).1) (by omega)) (va_cwS 1 hts gX9_crowd_X9_many rfl rfl rfl (by decide +kernel) ⟨Nat.le_of_ble_eq_true rfl, Nat.le_of_ble_eq_true rfl⟩) hK (fun k q h => by cases h) rfl hl.1 rfl (Nat.le_of_ble_eq_true rfl) dX9_crowd_127 ⟨Nat.zero_le _, Nat.zero_le _⟩ ?_
                  refine z_icmp_ge (tgt := 137) hx hb ⟨by omega, by omega⟩ ⟨by omega, by omega⟩ dX9_crowd_130 (by decide) (fun c11 => ?_) (fun c11 => ?_)
                  · have c11 : (popc ((bst (fun n => decide (popc (rmb pr sl mu te ro n) < popc n)) 7 i).1).toNat : Nat) ≤ (popc i : Nat) := by omega
                    refine lv_iconst (v := zI 0) hx hb dX9_crowd_137 rfl ?_
                    refine lv_istore (lv' := [(4, .int (zI 0)), (0, .ref (ma 0)), (1, .int (zI ((bst (fun n => decide (popc (rmb pr sl mu te ro n) < popc n)) 7 i).1))), (2, .int (zI ((i : Nat) : Int))), (3, .int (zI ((popc (rmb pr sl mu te k i) : Nat) : Int)))]) hx hb dX9_crowd_138 hl (by decide) rfl (fun ls hl => ?_)
                    refine lv_iload hx hb dX9_crowd_140 (lv_at hl 0 rfl) ?_
                    refine z_if_eq (tgt := 149) hx hb ⟨by omega, by omega⟩ dX9_crowd_142 (by decide) (fun c12 => ?_) (fun c12 => ?_)
                    · refine lv_iload_n hx hb dX9_crowd_149 rfl (lv_at hl 2 rfl) ?_
                      refine lv_istore_n (lv' := [(1, .int (zI ((bst (fun n => decide (popc (rmb pr sl mu te ro n) < popc n)) 7 i).1))), (4, .int (zI 0)), (0, .ref (ma 0)), (2, .int (zI ((i : Nat) : Int))), (3, .int (zI ((popc (rmb pr sl mu te k i) : Nat) : Int)))]) hx hb dX9_crowd_150 rfl hl (by decide) rfl (fun ls hl => ?_)
                      refine z_iinc (r := ((i + 1 : Nat) : Int)) (lv' := [(2, .int (zI ((i + 1 : Nat) : Int))), (1, .int (zI ((bst (fun n => decide (popc (rmb pr sl mu te ro n) < popc n)) 7 i).1))), (4, .int (zI 0)), (0, .ref (ma 0)), (3, .int (zI ((popc (rmb pr sl mu te k i) : Nat) : Int)))]) hx hb (by omega) dX9_crowd_151 hl (k := 3) rfl (by decide) rfl (fun ls hl => ?_)
                      refine lv_goto (tgt := 5) hx hb dX9_crowd_154 (by decide) ?_
                      exact ih5 (i + 1) (by omega) (by omega) ((bst (fun n => decide (popc (rmb pr sl mu te ro n) < popc n)) 7 i).1) (by rw [bst_s, hbb]; simp only [decide_eq_true_eq]; rw [hke] at *; by_cases h9 : (bst (fun n => decide (popc (rmb pr sl mu te ro n) < popc n)) 7 i).1 = -9; (rw [if_pos h9]; split <;> first | rfl | omega); (rw [if_neg h9]; split <;> first | rfl | omega)) ((i + 1 : Nat) : Int) (by first | rfl | omega) ls (lv_sub hl [3, 1, 0] rfl)
                    · exact absurd c12 (by decide)
                  · have c11 : ¬ ((popc ((bst (fun n => decide (popc (rmb pr sl mu te ro n) < popc n)) 7 i).1).toNat : Nat) ≤ (popc i : Nat)) := by omega
                    refine lv_iconst (v := zI 1) hx hb dX9_crowd_133 rfl ?_
                    refine lv_goto (tgt := 138) hx hb dX9_crowd_134 (by decide) ?_
                    refine lv_istore (lv' := [(4, .int (zI 1)), (0, .ref (ma 0)), (1, .int (zI ((bst (fun n => decide (popc (rmb pr sl mu te ro n) < popc n)) 7 i).1))), (2, .int (zI ((i : Nat) : Int))), (3, .int (zI ((popc (rmb pr sl mu te k i) : Nat) : Int)))]) hx hb dX9_crowd_138 hl (by decide) rfl (fun ls hl => ?_)
                    refine lv_iload hx hb dX9_crowd_140 (lv_at hl 0 rfl) ?_
                    refine z_if_eq (tgt := 149) hx hb ⟨by omega, by omega⟩ dX9_crowd_142 (by decide) (fun c13 => ?_) (fun c13 => ?_)
                    · exact absurd c13 (by decide)
                    · refine lv_iload_n hx hb dX9_crowd_145 rfl (lv_at hl 3 rfl) ?_
                      refine lv_goto (tgt := 150) hx hb dX9_crowd_146 (by decide) ?_
                      refine lv_istore_n (lv' := [(1, .int (zI ((i : Nat) : Int))), (4, .int (zI 1)), (0, .ref (ma 0)), (2, .int (zI ((i : Nat) : Int))), (3, .int (zI ((popc (rmb pr sl mu te k i) : Nat) : Int)))]) hx hb dX9_crowd_150 rfl hl (by decide) rfl (fun ls hl => ?_)
                      refine z_iinc (r := ((i + 1 : Nat) : Int)) (lv' := [(2, .int (zI ((i + 1 : Nat) : Int))), (1, .int (zI ((i : Nat) : Int))), (4, .int (zI 1)), (0, .ref (ma 0)), (3, .int (zI ((popc (rmb pr sl mu te k i) : Nat) : Int)))]) hx hb (by omega) dX9_crowd_151 hl (k := 3) rfl (by decide) rfl (fun ls hl => ?_)
                      refine lv_goto (tgt := 5) hx hb dX9_crowd_154 (by decide) ?_
                      exact ih5 (i + 1) (by omega) (by omega) ((i : Nat) : Int) (by rw [bst_s, hbb]; simp only [decide_eq_true_eq]; rw [hke] at *; by_cases h9 : (bst (fun n => decide (popc (rmb pr sl mu te ro n) < popc n)) 7 i).1 = -9; (rw [if_pos h9]; split <;> first | rfl | omega); (rw [if_neg h9]; split <;> first | rfl | omega)) ((i + 1 : Nat) : Int) (by first | rfl | omega) ls (lv_sub hl [3, 1, 0] rfl)
            · have c3 : ¬ ((ro : Nat) ≤ (k : Nat)) := by omega
              refine lv_iconst (v := zI 0) hx hb dX9_crowd_33 rfl ?_
              refine lv_istore (lv' := [(5, .int (zI 0)), (0, .ref (ma 0)), (1, .int (zI ((bst (fun n => decide (popc (rmb pr sl mu te ro n) < popc n)) 7 i).1))), (2, .int (zI ((i : Nat) : Int))), (3, .int (zI ((popc (rmb pr sl mu te k i) : Nat) : Int))), (4, .int (zI ((k : Nat) : Int)))]) hx hb dX9_crowd_34 hl (by decide) rfl (fun ls hl => ?_)
              refine lv_iconst (v := zI 0) hx hb dX9_crowd_36 rfl ?_
              refine lv_istore (lv' := [(6, .int (zI 0)), (5, .int (zI 0)), (0, .ref (ma 0)), (1, .int (zI ((bst (fun n => decide (popc (rmb pr sl mu te ro n) < popc n)) 7 i).1))), (2, .int (zI ((i : Nat) : Int))), (3, .int (zI ((popc (rmb pr sl mu te k i) : Nat) : Int))), (4, .int (zI ((k : Nat) : Int)))]) hx hb dX9_crowd_37 hl (by decide) rfl (fun ls hl => ?_)
              have loop39 : ∀ (n9 : Nat) (j : Nat), te - j < n9 → (j ≤ te) → (k < ro) → ∀ (x39_5 : Int), x39_5 = (if ¬ (bits (fun t => decide (pr k ≤ 24 - sl t - mu t)) j &&& i) = 0 then 1 else 0) → ∀ (x39_6 : Int), x39_6 = ((j : Nat) : Int) → ∀ ls : Array Slot, lv_has ls 7 [(0, .ref (ma 0)), (1, .int (zI ((bst (fun n => decide (popc (rmb pr sl mu te ro n) < popc n)) 7 i).1))), (2, .int (zI ((i : Nat) : Int))), (3, .int (zI ((popc (rmb pr sl mu te k i) : Nat) : Int))), (4, .int (zI ((k : Nat) : Int))), (5, .int (zI x39_5)), (6, .int (zI x39_6))] → W p l e rm_X9_crowd s m args below meth c s.heap [] 0 0 Q (F0 m 39 ls []) := by
                intro n9
                induction n9 with
                | zero => intro j h9; exact absurd h9 (Nat.not_lt_zero _)
                | succ n9 ih39 =>
                  intro j hmu39 hj hk9 x39_5 ex39_5 x39_6 ex39_6 ls hl
                  subst ex39_5
                  subst ex39_6
                  have hl : lv_has ls 7 [(0, .ref (ma 0)), (1, .int (zI ((bst (fun n => decide (popc (rmb pr sl mu te ro n) < popc n)) 7 i).1))), (2, .int (zI ((i : Nat) : Int))), (3, .int (zI ((popc (rmb pr sl mu te k i) : Nat) : Int))), (4, .int (zI ((k : Nat) : Int))), (5, .int (zI (if ¬ (bits (fun t => decide (pr k ≤ 24 - sl t - mu t)) j &&& i) = 0 then 1 else 0))), (6, .int (zI ((j : Nat) : Int)))] := hl
                  have hx1 : (i >>> j) &&& 1 ≤ 1 := Nat.and_le_right
                  have hb1 := hHB.1 k
                  have hb2 := hHB.2.1 j
                  have hb3 := hHB.2.2.1 j
                  have hcr : j < 6 → _ := fun h6 => cr_s (Q := fun t => pr k ≤ 24 - sl t - mu t) (j := j) (s := i) h6 (by omega)
                  refine lv_iload hx hb dX9_crowd_39 (lv_at hl 6 rfl) ?_
                  refine lv_aload_n hx hb dX9_crowd_41 rfl (lv_at hl 0 rfl) ?_
                  refine va_get (D := D) (ci := 9) (v := .ref (ma 3)) (C := RX9) (T := TX9) (N := 22) hx hb hts hinX9 hown hK hP 0 rfl rfl 7 (by decide) (hts (.fieldLink RX9 16 "SilentRentModel" "house" "[I") (List.mem_of_getElem? (i := 1) rfl)) (fun _ h9 => h9) rfl dX9_crowd_42 ?_
                  refine lv_iconst (v := zI 1) hx hb dX9_crowd_45 rfl ?_
                  refine z_iald2 hx hb hK hP 3 0 (f := hs) (v := ((te : Nat) : Int)) rfl rfl 1 (by omega) (by omega) (by decide) (hHS.2.1) dX9_crowd_46 ?_
                  refine z_icmp_ge (tgt := 89) hx hb ⟨by omega, by omega⟩ ⟨by omega, by omega⟩ dX9_crowd_47 (by decide) (fun c14 => ?_) (fun c14 => ?_)
                  · have c14 : (te : Nat) ≤ (j : Nat) := by omega
                    have hje : j = te := by omega
                    have hwm : whm pr sl mu te k = bits (fun t => decide (pr k ≤ 24 - sl t - mu t)) j := by rw [hje]; rfl
                    have hrs := @rmb_s pr sl mu te k i (by omega)
                    rw [hwm] at hrs
                    refine lv_iload_n hx hb dX9_crowd_89 rfl (lv_at hl 3 rfl) ?_
                    refine lv_iload hx hb dX9_crowd_90 (lv_at hl 5 rfl) ?_
                    refine z_if_eq (tgt := 99) hx hb bo_r dX9_crowd_92 (by decide) (fun c15 => ?_) (fun c15 => ?_)
                    · have c15 := bo_f c15
                      refine lv_iconst (v := zI 0) hx hb dX9_crowd_99 rfl ?_
                      refine z_iadd (r := (((popc (rmb pr sl mu te k i)) + 0 : Nat) : Int)) hx hb (by omega) dX9_crowd_100 ?_
                      refine lv_istore_n (lv' := [(3, .int (zI (((popc (rmb pr sl mu te k i)) + 0 : Nat) : Int))), (0, .ref (ma 0)), (1, .int (zI ((bst (fun n => decide (popc (rmb pr sl mu te ro n) < popc n)) 7 i).1))), (2, .int (zI ((i : Nat) : Int))), (4, .int (zI ((k : Nat) : Int))), (5, .int (zI (if ¬ (bits (fun t => decide (pr k ≤ 24 - sl t - mu t)) j &&& i) = 0 then 1 else 0))), (6, .int (zI ((j : Nat) : Int)))]) hx hb dX9_crowd_101 rfl hl (by decide) rfl (fun ls hl => ?_)
                      refine z_iinc (r := ((k + 1 : Nat) : Int)) (lv' := [(4, .int (zI ((k + 1 : Nat) : Int))), (3, .int (zI (((popc (rmb pr sl mu te k i)) + 0 : Nat) : Int))), (0, .ref (ma 0)), (1, .int (zI ((bst (fun n => decide (popc (rmb pr sl mu te ro n) < popc n)) 7 i).1))), (2, .int (zI ((i : Nat) : Int))), (5, .int (zI (if ¬ (bits (fun t => decide (pr k ≤ 24 - sl t - mu t)) j &&& i) = 0 then 1 else 0))), (6, .int (zI ((j : Nat) : Int)))]) hx hb (by omega) dX9_crowd_102 hl (k := 4) rfl (by decide) rfl (fun ls hl => ?_)
                      refine lv_goto (tgt := 22) hx hb dX9_crowd_105 (by decide) ?_
                      exact ih22 (k + 1) (by omega) (by omega) (by omega) (((popc (rmb pr sl mu te k i)) + 0 : Nat) : Int) (by rw [hrs]; split <;> first | rfl | omega) ((k + 1 : Nat) : Int) (by first | rfl | omega) ls (lv_sub hl [2, 3, 4, 1, 0] rfl)
                    · have c15 := bo_t c15
                      refine lv_iconst (v := zI 1) hx hb dX9_crowd_95 rfl ?_
                      refine lv_goto (tgt := 100) hx hb dX9_crowd_96 (by decide) ?_
                      refine z_iadd (r := (((popc (rmb pr sl mu te k i)) + 1 : Nat) : Int)) hx hb (by omega) dX9_crowd_100 ?_
                      refine lv_istore_n (lv' := [(3, .int (zI (((popc (rmb pr sl mu te k i)) + 1 : Nat) : Int))), (0, .ref (ma 0)), (1, .int (zI ((bst (fun n => decide (popc (rmb pr sl mu te ro n) < popc n)) 7 i).1))), (2, .int (zI ((i : Nat) : Int))), (4, .int (zI ((k : Nat) : Int))), (5, .int (zI (if ¬ (bits (fun t => decide (pr k ≤ 24 - sl t - mu t)) j &&& i) = 0 then 1 else 0))), (6, .int (zI ((j : Nat) : Int)))]) hx hb dX9_crowd_101 rfl hl (by decide) rfl (fun ls hl => ?_)
                      refine z_iinc (r := ((k + 1 : Nat) : Int)) (lv' := [(4, .int (zI ((k + 1 : Nat) : Int))), (3, .int (zI (((popc (rmb pr sl mu te k i)) + 1 : Nat) : Int))), (0, .ref (ma 0)), (1, .int (zI ((bst (fun n => decide (popc (rmb pr sl mu te ro n) < popc n)) 7 i).1))), (2, .int (zI ((i : Nat) : Int))), (5, .int (zI (if ¬ (bits (fun t => decide (pr k ≤ 24 - sl t - mu t)) j &&& i) = 0 then 1 else 0))), (6, .int (zI ((j : Nat) : Int)))]) hx hb (by omega) dX9_crowd_102 hl (k := 4) rfl (by decide) rfl (fun ls hl => ?_)
                      refine lv_goto (tgt := 22) hx hb dX9_crowd_105 (by decide) ?_
                      exact ih22 (k + 1) (by omega) (by omega) (by omega) (((popc (rmb pr sl mu te k i)) + 1 : Nat) : Int) (by rw [hrs]; split <;> first | rfl | omega) ((k + 1 : Nat) : Int) (by first | rfl | omega) ls (lv_sub hl [2, 3, 4, 1, 0] rfl)
                  · have c14 : ¬ ((te : Nat) ≤ (j : Nat)) := by omega
                    refine lv_iload hx hb dX9_crowd_50 (lv_at hl 5 rfl) ?_
                    refine z_if_ne (tgt := 76) hx hb bo_r dX9_crowd_52 (by decide) (fun c16 => ?_) (fun c16 => ?_)
                    · have c16 := bo_t c16
                      refine lv_iconst (v := zI 1) hx hb dX9_crowd_76 rfl ?_
                      refine lv_goto (tgt := 81) hx hb dX9_crowd_77 (by decide) ?_
                      refine lv_istore (lv' := [(5, .int (zI 1)), (0, .ref (ma 0)), (1, .int (zI ((bst (fun n => decide (popc (rmb pr sl mu te ro n) < popc n)) 7 i).1))), (2, .int (zI ((i : Nat) : Int))), (3, .int (zI ((popc (rmb pr sl mu te k i) : Nat) : Int))), (4, .int (zI ((k : Nat) : Int))), (6, .int (zI ((j : Nat) : Int)))]) hx hb dX9_crowd_81 hl (by decide) rfl (fun ls hl => ?_)
                      refine z_iinc (r := ((j + 1 : Nat) : Int)) (lv' := [(6, .int (zI ((j + 1 : Nat) : Int))), (5, .int (zI 1)), (0, .ref (ma 0)), (1, .int (zI ((bst (fun n => decide (popc (rmb pr sl mu te ro n) < popc n)) 7 i).1))), (2, .int (zI ((i : Nat) : Int))), (3, .int (zI ((popc (rmb pr sl mu te k i) : Nat) : Int))), (4, .int (zI ((k : Nat) : Int)))]) hx hb (by omega) dX9_crowd_83 hl (k := 6) rfl (by decide) rfl (fun ls hl => ?_)
                      refine lv_goto (tgt := 39) hx hb dX9_crowd_86 (by decide) ?_
                      exact ih39 (j + 1) (by omega) (by omega) (by omega) 1 (by have hc9 := hcr (by omega); split <;> first | rfl | (exfalso; omega)) ((j + 1 : Nat) : Int) (by first | rfl | omega) ls (lv_sub hl [2, 3, 4, 5, 6, 1, 0] rfl)
                    · have c16 := bo_f c16
                      refine lv_iload_n hx hb dX9_crowd_55 rfl (lv_at hl 2 rfl) ?_
                      refine lv_iload hx hb dX9_crowd_56 (lv_at hl 6 rfl) ?_
                      have hs17 := shr_le i j
                      refine z_ishr (r := ((i >>> j : Nat) : Int)) hx hb (zI_shr (a := i) (k := j) (by omega) (by omega)) dX9_crowd_58 ?_
                      refine lv_iconst (v := zI 1) hx hb dX9_crowd_59 rfl ?_
                      have hq18 : (i >>> j) &&& 1 ≤ (i >>> j) := Nat.and_le_left
                      refine z_iand (r := (((i >>> j) &&& 1 : Nat) : Int)) hx hb (zI_and (a := i >>> j) (b := 1) (by omega) (by omega)) dX9_crowd_60 ?_
                      refine lv_iconst (v := zI 1) hx hb dX9_crowd_61 rfl ?_
                      refine z_icmp_ne (tgt := 80) hx hb ⟨by omega, by omega⟩ ⟨by omega, by omega⟩ dX9_crowd_62 (by decide) (fun c19 => ?_) (fun c19 => ?_)
                      · have c19 : ¬ (((i >>> j) &&& 1 : Nat) = (1 : Nat)) := by omega
                        refine lv_iconst (v := zI 0) hx hb dX9_crowd_80 rfl ?_
                        refine lv_istore (lv' := [(5, .int (zI 0)), (0, .ref (ma 0)), (1, .int (zI ((bst (fun n => decide (popc (rmb pr sl mu te ro n) < popc n)) 7 i).1))), (2, .int (zI ((i : Nat) : Int))), (3, .int (zI ((popc (rmb pr sl mu te k i) : Nat) : Int))), (4, .int (zI ((k : Nat) : Int))), (6, .int (zI ((j : Nat) : Int)))]) hx hb dX9_crowd_81 hl (by decide) rfl (fun ls hl => ?_)
                        refine z_iinc (r := ((j + 1 : Nat) : Int)) (lv' := [(6, .int (zI ((j + 1 : Nat) : Int))), (5, .int (zI 0)), (0, .ref (ma 0)), (1, .int (zI ((bst (fun n => decide (popc (rmb pr sl mu te ro n) < popc n)) 7 i).1))), (2, .int (zI ((i : Nat) : Int))), (3, .int (zI ((popc (rmb pr sl mu te k i) : Nat) : Int))), (4, .int (zI ((k : Nat) : Int)))]) hx hb (by omega) dX9_crowd_83 hl (k := 6) rfl (by decide) rfl (fun ls hl => ?_)
                        refine lv_goto (tgt := 39) hx hb dX9_crowd_86 (by decide) ?_
                        exact ih39 (j + 1) (by omega) (by omega) (by omega) 0 (by have hc9 := hcr (by omega); split <;> first | rfl | (exfalso; omega)) ((j + 1 : Nat) : Int) (by first | rfl | omega) ls (lv_sub hl [2, 3, 4, 5, 6, 1, 0] rfl)
                      · have c19 : ((i >>> j) &&& 1 : Nat) = (1 : Nat) := by omega
                        refine lv_aload_n hx hb dX9_crowd_65 rfl (lv_at hl 0 rfl) ?_
                        refine lv_iload hx hb dX9_crowd_66 (lv_at hl 6 rfl) ?_
                        refine lv_iload hx hb dX9_crowd_68 (lv_at hl 4 rfl) ?_
                        refine zr_callV (rest := []) (As := [.int (zI ((j : Nat) : Int)), .int (zI ((k : Nat) : Int))]) (v := (24 - sl j - mu j - pr k)) ⟨hx, hb, hml, hown, hts⟩ (c_X9_more l D cy ma xt xl at0 bg tk0 td rd hs day hm tk py db un ud rs be bp gp ln wh lk wa so tr kp ((j : Nat) : Int) ((k : Nat) : Int) ro te ch pr sl mu wi ak he li (by omega) (by omega) (by omega) (by omega) (by omega) hHB hHS) (cwV 2 hts gX9_crowd_X9_more rfl rfl rfl (by decide +kernel) ⟨Nat.le_of_ble_eq_true rfl, Nat.le_of_ble_eq_true rfl⟩) hK hP 0 9 rfl rfl rfl hl.1 rfl (Nat.le_of_ble_eq_true rfl) dX9_crowd_70 ⟨Nat.zero_le _, Nat.zero_le _⟩ ?_
                        refine z_if_lt (tgt := 80) hx hb ⟨by omega, by omega⟩ dX9_crowd_73 (by decide) (fun c20 => ?_) (fun c20 => ?_)
                        · refine lv_iconst (v := zI 0) hx hb dX9_crowd_80 rfl ?_
                          refine lv_istore (lv' := [(5, .int (zI 0)), (0, .ref (ma 0)), (1, .int (zI ((bst (fun n => decide (popc (rmb pr sl mu te ro n) < popc n)) 7 i).1))), (2, .int (zI ((i : Nat) : Int))), (3, .int (zI ((popc (rmb pr sl mu te k i) : Nat) : Int))), (4, .int (zI ((k : Nat) : Int))), (6, .int (zI ((j : Nat) : Int)))]) hx hb dX9_crowd_81 hl (by decide) rfl (fun ls hl => ?_)
                          refine z_iinc (r := ((j + 1 : Nat) : Int)) (lv' := [(6, .int (zI ((j + 1 : Nat) : Int))), (5, .int (zI 0)), (0, .ref (ma 0)), (1, .int (zI ((bst (fun n => decide (popc (rmb pr sl mu te ro n) < popc n)) 7 i).1))), (2, .int (zI ((i : Nat) : Int))), (3, .int (zI ((popc (rmb pr sl mu te k i) : Nat) : Int))), (4, .int (zI ((k : Nat) : Int)))]) hx hb (by omega) dX9_crowd_83 hl (k := 6) rfl (by decide) rfl (fun ls hl => ?_)
                          refine lv_goto (tgt := 39) hx hb dX9_crowd_86 (by decide) ?_
                          exact ih39 (j + 1) (by omega) (by omega) (by omega) 0 (by have hc9 := hcr (by omega); split <;> first | rfl | (exfalso; omega)) ((j + 1 : Nat) : Int) (by first | rfl | omega) ls (lv_sub hl [2, 3, 4, 5, 6, 1, 0] rfl)
                        · refine lv_iconst (v := zI 1) hx hb dX9_crowd_76 rfl ?_
                          refine lv_goto (tgt := 81) hx hb dX9_crowd_77 (by decide) ?_
                          refine lv_istore (lv' := [(5, .int (zI 1)), (0, .ref (ma 0)), (1, .int (zI ((bst (fun n => decide (popc (rmb pr sl mu te ro n) < popc n)) 7 i).1))), (2, .int (zI ((i : Nat) : Int))), (3, .int (zI ((popc (rmb pr sl mu te k i) : Nat) : Int))), (4, .int (zI ((k : Nat) : Int))), (6, .int (zI ((j : Nat) : Int)))]) hx hb dX9_crowd_81 hl (by decide) rfl (fun ls hl => ?_)
                          refine z_iinc (r := ((j + 1 : Nat) : Int)) (lv' := [(6, .int (zI ((j + 1 : Nat) : Int))), (5, .int (zI 1)), (0, .ref (ma 0)), (1, .int (zI ((bst (fun n => decide (popc (rmb pr sl mu te ro n) < popc n)) 7 i).1))), (2, .int (zI ((i : Nat) : Int))), (3, .int (zI ((popc (rmb pr sl mu te k i) : Nat) : Int))), (4, .int (zI ((k : Nat) : Int)))]) hx hb (by omega) dX9_crowd_83 hl (k := 6) rfl (by decide) rfl (fun ls hl => ?_)
                          refine lv_goto (tgt := 39) hx hb dX9_crowd_86 (by decide) ?_
                          exact ih39 (j + 1) (by omega) (by omega) (by omega) 1 (by have hc9 := hcr (by omega); split <;> first | rfl | (exfalso; omega)) ((j + 1 : Nat) : Int) (by first | rfl | omega) ls (lv_sub hl [2, 3, 4, 5, 6, 1, 0] rfl)
              exact loop39 ((te - 0) + 1) 0 (by omega) (by omega) (by omega) 0 (by simp [bits]) 0 (by first | rfl | omega | simp) ls (lv_sub hl [2, 3, 4, 5, 6, 1, 0] rfl)
        exact loop22 ((ro - 0) + 1) 0 (by omega) (by omega) (by omega) 0 (by simp [rmb, bits, popc_0]) 0 (by first | rfl | omega | simp) ls (lv_sub hl [2, 3, 4, 1, 0] rfl)
  exact loop5 ((2 ^ te - 1) + 1) 1 (by omega) (by omega) (-9) (by rw [bst_s]; simp [popc, bst]) 1 (by first | rfl | omega | simp) ls (lv_sub hl [2, 1, 0] rfl)
abbrev rm_X9_odds : Room := { frames := 2, cells := 0, slots := 0, locals := 43 }
set_option maxHeartbeats 4000000 in
set_option maxRecDepth 100000 in
theorem c_X9_odds (l : Launch) (D : va_G) (cy : Nat → ClassId) (ma : Nat → Nat) (xt : Nat → Int) (xl : Nat) (at0 : Nat) (bg : Nat) (tk0 : Int) (td : Int) (rd : Nat → Int) (hs : Nat → Int) (day : Int) (hm : Nat → Int) (tk : Nat → Int) (py : Nat → Int) (db : Nat → Int) (un : Nat → Int) (ud : Nat) (rs : Nat → Int) (be : Int) (bp : Int) (gp : Nat → Int) (ln : Nat) (wh : Nat → Nat) (lk : Nat → Int) (wa : Int) (so : Nat → Nat) (tr : Int) (kp : Nat → Int) (x : Int) (what : Int) (ro : Nat) (te : Nat) (ch : Nat) (pr : Nat → Int) (sl : Nat → Int) (mu : Nat → Int) (wi : Nat → Int) (ak : Nat → Int) (he : Nat → Nat) (li : Nat → Nat) (hx0 : inR x) (hw0 : inR what) (hro : ro ≤ 6) (hte : te ≤ 6) (hch : ch ≤ 5) (hHB : HB pr sl mu wi ak he li) (hHS : HS hs ro te ch pr sl mu wi ak he li) (hNB : NB hm tk py db) (hHR : ∀ t, hm t = -9 ∨ (0 ≤ hm t ∧ hm t < (ro : Int))) : Met l yX9_odds wsX9_odds rm_X9_odds (pR D cy [((ma 0), .inr (9, [.ref (ma 1), .int (zI ((xl : Nat) : Int)), .int (zI ((at0 : Nat) : Int)), .int (zI ((bg : Nat) : Int)), .int (zI tk0), .int (zI td), .ref (ma 2), .ref (ma 3), .ref (ma 4), .ref (ma 5), .int (zI ((ud : Nat) : Int)), .ref (ma 6), .int (zI be), .int (zI bp), .ref (ma 7), .int (zI ((ln : Nat) : Int)), .ref (ma 8), .ref (ma 9), .int (zI wa), .ref (ma 10), .long (zL tr), .ref (ma 11)])), ((ma 1), .inl (cy 0, 200, .inl (zA xt))), ((ma 2), .inl (cy 0, 44, .inl (zA rd))), ((ma 3), .inl (cy 0, 44, .inl (zA hs))), ((ma 4), .inl (cy 0, 25, .inl (zA (enc day hm tk py db)))), ((ma 5), .inl (cy 0, 250, .inl (zA un))), ((ma 6), .inl (cy 0, 6, .inl (zA rs))), ((ma 7), .inl (cy 0, 64, .inl (zA gp))), ((ma 8), .inl (cy 0, 6, .inl (zA (fun j => ((wh j : Nat) : Int))))), ((ma 9), .inl (cy 0, 6, .inl (zA lk))), ((ma 10), .inl (cy 0, 6, .inl (zA (fun j => ((so j : Nat) : Int))))), ((ma 11), .inl (cy 0, 554, .inl (zA kp)))] [.ref (ma 0), .int (zI x), .int (zI what)]) (qRl (sOdds hm pr sl mu ro te x what)) 0 0 (fun _ => False) := by
  refine met_R (cc := cX9_odds) (maxL := 13) (ret := (some .long)) RX9 (by decide) rfl rfl (Nat.le_of_ble_eq_true rfl) ?_
  intro p e s m args below meth c ls Q hx hb hr hml hts hown hlocks hQ hP hK hl
  have hl : lv_has ls 13 [(0, .ref (ma 0)), (1, .int (zI x)), (2, .int (zI what))] := hl
  have hinX9 : ∀ w ∈ wsX90, w ∈ wsX9_odds := (fun w h => List.mem_cons_of_mem _ (List.mem_append_right _ h))
  refine lv_iload_n hx hb dX9_odds_0 rfl (lv_at hl 1 rfl) ?_
  refine z_i2l hx hb ⟨by omega, by omega⟩ dX9_odds_1 ?_
  refine lv_lconst (v := zL 0) hx hb dX9_odds_2 rfl ?_
  refine lv_ldc2 (v := zL 10) hx hb hown (hts (.constantLong RX9 194 (10)) (List.mem_of_getElem? (i := 1) rfl)) dX9_odds_3 ?_
  have hPc1 := hP.sub (ws' := []) [] rfl
  refine zr_callS (rest := []) (As := [.long (zL x), .long (zL 0), .long (zL 10)]) (v := (if 0 ≤ x ∧ x ≤ 10 then 1 else 0)) (wd := []) ⟨hx, hb, hml, hown, hts⟩ (c_X9_in l D cy x 0 10 (by omega) (by omega) (by omega)) (va_cwS 3 hts gX9_odds_X9_in rfl rfl rfl (by decide +kernel) ⟨Nat.le_of_ble_eq_true rfl, Nat.le_of_ble_eq_true rfl⟩) hK (fun k q h => by cases h) rfl hl.1 rfl (Nat.le_of_ble_eq_true rfl) dX9_odds_6 ⟨Nat.zero_le _, Nat.zero_le _⟩ ?_
  refine z_if_eq (tgt := 22) hx hb bo_r dX9_odds_9 (by decide) (fun c2 => ?_) (fun c2 => ?_)
  · have c2 := bo_f c2
    refine lv_ldc2 (v := zL (-1)) hx hb hown (hts (.constantLong RX9 148 (-1)) (List.mem_of_getElem? (i := 2) rfl)) dX9_odds_22 ?_
    exact zr_lret hx hb hr hlocks hQ (by exact (if_neg (by omega)).symm) dX9_odds_25
  · have c2 := bo_t c2
    refine lv_iload_n hx hb dX9_odds_12 rfl (lv_at hl 2 rfl) ?_
    refine z_i2l hx hb ⟨by omega, by omega⟩ dX9_odds_13 ?_
    refine lv_lconst (v := zL 0) hx hb dX9_odds_14 rfl ?_
    refine lv_lconst (v := zL 1) hx hb dX9_odds_15 rfl ?_
    have hPc3 := hP.sub (ws' := []) [] rfl
    refine zr_callS (rest := []) (As := [.long (zL what), .long (zL 0), .long (zL 1)]) (v := (if 0 ≤ what ∧ what ≤ 1 then 1 else 0)) (wd := []) ⟨hx, hb, hml, hown, hts⟩ (c_X9_in l D cy what 0 1 (by omega) (by omega) (by omega)) (va_cwS 3 hts gX9_odds_X9_in rfl rfl rfl (by decide +kernel) ⟨Nat.le_of_ble_eq_true rfl, Nat.le_of_ble_eq_true rfl⟩) hK (fun k q h => by cases h) rfl hl.1 rfl (Nat.le_of_ble_eq_true rfl) dX9_odds_16 ⟨Nat.zero_le _, Nat.zero_le _⟩ ?_
    refine z_if_ne (tgt := 26) hx hb bo_r dX9_odds_19 (by decide) (fun c4 => ?_) (fun c4 => ?_)
    · have c4 := bo_t c4
      refine lv_lconst (v := zL 1) hx hb dX9_odds_26 rfl ?_
      refine lv_lstore_n (lv' := [(3, .long (zL 1)), (0, .ref (ma 0)), (1, .int (zI x)), (2, .int (zI what))]) hx hb dX9_odds_27 rfl hl (by decide) rfl (fun ls hl => ?_)
      refine lv_lconst (v := zL 1) hx hb dX9_odds_28 rfl ?_
      refine lv_lstore (lv' := [(5, .long (zL 1)), (3, .long (zL 1)), (0, .ref (ma 0)), (1, .int (zI x)), (2, .int (zI what))]) hx hb dX9_odds_29 hl (by decide) rfl (fun ls hl => ?_)
      refine lv_iconst (v := zI 0) hx hb dX9_odds_31 rfl ?_
      refine lv_istore (lv' := [(7, .int (zI 0)), (5, .long (zL 1)), (3, .long (zL 1)), (0, .ref (ma 0)), (1, .int (zI x)), (2, .int (zI what))]) hx hb dX9_odds_32 hl (by decide) rfl (fun ls hl => ?_)
      have loop34 : ∀ (n9 : Nat) (i : Nat), te - i < n9 → (i ≤ te) → (0 ≤ x ∧ x ≤ 10) → (0 ≤ what ∧ what ≤ 1) → ∀ (x34_3 : Int), x34_3 = (moU hm pr sl mu ro x i) → ∀ (x34_5 : Int), x34_5 = (moL hm i) → ∀ (x34_7 : Int), x34_7 = ((i : Nat) : Int) → ∀ ls : Array Slot, lv_has ls 13 [(0, .ref (ma 0)), (1, .int (zI x)), (2, .int (zI what)), (3, .long (zL x34_3)), (5, .long (zL x34_5)), (7, .int (zI x34_7))] → W p l e rm_X9_odds s m args below meth c s.heap [] 0 0 Q (F0 m 34 ls []) := by
        intro n9
        induction n9 with
        | zero => intro i h9; exact absurd h9 (Nat.not_lt_zero _)
        | succ n9 ih34 =>
          intro i hmu34 hi hx9 hw9 x34_3 ex34_3 x34_5 ex34_5 x34_7 ex34_7 ls hl
          subst ex34_3
          subst ex34_5
          subst ex34_7
          have hl : lv_has ls 13 [(0, .ref (ma 0)), (1, .int (zI x)), (2, .int (zI what)), (3, .long (zL (moU hm pr sl mu ro x i))), (5, .long (zL (moL hm i))), (7, .int (zI ((i : Nat) : Int)))] := hl
          have hz9 := spr_in hHB (hm := hm) ro i
          have ho1 := moU_in (hm := hm) (pr := pr) (sl := sl) (mu := mu) (ro := ro) hx9 i
          have ho2 := moL_in hm i
          have ho3 := ten6 (show i ≤ 6 by omega)
          have hr9 := hHR i
          have hsp : ¬ hm i = -9 → spr hm pr sl mu ro i = 24 - sl i - mu i - pr (hm i).toNat := by intro h8; unfold spr; rw [if_pos (by omega)]
          refine lv_iload hx hb dX9_odds_34 (lv_at hl 5 rfl) ?_
          refine lv_aload_n hx hb dX9_odds_36 rfl (lv_at hl 0 rfl) ?_
          refine va_get (D := D) (ci := 9) (v := .ref (ma 3)) (C := RX9) (T := TX9) (N := 22) hx hb hts hinX9 hown hK hP 0 rfl rfl 7 (by decide) (hts (.fieldLink RX9 16 "SilentRentModel" "house" "[I") (List.mem_of_getElem? (i := 3) rfl)) (fun _ h9 => h9) rfl dX9_odds_37 ?_
          refine lv_iconst (v := zI 1) hx hb dX9_odds_40 rfl ?_
          refine z_iald2 hx hb hK hP 3 0 (f := hs) (v := ((te : Nat) : Int)) rfl rfl 1 (by omega) (by omega) (by decide) (hHS.2.1) dX9_odds_41 ?_
          refine z_icmp_ge (tgt := 114) hx hb ⟨by omega, by omega⟩ ⟨by omega, by omega⟩ dX9_odds_42 (by decide) (fun c5 => ?_) (fun c5 => ?_)
          · have c5 : (te : Nat) ≤ (i : Nat) := by omega
            refine lv_lload_n hx hb dX9_odds_114 rfl (lv_at hl 3 rfl) ?_
            refine lv_lstore (lv' := [(7, .long (zL (moU hm pr sl mu ro x i))), (0, .ref (ma 0)), (1, .int (zI x)), (2, .int (zI what)), (3, .long (zL (moU hm pr sl mu ro x i))), (5, .long (zL (moL hm i)))]) hx hb dX9_odds_115 hl (by decide) rfl (fun ls hl => ?_)
            refine lv_lload hx hb dX9_odds_117 (lv_at hl 5 rfl) ?_
            refine lv_lstore (lv' := [(9, .long (zL (moL hm i))), (7, .long (zL (moU hm pr sl mu ro x i))), (0, .ref (ma 0)), (1, .int (zI x)), (2, .int (zI what)), (3, .long (zL (moU hm pr sl mu ro x i))), (5, .long (zL (moL hm i)))]) hx hb dX9_odds_119 hl (by decide) rfl (fun ls hl => ?_)
            have loop121 : ∀ (n9 : Nat) (y : Int) (z : Int), z.toNat < n9 → (0 ≤ y ∧ y ≤ 1000000) → (0 ≤ z ∧ z ≤ 1000000) → (i = te) → (gcI (moU hm pr sl mu ro x i) (moL hm i) = gcI y z) → ∀ (x121_7 : Int), x121_7 = y → ∀ (x121_9 : Int), x121_9 = z → ∀ ls : Array Slot, lv_has ls 13 [(0, .ref (ma 0)), (1, .int (zI x)), (2, .int (zI what)), (3, .long (zL (moU hm pr sl mu ro x i))), (5, .long (zL (moL hm i))), (7, .long (zL x121_7)), (9, .long (zL x121_9))] → W p l e rm_X9_odds s m args below meth c s.heap [] 0 0 Q (F0 m 121 ls []) := by
              intro n9
              induction n9 with
              | zero => intro y z h9; exact absurd h9 (Nat.not_lt_zero _)
              | succ n9 ih121 =>
                intro y z hmu121 hyy hzz hie hgg x121_7 ex121_7 x121_9 ex121_9 ls hl
                have ex121_7 := ex121_7.symm
                subst ex121_7
                have ex121_9 := ex121_9.symm
                subst ex121_9
                have hl : lv_has ls 13 [(0, .ref (ma 0)), (1, .int (zI x)), (2, .int (zI what)), (3, .long (zL (moU hm pr sl mu ro x i))), (5, .long (zL (moL hm i))), (7, .long (zL y)), (9, .long (zL z))] := hl
                have hem := fun h8 : 0 < z => And.intro (Int.emod_nonneg y (show z ≠ 0 by omega)) (Int.emod_lt_of_pos y h8)
                refine lv_lload hx hb dX9_odds_121 (lv_at hl 6 rfl) ?_
                refine lv_lconst (v := zL 0) hx hb dX9_odds_123 rfl ?_
                refine z_lcmp (a := z) (b := 0) hx hb ⟨by omega, by omega⟩ ⟨by omega, by omega⟩ dX9_odds_124 ?_
                refine z_if_eq (tgt := 146) hx hb (cmpI_r _ _) dX9_odds_125 (by decide) (fun c6 => ?_) (fun c6 => ?_)
                · have hcc6 := cmpI_facts z 0
                  have c6 : (z = 0) := by omega
                  have hz0 : z = 0 := by omega
                  rw [hz0, gcI_0 hyy.1] at hgg
                  have hgp := (od_gc (hm := hm) (pr := pr) (sl := sl) (mu := mu) (ro := ro) hte hx9)
                  have hdv := (mo_div (hm := hm) (pr := pr) (sl := sl) (mu := mu) (ro := ro) hte hx9)
                  rw [hie] at hgg
                  rw [hgg] at hdv
                  have hy1 : 0 < y := by rw [← hgg]; unfold gcI; have h8 : 0 < Nat.gcd (moU hm pr sl mu ro x te).toNat (moL hm te).toNat := Nat.gcd_pos_of_pos_right _ (by rw [← hie]; omega); omega
                  refine lv_iload_n hx hb dX9_odds_146 rfl (lv_at hl 2 rfl) ?_
                  refine z_if_ne (tgt := 157) hx hb ⟨by omega, by omega⟩ dX9_odds_147 (by decide) (fun c7 => ?_) (fun c7 => ?_)
                  · refine lv_lload hx hb dX9_odds_157 (lv_at hl 4 rfl) ?_
                    refine lv_lload hx hb dX9_odds_159 (lv_at hl 5 rfl) ?_
                    refine z_ldiv (r := ((moL hm i) / y)) hx hb ⟨by omega, by omega⟩ ⟨by omega, by omega⟩ rfl dX9_odds_161 ?_
                    exact zr_lret hx hb hr hlocks hQ (by unfold sOdds; rw [if_pos (by omega), if_neg (show ¬ gcs 100 (odU hm pr sl mu ro x te) (odL hm pr sl mu ro te) = 0 by omega), hie]; first | (rw [if_pos (show what = 0 by omega)]; exact hdv.1) | (rw [if_neg (show ¬ what = 0 by omega)]; exact hdv.2)) dX9_odds_162
                  · refine lv_lload_n hx hb dX9_odds_150 rfl (lv_at hl 3 rfl) ?_
                    refine lv_lload hx hb dX9_odds_151 (lv_at hl 5 rfl) ?_
                    refine z_ldiv (r := ((moU hm pr sl mu ro x i) / y)) hx hb ⟨by omega, by omega⟩ ⟨by omega, by omega⟩ rfl dX9_odds_153 ?_
                    refine lv_goto (tgt := 162) hx hb dX9_odds_154 (by decide) ?_
                    exact zr_lret hx hb hr hlocks hQ (by unfold sOdds; rw [if_pos (by omega), if_neg (show ¬ gcs 100 (odU hm pr sl mu ro x te) (odL hm pr sl mu ro te) = 0 by omega), hie]; first | (rw [if_pos (show what = 0 by omega)]; exact hdv.1) | (rw [if_neg (show ¬ what = 0 by omega)]; exact hdv.2)) dX9_odds_162
                · have hcc6 := cmpI_facts z 0
                  have c6 : ¬ (z = 0) := by omega
                  refine lv_lload hx hb dX9_odds_128 (lv_at hl 5 rfl) ?_
                  refine lv_lload hx hb dX9_odds_130 (lv_at hl 6 rfl) ?_
                  refine z_lrem (r := (y % z)) hx hb ⟨by omega, by omega⟩ ⟨by omega, by omega⟩ rfl dX9_odds_132 ?_
                  refine lv_lstore (lv' := [(11, .long (zL (y % z))), (0, .ref (ma 0)), (1, .int (zI x)), (2, .int (zI what)), (3, .long (zL (moU hm pr sl mu ro x i))), (5, .long (zL (moL hm i))), (7, .long (zL y)), (9, .long (zL z))]) hx hb dX9_odds_133 hl (by decide) rfl (fun ls hl => ?_)
                  refine lv_lload hx hb dX9_odds_135 (lv_at hl 7 rfl) ?_
                  refine lv_lstore (lv' := [(7, .long (zL z)), (11, .long (zL (y % z))), (0, .ref (ma 0)), (1, .int (zI x)), (2, .int (zI what)), (3, .long (zL (moU hm pr sl mu ro x i))), (5, .long (zL (moL hm i))), (9, .long (zL z))]) hx hb dX9_odds_137 hl (by decide) rfl (fun ls hl => ?_)
                  refine lv_lload hx hb dX9_odds_139 (lv_at hl 1 rfl) ?_
                  refine lv_lstore (lv' := [(9, .long (zL (y % z))), (7, .long (zL z)), (11, .long (zL (y % z))), (0, .ref (ma 0)), (1, .int (zI x)), (2, .int (zI what)), (3, .long (zL (moU hm pr sl mu ro x i))), (5, .long (zL (moL hm i)))]) hx hb dX9_odds_141 hl (by decide) rfl (fun ls hl => ?_)
                  refine lv_goto (tgt := 121) hx hb dX9_odds_143 (by decide) ?_
                  exact ih121 z (y % z) (by have := hem (by omega); omega) (by omega) (by have := hem (by omega); omega) (by omega) (hgg.trans (gcI_s (by omega) (by omega))) z (by first | rfl | omega) (y % z) (by first | rfl | omega) ls (lv_sub hl [3, 4, 5, 6, 7, 1, 0] rfl)
            exact loop121 (((moL hm i).toNat) + 1) (moU hm pr sl mu ro x i) (moL hm i) (by omega) (by omega) (by omega) (by omega) rfl (moU hm pr sl mu ro x i) (by first | rfl | omega | simp) (moL hm i) (by first | rfl | omega | simp) ls (lv_sub hl [2, 3, 4, 5, 6, 1, 0] rfl)
          · have c5 : ¬ ((te : Nat) ≤ (i : Nat)) := by omega
            refine lv_aload_n hx hb dX9_odds_45 rfl (lv_at hl 0 rfl) ?_
            refine lv_iload hx hb dX9_odds_46 (lv_at hl 5 rfl) ?_
            refine zr_callV (rest := []) (As := [.int (zI ((i : Nat) : Int))]) (v := (hm i)) ⟨hx, hb, hml, hown, hts⟩ (c_X9_roomOf l D cy ma xt xl at0 bg tk0 td rd hs day hm tk py db un ud rs be bp gp ln wh lk wa so tr kp ((i : Nat) : Int) ro te ch pr sl mu wi ak he li (by omega) (by omega) (by omega) (by omega) hHB hHS hNB) (cwV 1 hts gX9_odds_X9_roomOf rfl rfl rfl (by decide +kernel) ⟨Nat.le_of_ble_eq_true rfl, Nat.le_of_ble_eq_true rfl⟩) hK hP 0 9 rfl rfl rfl hl.1 rfl (Nat.le_of_ble_eq_true rfl) dX9_odds_48 ⟨Nat.zero_le _, Nat.zero_le _⟩ ?_
            refine lv_bipush (v := zI (-9)) hx hb dX9_odds_51 (by decide) ?_
            refine z_icmp_eq (tgt := 108) hx hb ⟨by omega, by omega⟩ ⟨by omega, by omega⟩ dX9_odds_53 (by decide) (fun c8 => ?_) (fun c8 => ?_)
            · refine z_iinc (r := ((i + 1 : Nat) : Int)) (lv' := [(7, .int (zI ((i + 1 : Nat) : Int))), (0, .ref (ma 0)), (1, .int (zI x)), (2, .int (zI what)), (3, .long (zL (moU hm pr sl mu ro x i))), (5, .long (zL (moL hm i)))]) hx hb (by omega) dX9_odds_108 hl (k := 5) rfl (by decide) rfl (fun ls hl => ?_)
              refine lv_goto (tgt := 34) hx hb dX9_odds_111 (by decide) ?_
              exact ih34 (i + 1) (by omega) (by omega) (by omega) (by omega) (moU hm pr sl mu ro x i) (by (simp only [moU]); first | (rw [if_pos (by assumption)]; done) | (rw [if_neg (by assumption), hsp (by assumption)]; (repeat' split) <;> first | rfl | omega)) (moL hm i) (by (simp only [moL]); first | (rw [if_pos (by assumption)]; done) | (rw [if_neg (by assumption)]; done)) ((i + 1 : Nat) : Int) (by first | rfl | omega) ls (lv_sub hl [1, 2, 3, 4, 5, 0] rfl)
            · refine lv_aload_n hx hb dX9_odds_56 rfl (lv_at hl 0 rfl) ?_
              refine lv_iload hx hb dX9_odds_57 (lv_at hl 5 rfl) ?_
              refine lv_aload_n hx hb dX9_odds_59 rfl (lv_at hl 0 rfl) ?_
              refine lv_iload hx hb dX9_odds_60 (lv_at hl 5 rfl) ?_
              refine zr_callV (rest := [.int (zI ((i : Nat) : Int)), .ref (ma 0)]) (As := [.int (zI ((i : Nat) : Int))]) (v := (hm i)) ⟨hx, hb, hml, hown, hts⟩ (c_X9_roomOf l D cy ma xt xl at0 bg tk0 td rd hs day hm tk py db un ud rs be bp gp ln wh lk wa so tr kp ((i : Nat) : Int) ro te ch pr sl mu wi ak he li (by omega) (by omega) (by omega) (by omega) hHB hHS hNB) (cwV 1 hts gX9_odds_X9_roomOf rfl rfl rfl (by decide +kernel) ⟨Nat.le_of_ble_eq_true rfl, Nat.le_of_ble_eq_true rfl⟩) hK hP 0 9 rfl rfl rfl hl.1 rfl (Nat.le_of_ble_eq_true rfl) dX9_odds_62 ⟨Nat.zero_le _, Nat.zero_le _⟩ ?_
              refine zr_callV (rest := []) (As := [.int (zI ((i : Nat) : Int)), .int (zI (hm i))]) (v := (24 - sl i - mu i - pr (hm i).toNat)) ⟨hx, hb, hml, hown, hts⟩ (c_X9_more l D cy ma xt xl at0 bg tk0 td rd hs day hm tk py db un ud rs be bp gp ln wh lk wa so tr kp ((i : Nat) : Int) (hm i) ro te ch pr sl mu wi ak he li (by omega) (by omega) (by omega) (by omega) (by omega) hHB hHS) (cwV 2 hts gX9_odds_X9_more rfl rfl rfl (by decide +kernel) ⟨Nat.le_of_ble_eq_true rfl, Nat.le_of_ble_eq_true rfl⟩) hK hP 0 9 rfl rfl rfl hl.1 rfl (Nat.le_of_ble_eq_true rfl) dX9_odds_65 ⟨Nat.zero_le _, Nat.zero_le _⟩ ?_
              refine lv_istore (lv' := [(8, .int (zI (24 - sl i - mu i - pr (hm i).toNat))), (0, .ref (ma 0)), (1, .int (zI x)), (2, .int (zI what)), (3, .long (zL (moU hm pr sl mu ro x i))), (5, .long (zL (moL hm i))), (7, .int (zI ((i : Nat) : Int)))]) hx hb dX9_odds_68 hl (by decide) rfl (fun ls hl => ?_)
              refine lv_lload_n hx hb dX9_odds_70 rfl (lv_at hl 4 rfl) ?_
              refine lv_iload hx hb dX9_odds_71 (lv_at hl 0 rfl) ?_
              refine lv_iconst (v := zI 2) hx hb dX9_odds_73 rfl ?_
              refine z_icmp_lt (tgt := 83) hx hb ⟨by omega, by omega⟩ ⟨by omega, by omega⟩ dX9_odds_74 (by decide) (fun c9 => ?_) (fun c9 => ?_)
              · refine lv_iload hx hb dX9_odds_83 (lv_at hl 0 rfl) ?_
                refine z_if_lt (tgt := 97) hx hb ⟨by omega, by omega⟩ dX9_odds_85 (by decide) (fun c10 => ?_) (fun c10 => ?_)
                · refine lv_lconst (v := zL 0) hx hb dX9_odds_97 rfl ?_
                  refine z_lmul (r := ((moU hm pr sl mu ro x i) * 0)) hx hb rfl dX9_odds_98 ?_
                  refine lv_lstore_n (lv' := [(3, .long (zL ((moU hm pr sl mu ro x i) * 0))), (8, .int (zI (24 - sl i - mu i - pr (hm i).toNat))), (0, .ref (ma 0)), (1, .int (zI x)), (2, .int (zI what)), (5, .long (zL (moL hm i))), (7, .int (zI ((i : Nat) : Int)))]) hx hb dX9_odds_99 rfl hl (by decide) rfl (fun ls hl => ?_)
                  refine lv_lload hx hb dX9_odds_100 (lv_at hl 5 rfl) ?_
                  refine lv_ldc2 (v := zL 10) hx hb hown (hts (.constantLong RX9 194 (10)) (List.mem_of_getElem? (i := 1) rfl)) dX9_odds_102 ?_
                  refine z_lmul (r := ((moL hm i) * 10)) hx hb rfl dX9_odds_105 ?_
                  refine lv_lstore (lv' := [(5, .long (zL ((moL hm i) * 10))), (3, .long (zL ((moU hm pr sl mu ro x i) * 0))), (8, .int (zI (24 - sl i - mu i - pr (hm i).toNat))), (0, .ref (ma 0)), (1, .int (zI x)), (2, .int (zI what)), (7, .int (zI ((i : Nat) : Int)))]) hx hb dX9_odds_106 hl (by decide) rfl (fun ls hl => ?_)
                  refine z_iinc (r := ((i + 1 : Nat) : Int)) (lv' := [(7, .int (zI ((i + 1 : Nat) : Int))), (5, .long (zL ((moL hm i) * 10))), (3, .long (zL ((moU hm pr sl mu ro x i) * 0))), (8, .int (zI (24 - sl i - mu i - pr (hm i).toNat))), (0, .ref (ma 0)), (1, .int (zI x)), (2, .int (zI what))]) hx hb (by omega) dX9_odds_108 hl (k := 6) rfl (by decide) rfl (fun ls hl => ?_)
                  refine lv_goto (tgt := 34) hx hb dX9_odds_111 (by decide) ?_
                  exact ih34 (i + 1) (by omega) (by omega) (by omega) (by omega) ((moU hm pr sl mu ro x i) * 0) (by (simp only [moU]); first | (rw [if_pos (by assumption)]; done) | (rw [if_neg (by assumption), hsp (by assumption)]; (repeat' split) <;> first | rfl | omega)) ((moL hm i) * 10) (by (simp only [moL]); first | (rw [if_pos (by assumption)]; done) | (rw [if_neg (by assumption)]; done)) ((i + 1 : Nat) : Int) (by first | rfl | omega) ls (lv_sub hl [4, 5, 6, 2, 1, 0] rfl)
                · refine lv_ldc2 (v := zL 10) hx hb hown (hts (.constantLong RX9 194 (10)) (List.mem_of_getElem? (i := 1) rfl)) dX9_odds_88 ?_
                  refine lv_iload_n hx hb dX9_odds_91 rfl (lv_at hl 2 rfl) ?_
                  refine z_i2l hx hb ⟨by omega, by omega⟩ dX9_odds_92 ?_
                  refine z_lsub (r := (10 - x)) hx hb rfl dX9_odds_93 ?_
                  refine lv_goto (tgt := 98) hx hb dX9_odds_94 (by decide) ?_
                  refine z_lmul (r := ((moU hm pr sl mu ro x i) * (10 - x))) hx hb rfl dX9_odds_98 ?_
                  refine lv_lstore_n (lv' := [(3, .long (zL ((moU hm pr sl mu ro x i) * (10 - x)))), (8, .int (zI (24 - sl i - mu i - pr (hm i).toNat))), (0, .ref (ma 0)), (1, .int (zI x)), (2, .int (zI what)), (5, .long (zL (moL hm i))), (7, .int (zI ((i : Nat) : Int)))]) hx hb dX9_odds_99 rfl hl (by decide) rfl (fun ls hl => ?_)
                  refine lv_lload hx hb dX9_odds_100 (lv_at hl 5 rfl) ?_
                  refine lv_ldc2 (v := zL 10) hx hb hown (hts (.constantLong RX9 194 (10)) (List.mem_of_getElem? (i := 1) rfl)) dX9_odds_102 ?_
                  refine z_lmul (r := ((moL hm i) * 10)) hx hb rfl dX9_odds_105 ?_
                  refine lv_lstore (lv' := [(5, .long (zL ((moL hm i) * 10))), (3, .long (zL ((moU hm pr sl mu ro x i) * (10 - x)))), (8, .int (zI (24 - sl i - mu i - pr (hm i).toNat))), (0, .ref (ma 0)), (1, .int (zI x)), (2, .int (zI what)), (7, .int (zI ((i : Nat) : Int)))]) hx hb dX9_odds_106 hl (by decide) rfl (fun ls hl => ?_)
                  refine z_iinc (r := ((i + 1 : Nat) : Int)) (lv' := [(7, .int (zI ((i + 1 : Nat) : Int))), (5, .long (zL ((moL hm i) * 10))), (3, .long (zL ((moU hm pr sl mu ro x i) * (10 - x)))), (8, .int (zI (24 - sl i - mu i - pr (hm i).toNat))), (0, .ref (ma 0)), (1, .int (zI x)), (2, .int (zI what))]) hx hb (by omega) dX9_odds_108 hl (k := 6) rfl (by decide) rfl (fun ls hl => ?_)
                  refine lv_goto (tgt := 34) hx hb dX9_odds_111 (by decide) ?_
                  exact ih34 (i + 1) (by omega) (by omega) (by omega) (by omega) ((moU hm pr sl mu ro x i) * (10 - x)) (by (simp only [moU]); first | (rw [if_pos (by assumption)]; done) | (rw [if_neg (by assumption), hsp (by assumption)]; (repeat' split) <;> first | rfl | omega)) ((moL hm i) * 10) (by (simp only [moL]); first | (rw [if_pos (by assumption)]; done) | (rw [if_neg (by assumption)]; done)) ((i + 1 : Nat) : Int) (by first | rfl | omega) ls (lv_sub hl [4, 5, 6, 2, 1, 0] rfl)
              · refine lv_ldc2 (v := zL 10) hx hb hown (hts (.constantLong RX9 194 (10)) (List.mem_of_getElem? (i := 1) rfl)) dX9_odds_77 ?_
                refine lv_goto (tgt := 98) hx hb dX9_odds_80 (by decide) ?_
                refine z_lmul (r := ((moU hm pr sl mu ro x i) * 10)) hx hb rfl dX9_odds_98 ?_
                refine lv_lstore_n (lv' := [(3, .long (zL ((moU hm pr sl mu ro x i) * 10))), (8, .int (zI (24 - sl i - mu i - pr (hm i).toNat))), (0, .ref (ma 0)), (1, .int (zI x)), (2, .int (zI what)), (5, .long (zL (moL hm i))), (7, .int (zI ((i : Nat) : Int)))]) hx hb dX9_odds_99 rfl hl (by decide) rfl (fun ls hl => ?_)
                refine lv_lload hx hb dX9_odds_100 (lv_at hl 5 rfl) ?_
                refine lv_ldc2 (v := zL 10) hx hb hown (hts (.constantLong RX9 194 (10)) (List.mem_of_getElem? (i := 1) rfl)) dX9_odds_102 ?_
                refine z_lmul (r := ((moL hm i) * 10)) hx hb rfl dX9_odds_105 ?_
                refine lv_lstore (lv' := [(5, .long (zL ((moL hm i) * 10))), (3, .long (zL ((moU hm pr sl mu ro x i) * 10))), (8, .int (zI (24 - sl i - mu i - pr (hm i).toNat))), (0, .ref (ma 0)), (1, .int (zI x)), (2, .int (zI what)), (7, .int (zI ((i : Nat) : Int)))]) hx hb dX9_odds_106 hl (by decide) rfl (fun ls hl => ?_)
                refine z_iinc (r := ((i + 1 : Nat) : Int)) (lv' := [(7, .int (zI ((i + 1 : Nat) : Int))), (5, .long (zL ((moL hm i) * 10))), (3, .long (zL ((moU hm pr sl mu ro x i) * 10))), (8, .int (zI (24 - sl i - mu i - pr (hm i).toNat))), (0, .ref (ma 0)), (1, .int (zI x)), (2, .int (zI what))]) hx hb (by omega) dX9_odds_108 hl (k := 6) rfl (by decide) rfl (fun ls hl => ?_)
                refine lv_goto (tgt := 34) hx hb dX9_odds_111 (by decide) ?_
                exact ih34 (i + 1) (by omega) (by omega) (by omega) (by omega) ((moU hm pr sl mu ro x i) * 10) (by (simp only [moU]); first | (rw [if_pos (by assumption)]; done) | (rw [if_neg (by assumption), hsp (by assumption)]; (repeat' split) <;> first | rfl | omega)) ((moL hm i) * 10) (by (simp only [moL]); first | (rw [if_pos (by assumption)]; done) | (rw [if_neg (by assumption)]; done)) ((i + 1 : Nat) : Int) (by first | rfl | omega) ls (lv_sub hl [4, 5, 6, 2, 1, 0] rfl)
      exact loop34 ((te - 0) + 1) 0 (by omega) (by omega) (by omega) (by omega) 1 rfl 1 rfl 0 (by first | rfl | omega | simp) ls (lv_sub hl [3, 4, 5, 2, 1, 0] rfl)
    · have c4 := bo_f c4
      refine lv_ldc2 (v := zL (-1)) hx hb hown (hts (.constantLong RX9 148 (-1)) (List.mem_of_getElem? (i := 2) rfl)) dX9_odds_22 ?_
      exact zr_lret hx hb hr hlocks hQ (by exact (if_neg (by omega)).symm) dX9_odds_25
