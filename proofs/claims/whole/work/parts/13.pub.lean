/-! SilentRent's other methods but those of days and of house() -/
def odU (hm pr sl mu : Nat → Int) (ro : Nat) (x : Int) : Nat → Int
  | 0 => 1
  | n + 1 => if hm n = -9 then odU hm pr sl mu ro x n else if 2 ≤ spr hm pr sl mu ro n then odU hm pr sl mu ro x n else odU hm pr sl mu ro x n * (if 0 ≤ spr hm pr sl mu ro n then 10 - x else 0)
def odL (hm pr sl mu : Nat → Int) (ro : Nat) : Nat → Int
  | 0 => 1
  | n + 1 => if hm n = -9 then odL hm pr sl mu ro n else if 2 ≤ spr hm pr sl mu ro n then odL hm pr sl mu ro n else odL hm pr sl mu ro n * 10
theorem odU_in {hm pr sl mu : Nat → Int} {ro : Nat} {x : Int} (hx : 0 ≤ x ∧ x ≤ 10) : ∀ n, 0 ≤ odU hm pr sl mu ro x n ∧ odU hm pr sl mu ro x n ≤ (10 : Int) ^ n
  | 0 => by show (0 : Int) ≤ 1 ∧ (1 : Int) ≤ 10 ^ 0; decide
  | n + 1 => by
    have ih := odU_in hx (hm := hm) (pr := pr) (sl := sl) (mu := mu) (ro := ro) n
    have e : (10 : Int) ^ (n + 1) = 10 ^ n * 10 := Int.pow_succ _ _
    unfold odU
    split
    · omega
    · split
      · omega
      · generalize hy : (if 0 ≤ spr hm pr sl mu ro n then 10 - x else 0) = y
        have h1 : 0 ≤ y ∧ y ≤ 10 := by
          rw [← hy]
          split <;> omega
        have h2 : odU hm pr sl mu ro x n * y ≤ odU hm pr sl mu ro x n * 10 := Int.mul_le_mul_of_nonneg_left h1.2 ih.1
        exact ⟨Int.mul_nonneg ih.1 h1.1, by omega⟩
theorem odL_in (hm pr sl mu : Nat → Int) (ro : Nat) : ∀ n, 1 ≤ odL hm pr sl mu ro n ∧ odL hm pr sl mu ro n ≤ (10 : Int) ^ n
  | 0 => by show (1 : Int) ≤ 1 ∧ (1 : Int) ≤ 10 ^ 0; decide
  | n + 1 => by
    have ih := odL_in hm pr sl mu ro n
    have e : (10 : Int) ^ (n + 1) = 10 ^ n * 10 := Int.pow_succ _ _
    unfold odL
    split
    · omega
    · split <;> omega
theorem ten6 {n : Nat} (h : n ≤ 6) : (10 : Int) ^ n ≤ 1000000 := by
  have : ∀ n : Nat, n < 7 → (10 : Int) ^ n ≤ 1000000 := by decide
  exact this n (by omega)
/-- the remains, step by step -/
def gcs : Nat → Int → Int → Int
  | 0, a, _ => a
  | n + 1, a, b => if b = 0 then a else gcs n b (a % b)
theorem gcs_s (n : Nat) (a b : Int) : gcs (n + 1) a b = if b = 0 then a else gcs n b (a % b) := rfl
theorem gcs_0 : ∀ (n : Nat) (a : Int), gcs n a 0 = a
  | 0, _ => rfl
  | n + 1, a => by rw [gcs_s, if_pos rfl]
theorem gcs_in : ∀ (n : Nat) (a b : Int), 0 ≤ a → 0 ≤ b → 0 ≤ gcs n a b ∧ gcs n a b ≤ max a b
  | 0, a, b, ha, hb => ⟨ha, by show a ≤ _; omega⟩
  | n + 1, a, b, ha, hb => by
    rw [gcs_s]
    split
    · omega
    · have h1 := Int.emod_nonneg a (show b ≠ 0 by omega)
      have h2 := Int.emod_lt_of_pos a (show 0 < b by omega)
      have ih := gcs_in n b (a % b) hb h1
      omega
def sOdds (hm pr sl mu : Nat → Int) (ro te : Nat) (x what : Int) : Int :=
  if (0 ≤ x ∧ x ≤ 10) ∧ 0 ≤ what ∧ what ≤ 1 then
    (if gcs 100 (odU hm pr sl mu ro x te) (odL hm pr sl mu ro te) = 0 then -1 else
      if what = 0 then odU hm pr sl mu ro x te / gcs 100 (odU hm pr sl mu ro x te) (odL hm pr sl mu ro te) else odL hm pr sl mu ro te / gcs 100 (odU hm pr sl mu ro x te) (odL hm pr sl mu ro te))
  else -1
/-- debts settled: the best groups over the sets -/
def mst (g : Nat → Int) (k : Nat) : Nat → Int
  | 0 => 0
  | n + 1 => if (k >>> n) &&& 1 = 0 then mst g k n else max (mst g k n) (g (k ^^^ 2 ^ n))
def lkS (db : Nat → Int) (te k : Nat) : Nat → Int
  | 0 => 0
  | n + 1 => if (k >>> n) &&& 1 = 0 then lkS db te k n else lkS db te k n + lsh db te n
def gtb (gr db : Nat → Int) (te : Nat) : Nat → Nat → Int
  | 0 => va_up gr 0 0
  | n + 1 => va_up (gtb gr db te n) (n + 1) (if lkS db te (n + 1) te = 0 then mst (gtb gr db te n) (n + 1) te + 1 else mst (gtb gr db te n) (n + 1) te)
theorem popc_xor : ∀ k, k < 64 → ∀ r, r < 6 → ¬ (k >>> r) &&& 1 = 0 → popc (k ^^^ 2 ^ r) + 1 = popc k ∧ k ^^^ 2 ^ r < k := by decide +kernel
theorem popc_pos : ∀ k, k < 64 → 0 < k → 1 ≤ popc k := by decide +kernel
theorem mst_in {g : Nat → Int} {k te : Nat} {B : Int} (hB : 0 ≤ B) (h : ∀ r, r < te → ¬ (k >>> r) &&& 1 = 0 → 0 ≤ g (k ^^^ 2 ^ r) ∧ g (k ^^^ 2 ^ r) ≤ B) : ∀ n, n ≤ te → 0 ≤ mst g k n ∧ mst g k n ≤ B
  | 0, _ => ⟨Int.le_refl _, hB⟩
  | n + 1, hn => by
    have ih := mst_in hB h n (by omega)
    unfold mst
    split
    · exact ih
    · have := h n (by omega) (by assumption)
      omega
theorem gtb_popc (gr db : Nat → Int) (te : Nat) (hte : te ≤ 6) : ∀ n, n < 64 → ∀ k, k ≤ n → 0 ≤ gtb gr db te n k ∧ gtb gr db te n k ≤ popc k
  | 0, _, k, hk => by
    rw [show k = 0 from by omega]
    show 0 ≤ va_up gr 0 0 0 ∧ va_up gr 0 0 0 ≤ _
    rw [up_s]
    omega
  | n + 1, hn, k, hk => by
    have ih := gtb_popc gr db te hte n (by omega)
    show 0 ≤ va_up _ _ _ k ∧ va_up _ _ _ k ≤ _
    by_cases h : k = n + 1
    · subst h
      rw [up_s]
      have hpp := popc_pos (n + 1) hn (by omega)
      have hm := mst_in (g := gtb gr db te n) (k := n + 1) (te := te) (B := ((popc (n + 1) : Nat) : Int) - 1) (by omega) (fun r hr hb => by
        have hx := popc_xor (n + 1) hn r (by omega) hb
        have := ih ((n + 1) ^^^ 2 ^ r) (by omega)
        omega) te (Nat.le_refl _)
      split <;> omega
    · rw [up_n h]
      exact ih k (by omega)
theorem gtb_in {gr db : Nat → Int} {te : Nat} (hgr : ∀ k, 0 ≤ gr k ∧ gr k ≤ 64) (hte : te ≤ 6) : ∀ n, n < 64 → ∀ k, 0 ≤ gtb gr db te n k ∧ gtb gr db te n k ≤ 64 := by
  intro n
  induction n with
  | zero =>
    intro _ k
    show 0 ≤ va_up gr 0 0 k ∧ va_up gr 0 0 k ≤ 64
    unfold va_up
    have := hgr k
    split <;> omega
  | succ n ih =>
    intro hn k
    by_cases h : k ≤ n + 1
    · have h1 := gtb_popc gr db te hte (n + 1) hn k h
      have h2 := popc_le6 k
      omega
    · show 0 ≤ va_up _ _ _ k ∧ va_up _ _ _ k ≤ 64
      rw [up_n (by omega)]
      exact ih (by omega) k
def owg (db : Nat → Int) (te : Nat) : Nat := bits (fun t => decide (¬ lsh db te t = 0)) te
theorem lsh_in {db : Nat → Int} (h : ∀ i, 0 ≤ db i ∧ db i ≤ 9999) (te t : Nat) : -9999 ≤ lsh db te t ∧ lsh db te t ≤ 60000 := by
  have h1 := sumI_bd db 9999 h 6
  have h2 := h t
  unfold lsh
  by_cases h0 : te = 0
  · rw [if_pos h0]; omega
  · rw [if_neg h0]
    have h3 : 0 ≤ sumI db 6 / (te : Int) := Int.ediv_nonneg h1.1 (by omega)
    have h4 : sumI db 6 / (te : Int) ≤ sumI db 6 := Int.ediv_le_self _ h1.1
    split <;> omega
theorem lkS_in {db : Nat → Int} (h : ∀ i, 0 ≤ db i ∧ db i ≤ 9999) (te k : Nat) : ∀ n : Nat, -(60000 * (n : Int)) ≤ lkS db te k n ∧ lkS db te k n ≤ 60000 * (n : Int)
  | 0 => by show -(60000 * ((0 : Nat) : Int)) ≤ 0 ∧ (0 : Int) ≤ _; omega
  | n + 1 => by
    have ih := lkS_in h te k n
    have := lsh_in h te n
    unfold lkS
    split <;> omega
def sRoom (pr sl mu hm : Nat → Int) (ro te : Nat) (r what : Int) : Int :=
  if 0 ≤ r ∧ r < (ro : Int) then (if what = 0 then pr r.toNat else if what = 1 then dwl hm r 6 0 else if what = 2 then ((whm pr sl mu te r.toNat : Nat) : Int) else -1) else -1
def sTen (sl mu wi ak : Nat → Int) (he : Nat → Nat) (hm tk py db : Nat → Int) (te : Nat) (t what : Int) : Int :=
  if 0 ≤ t ∧ t < (te : Int) then (if what = 0 then sl t.toNat else if what = 1 then mu t.toNat else if what = 2 then wi t.toNat else if what = 3 then ak t.toNat else if what = 4 then hm t.toNat else if what = 5 then tk t.toNat else if what = 6 then py t.toNat else if what = 7 then db t.toNat else if what = 8 then max 0 (24 - sl t.toNat - py t.toNat) else if what = 9 then ((he t.toNat : Nat) : Int) else -1) else -1
def sNow (pr sl mu : Nat → Int) (day : Int) (hm db : Nat → Int) (ro te : Nat) (what : Int) : Int :=
  if what = 0 then day else if what = 1 then sumI db 6 else if what = 2 then ((bits (fun t => decide (¬ hm t = -9)) te : Nat) : Int) else if what = 3 then ((bits (fun r => decide (dwl hm r 6 0 = -9)) ro : Nat) : Int) else if what = 4 then ((bits (fun t => decide (spr hm pr sl mu ro t < 0)) te : Nat) : Int) else -1
def mkA (kind : Int) : Int := if kind = 0 then 1 else if kind = 1 then 11 else if kind = 2 then 101 else if kind = 3 then 1011 else if kind = 4 then 10101 else 100001
def mkV (mu wi ak db : Nat → Int) (day : Int) (t : Nat) (kind : Int) : Int := if kind = 0 then db t else if kind = 1 then db t + mu t else if kind = 2 then db t - wi t else if kind = 3 then (db t + mu t) * 2 else if kind = 4 then db t - wi t + ak t else db t + day
theorem slvH_in {hh pr sl mu : Nat → Int} {ro te i : Nat} (h : ∀ t, -9 ≤ hh t ∧ hh t < 6) (hro : ro ≤ 6) : ∀ t, -9 ≤ slvH hh pr sl mu ro te i t ∧ slvH hh pr sl mu ro te i t < 6 := by
  intro t
  unfold slvH
  have h1 := chs_in pr sl mu ro te t
  have h2 := h t
  split <;> omega
abbrev rm_X8_commonDivisor : Room := { frames := 0, cells := 0, slots := 0, locals := 0 }
set_option maxHeartbeats 4000000 in
set_option maxRecDepth 100000 in
theorem c_X8_commonDivisor (l : Launch) (D : va_G) (cy : Nat → ClassId) (a : Int) (b : Int) (ha : 0 ≤ a ∧ a < 9223372036854775807) (hb9 : 0 ≤ b ∧ b < 9223372036854775807) : Met l yX8_commonDivisor wsX8_commonDivisor rm_X8_commonDivisor (pR D cy [] [.long (zL a), .long (zL b)]) (qRl (gcs 100 a b)) 0 0 (fun _ => False) := by
  refine met_R (cc := cX8_commonDivisor) (maxL := 7) (ret := (some .long)) RX8 (by decide) rfl rfl (Nat.le_of_ble_eq_true rfl) ?_
  intro p e s m args below meth c ls Q hx hb hr hml hts hown hlocks hQ hP hK hl
  have hl : lv_has ls 7 [(0, .long (zL a)), (2, .long (zL b))] := hl
  refine lv_iconst (v := zI 0) hx hb dX8_commonDivisor_0 rfl ?_
  refine lv_istore (lv' := [(4, .int (zI 0)), (0, .long (zL a)), (2, .long (zL b))]) hx hb dX8_commonDivisor_1 hl (by decide) rfl (fun ls hl => ?_)
  have loop3 : ∀ (n9 : Nat) (i : Nat) (x : Int) (z : Int), 100 - i < n9 → (i ≤ 100) → (0 ≤ x ∧ x < 9223372036854775807) → (0 ≤ z ∧ z < 9223372036854775807) → (gcs 100 a b = gcs (100 - i) x z) → ∀ (x3_0 : Int), x3_0 = x → ∀ (x3_2 : Int), x3_2 = z → ∀ (x3_4 : Int), x3_4 = ((i : Nat) : Int) → ∀ ls : Array Slot, lv_has ls 7 [(0, .long (zL x3_0)), (2, .long (zL x3_2)), (4, .int (zI x3_4))] → W p l e rm_X8_commonDivisor s m args below meth c s.heap [] 0 0 Q (F0 m 3 ls []) := by
    intro n9
    induction n9 with
    | zero => intro i x z h9; exact absurd h9 (Nat.not_lt_zero _)
    | succ n9 ih3 =>
      intro i x z hmu3 hi hxx hzz hq x3_0 ex3_0 x3_2 ex3_2 x3_4 ex3_4 ls hl
      have ex3_0 := ex3_0.symm
      subst ex3_0
      have ex3_2 := ex3_2.symm
      subst ex3_2
      subst ex3_4
      have hl : lv_has ls 7 [(0, .long (zL x)), (2, .long (zL z)), (4, .int (zI ((i : Nat) : Int)))] := hl
      refine lv_iload hx hb dX8_commonDivisor_3 (lv_at hl 2 rfl) ?_
      refine lv_bipush (v := zI 100) hx hb dX8_commonDivisor_5 (by decide) ?_
      refine z_icmp_ge (tgt := 32) hx hb ⟨by omega, by omega⟩ ⟨by omega, by omega⟩ dX8_commonDivisor_7 (by decide) (fun c1 => ?_) (fun c1 => ?_)
      · have c1 : (100 : Nat) ≤ (i : Nat) := by omega
        refine lv_lload_n hx hb dX8_commonDivisor_32 rfl (lv_at hl 0 rfl) ?_
        exact zr_lret hx hb hr hlocks hQ (by rw [hq]; by_cases h9 : i = 100; (rw [show 100 - i = 0 from by omega]; rfl); (rw [show z = 0 from by omega]; exact (gcs_0 _ _).symm)) dX8_commonDivisor_33
      · have c1 : ¬ ((100 : Nat) ≤ (i : Nat)) := by omega
        refine lv_lload_n hx hb dX8_commonDivisor_10 rfl (lv_at hl 1 rfl) ?_
        refine lv_lconst (v := zL 0) hx hb dX8_commonDivisor_11 rfl ?_
        refine z_lcmp (a := z) (b := 0) hx hb ⟨by omega, by omega⟩ ⟨by omega, by omega⟩ dX8_commonDivisor_12 ?_
        refine z_if_eq (tgt := 32) hx hb (cmpI_r _ _) dX8_commonDivisor_13 (by decide) (fun c2 => ?_) (fun c2 => ?_)
        · have hcc2 := cmpI_facts z 0
          have c2 : (z = 0) := by omega
          refine lv_lload_n hx hb dX8_commonDivisor_32 rfl (lv_at hl 0 rfl) ?_
          exact zr_lret hx hb hr hlocks hQ (by rw [hq]; by_cases h9 : i = 100; (rw [show 100 - i = 0 from by omega]; rfl); (rw [show z = 0 from by omega]; exact (gcs_0 _ _).symm)) dX8_commonDivisor_33
        · have hcc2 := cmpI_facts z 0
          have c2 : ¬ (z = 0) := by omega
          refine lv_lload_n hx hb dX8_commonDivisor_16 rfl (lv_at hl 0 rfl) ?_
          refine lv_lload_n hx hb dX8_commonDivisor_17 rfl (lv_at hl 1 rfl) ?_
          refine z_lrem (r := (x % z)) hx hb ⟨by omega, by omega⟩ ⟨by omega, by omega⟩ rfl dX8_commonDivisor_18 ?_
          refine lv_lstore (lv' := [(5, .long (zL (x % z))), (0, .long (zL x)), (2, .long (zL z)), (4, .int (zI ((i : Nat) : Int)))]) hx hb dX8_commonDivisor_19 hl (by decide) rfl (fun ls hl => ?_)
          refine lv_lload_n hx hb dX8_commonDivisor_21 rfl (lv_at hl 2 rfl) ?_
          refine lv_lstore_n (lv' := [(0, .long (zL z)), (5, .long (zL (x % z))), (2, .long (zL z)), (4, .int (zI ((i : Nat) : Int)))]) hx hb dX8_commonDivisor_22 rfl hl (by decide) rfl (fun ls hl => ?_)
          refine lv_lload hx hb dX8_commonDivisor_23 (lv_at hl 1 rfl) ?_
          refine lv_lstore_n (lv' := [(2, .long (zL (x % z))), (0, .long (zL z)), (5, .long (zL (x % z))), (4, .int (zI ((i : Nat) : Int)))]) hx hb dX8_commonDivisor_25 rfl hl (by decide) rfl (fun ls hl => ?_)
          refine z_iinc (r := ((i + 1 : Nat) : Int)) (lv' := [(4, .int (zI ((i + 1 : Nat) : Int))), (2, .long (zL (x % z))), (0, .long (zL z)), (5, .long (zL (x % z)))]) hx hb (by omega) dX8_commonDivisor_26 hl (k := 3) rfl (by decide) rfl (fun ls hl => ?_)
          refine lv_goto (tgt := 3) hx hb dX8_commonDivisor_29 (by decide) ?_
          exact ih3 (i + 1) z (x % z) (by omega) (by omega) (by omega) (by have h1 := Int.emod_nonneg x (show z ≠ 0 by omega); have h2 := Int.emod_lt_of_pos x (show 0 < z by omega); omega) (by rw [hq, show 100 - i = (100 - (i + 1)) + 1 from by omega, gcs_s, if_neg (by omega)]) z (by first | rfl | omega) (x % z) (by first | rfl | omega) ((i + 1 : Nat) : Int) (by first | rfl | omega) ls (lv_sub hl [2, 1, 0] rfl)
  exact loop3 ((100 - 0) + 1) 0 a b (by omega) (by omega) (by omega) (by omega) rfl a (by first | rfl | omega | simp) b (by first | rfl | omega | simp) 0 (by first | rfl | omega | simp) ls (lv_sub hl [1, 2, 0] rfl)
abbrev rm_X8_odds : Room := { frames := 3, cells := 0, slots := 0, locals := 64 }
set_option maxHeartbeats 4000000 in
set_option maxRecDepth 100000 in
theorem c_X8_odds (l : Launch) (D : va_G) (cy : Nat → ClassId) (sa : Nat → Nat) (rTx : Nat) (rDr : Nat) (rPa : Nat) (rIm : Nat) (rBk : Nat) (rHo : Nat) (rFi : Nat) (rGr : Nat) (tr : Int) (h : Nat → Nat) (ro : Nat) (te : Nat) (ch : Nat) (pr : Nat → Int) (sl : Nat → Int) (mu : Nat → Int) (wi : Nat → Int) (ak : Nat → Int) (he : Nat → Nat) (li : Nat → Nat) (na : Nat → Nat) (day : Int) (hm : Nat → Int) (tk : Nat → Int) (py : Nat → Int) (db : Nat → Int) (x : Int) (what : Int) (hx0 : inR x) (hw0 : inR what) (hro : ro ≤ 6) (hte : te ≤ 6) (hHB : HB pr sl mu wi ak he li) (hNB : NB hm tk py db) : Met l yX8_odds wsX8_odds rm_X8_odds (pR D cy [((sa 0), .inr (8, [.ref rTx, .ref (h 0), .ref rDr, .ref (na 0), .ref rPa, .ref rIm, .ref rBk, .ref rHo, .ref rFi, .ref rGr, .long (zL tr)])), ((h 0), .inr (2, [.int (zI ((ro : Nat) : Int)), .int (zI ((te : Nat) : Int)), .int (zI ((ch : Nat) : Int)), .ref (h 1), .ref (h 2), .ref (h 3), .ref (h 4), .ref (h 5), .ref (h 6), .ref (h 7)])), ((h 1), .inl (cy 0, 6, .inl (zA pr))), ((h 2), .inl (cy 0, 6, .inl (zA sl))), ((h 3), .inl (cy 0, 6, .inl (zA mu))), ((h 4), .inl (cy 0, 6, .inl (zA wi))), ((h 5), .inl (cy 0, 6, .inl (zA ak))), ((h 6), .inl (cy 0, 6, .inl (zA (fun j => ((he j : Nat) : Int))))), ((h 7), .inl (cy 0, 5, .inl (zA (fun j => ((li j : Nat) : Int))))), ((na 0), .inr (5, [.int (zI day), .ref (na 1), .ref (na 2), .ref (na 3), .ref (na 4)])), ((na 1), .inl (cy 0, 6, .inl (zA hm))), ((na 2), .inl (cy 0, 6, .inl (zA tk))), ((na 3), .inl (cy 0, 6, .inl (zA py))), ((na 4), .inl (cy 0, 6, .inl (zA db)))] [.ref (sa 0), .int (zI x), .int (zI what)]) (qRl (sOdds hm pr sl mu ro te x what)) 0 0 (fun _ => False) := by
  refine met_R (cc := cX8_odds) (maxL := 9) (ret := (some .long)) RX8 (by decide) rfl rfl (Nat.le_of_ble_eq_true rfl) ?_
  intro p e s m args below meth c ls Q hx hb hr hml hts hown hlocks hQ hP hK hl
  have hl : lv_has ls 9 [(0, .ref (sa 0)), (1, .int (zI x)), (2, .int (zI what))] := hl
  have hinX2 : ∀ w ∈ wsX20, w ∈ wsX8_odds := (fun w h => List.mem_cons_of_mem _ (List.mem_append_left _ (List.mem_append_right _ h)))
  have hinX5 : ∀ w ∈ wsX50, w ∈ wsX8_odds := (fun w h => List.mem_cons_of_mem _ (List.mem_append_right _ h))
  have hinX8 : ∀ w ∈ wsX80, w ∈ wsX8_odds := (fun w h => List.mem_cons_of_mem _ (List.mem_append_left _ (List.mem_append_left _ (List.mem_append_right _ h))))
  refine lv_iload_n hx hb dX8_odds_0 rfl (lv_at hl 1 rfl) ?_
  refine z_if_lt (tgt := 19) hx hb ⟨by omega, by omega⟩ dX8_odds_1 (by decide) (fun c1 => ?_) (fun c1 => ?_)
  · refine lv_ldc2 (v := zL (-1)) hx hb hown (hts (.constantLong RX8 248 (-1)) (List.mem_of_getElem? (i := 1) rfl)) dX8_odds_19 ?_
    exact zr_lret hx hb hr hlocks hQ (by exact (if_neg (by omega)).symm) dX8_odds_22
  · refine lv_iload_n hx hb dX8_odds_4 rfl (lv_at hl 1 rfl) ?_
    refine lv_bipush (v := zI 10) hx hb dX8_odds_5 (by decide) ?_
    refine z_icmp_gt (tgt := 19) hx hb ⟨by omega, by omega⟩ ⟨by omega, by omega⟩ dX8_odds_7 (by decide) (fun c2 => ?_) (fun c2 => ?_)
    · refine lv_ldc2 (v := zL (-1)) hx hb hown (hts (.constantLong RX8 248 (-1)) (List.mem_of_getElem? (i := 1) rfl)) dX8_odds_19 ?_
      exact zr_lret hx hb hr hlocks hQ (by exact (if_neg (by omega)).symm) dX8_odds_22
    · refine lv_iload_n hx hb dX8_odds_10 rfl (lv_at hl 2 rfl) ?_
      refine z_if_lt (tgt := 19) hx hb ⟨by omega, by omega⟩ dX8_odds_11 (by decide) (fun c3 => ?_) (fun c3 => ?_)
      · refine lv_ldc2 (v := zL (-1)) hx hb hown (hts (.constantLong RX8 248 (-1)) (List.mem_of_getElem? (i := 1) rfl)) dX8_odds_19 ?_
        exact zr_lret hx hb hr hlocks hQ (by exact (if_neg (by omega)).symm) dX8_odds_22
      · refine lv_iload_n hx hb dX8_odds_14 rfl (lv_at hl 2 rfl) ?_
        refine lv_iconst (v := zI 1) hx hb dX8_odds_15 rfl ?_
        refine z_icmp_le (tgt := 23) hx hb ⟨by omega, by omega⟩ ⟨by omega, by omega⟩ dX8_odds_16 (by decide) (fun c4 => ?_) (fun c4 => ?_)
        · refine lv_lconst (v := zL 1) hx hb dX8_odds_23 rfl ?_
          refine lv_lstore_n (lv' := [(3, .long (zL 1)), (0, .ref (sa 0)), (1, .int (zI x)), (2, .int (zI what))]) hx hb dX8_odds_24 rfl hl (by decide) rfl (fun ls hl => ?_)
          refine lv_lconst (v := zL 1) hx hb dX8_odds_25 rfl ?_
          refine lv_lstore (lv' := [(5, .long (zL 1)), (3, .long (zL 1)), (0, .ref (sa 0)), (1, .int (zI x)), (2, .int (zI what))]) hx hb dX8_odds_26 hl (by decide) rfl (fun ls hl => ?_)
          refine lv_iconst (v := zI 0) hx hb dX8_odds_28 rfl ?_
          refine lv_istore (lv' := [(7, .int (zI 0)), (5, .long (zL 1)), (3, .long (zL 1)), (0, .ref (sa 0)), (1, .int (zI x)), (2, .int (zI what))]) hx hb dX8_odds_29 hl (by decide) rfl (fun ls hl => ?_)
          have loop31 : ∀ (n9 : Nat) (i : Nat), te - i < n9 → (i ≤ te) → (0 ≤ x ∧ x ≤ 10) → (0 ≤ what ∧ what ≤ 1) → ∀ (x31_3 : Int), x31_3 = (odU hm pr sl mu ro x i) → ∀ (x31_5 : Int), x31_5 = (odL hm pr sl mu ro i) → ∀ (x31_7 : Int), x31_7 = ((i : Nat) : Int) → ∀ ls : Array Slot, lv_has ls 9 [(0, .ref (sa 0)), (1, .int (zI x)), (2, .int (zI what)), (3, .long (zL x31_3)), (5, .long (zL x31_5)), (7, .int (zI x31_7))] → W p l e rm_X8_odds s m args below meth c s.heap [] 0 0 Q (F0 m 31 ls []) := by
            intro n9
            induction n9 with
            | zero => intro i h9; exact absurd h9 (Nat.not_lt_zero _)
            | succ n9 ih31 =>
              intro i hmu31 hi hx9 hw9 x31_3 ex31_3 x31_5 ex31_5 x31_7 ex31_7 ls hl
              subst ex31_3
              subst ex31_5
              subst ex31_7
              have hl : lv_has ls 9 [(0, .ref (sa 0)), (1, .int (zI x)), (2, .int (zI what)), (3, .long (zL (odU hm pr sl mu ro x i))), (5, .long (zL (odL hm pr sl mu ro i))), (7, .int (zI ((i : Nat) : Int)))] := hl
              have hz9 := spr_in hHB (hm := hm) ro i
              have ho1 := odU_in (hm := hm) (pr := pr) (sl := sl) (mu := mu) (ro := ro) hx9 i
              have ho2 := odL_in hm pr sl mu ro i
              have ho3 := ten6 (show i ≤ 6 by omega)
              refine lv_iload hx hb dX8_odds_31 (lv_at hl 5 rfl) ?_
              refine lv_aload_n hx hb dX8_odds_33 rfl (lv_at hl 0 rfl) ?_
              refine va_get (D := D) (ci := 8) (v := .ref (h 0)) (C := RX8) (T := TX8) (N := 11) hx hb hts hinX8 hown hK hP 0 rfl rfl 1 (by decide) (hts (.fieldLink RX8 19 "SilentRent" "built" "LSilentRent$House;") (List.mem_of_getElem? (i := 2) rfl)) (fun _ h9 => h9) rfl dX8_odds_34 ?_
              refine va_get (D := D) (ci := 2) (v := .int (zI ((te : Nat) : Int))) (C := RX2) (T := TX2) (N := 10) hx hb hts hinX2 hown hK hP 1 rfl rfl 1 (by decide) (hts (.fieldLink RX8 161 "SilentRent$House" "tenants" "I") (List.mem_of_getElem? (i := 3) rfl)) (fun _ h9 => h9) rfl dX8_odds_37 ?_
              refine z_icmp_ge (tgt := 103) hx hb ⟨by omega, by omega⟩ ⟨by omega, by omega⟩ dX8_odds_40 (by decide) (fun c5 => ?_) (fun c5 => ?_)
              · have c5 : (te : Nat) ≤ (i : Nat) := by omega
                refine lv_lload_n hx hb dX8_odds_103 rfl (lv_at hl 3 rfl) ?_
                refine lv_lload hx hb dX8_odds_104 (lv_at hl 4 rfl) ?_
                have hie : i = te := by omega
                subst hie
                have hPc6 := hP.sub (ws' := []) [] rfl
                refine zr_callSl (rest := []) (As := [.long (zL (odU hm pr sl mu ro x i)), .long (zL (odL hm pr sl mu ro i))]) (v := (gcs 100 (odU hm pr sl mu ro x i) (odL hm pr sl mu ro i))) (wd := []) ⟨hx, hb, hml, hown, hts⟩ (c_X8_commonDivisor l D cy (odU hm pr sl mu ro x i) (odL hm pr sl mu ro i) (by omega) (by omega)) (va_cwS 2 hts gX8_odds_X8_commonDivisor rfl rfl rfl (by decide +kernel) ⟨Nat.le_of_ble_eq_true rfl, Nat.le_of_ble_eq_true rfl⟩) hK (fun k q h => by cases h) rfl hl.1 rfl (Nat.le_of_ble_eq_true rfl) dX8_odds_106 ⟨Nat.zero_le _, Nat.zero_le _⟩ ?_
                refine lv_lstore (lv' := [(7, .long (zL (gcs 100 (odU hm pr sl mu ro x i) (odL hm pr sl mu ro i)))), (0, .ref (sa 0)), (1, .int (zI x)), (2, .int (zI what)), (3, .long (zL (odU hm pr sl mu ro x i))), (5, .long (zL (odL hm pr sl mu ro i)))]) hx hb dX8_odds_109 hl (by decide) rfl (fun ls hl => ?_)
                have hg9 := gcs_in 100 (odU hm pr sl mu ro x i) (odL hm pr sl mu ro i) (by omega) (by omega)
                refine lv_lload hx hb dX8_odds_111 (lv_at hl 0 rfl) ?_
                refine lv_lconst (v := zL 0) hx hb dX8_odds_113 rfl ?_
                refine z_lcmp (a := (gcs 100 (odU hm pr sl mu ro x i) (odL hm pr sl mu ro i))) (b := 0) hx hb ⟨by omega, by omega⟩ ⟨by omega, by omega⟩ dX8_odds_114 ?_
                refine z_if_ne (tgt := 122) hx hb (cmpI_r _ _) dX8_odds_115 (by decide) (fun c7 => ?_) (fun c7 => ?_)
                · have hcc7 := cmpI_facts (gcs 100 (odU hm pr sl mu ro x i) (odL hm pr sl mu ro i)) 0
                  have c7 : ¬ ((gcs 100 (odU hm pr sl mu ro x i) (odL hm pr sl mu ro i)) = 0) := by omega
                  refine lv_iload_n hx hb dX8_odds_122 rfl (lv_at hl 3 rfl) ?_
                  refine z_if_ne (tgt := 133) hx hb ⟨by omega, by omega⟩ dX8_odds_123 (by decide) (fun c8 => ?_) (fun c8 => ?_)
                  · refine lv_lload hx hb dX8_odds_133 (lv_at hl 5 rfl) ?_
                    refine lv_lload hx hb dX8_odds_135 (lv_at hl 0 rfl) ?_
                    refine z_ldiv (r := ((odL hm pr sl mu ro i) / (gcs 100 (odU hm pr sl mu ro x i) (odL hm pr sl mu ro i)))) hx hb ⟨by omega, by omega⟩ ⟨by omega, by omega⟩ rfl dX8_odds_137 ?_
                    exact zr_lret hx hb hr hlocks hQ (by unfold sOdds; rw [if_pos (by omega)]; first | exact (if_pos (by omega)).symm | (rw [if_neg (show ¬ gcs 100 (odU hm pr sl mu ro x i) (odL hm pr sl mu ro i) = 0 by omega)]; first | exact (if_pos (by omega)).symm | exact (if_neg (by omega)).symm)) dX8_odds_138
                  · refine lv_lload_n hx hb dX8_odds_126 rfl (lv_at hl 4 rfl) ?_
                    refine lv_lload hx hb dX8_odds_127 (lv_at hl 0 rfl) ?_
                    refine z_ldiv (r := ((odU hm pr sl mu ro x i) / (gcs 100 (odU hm pr sl mu ro x i) (odL hm pr sl mu ro i)))) hx hb ⟨by omega, by omega⟩ ⟨by omega, by omega⟩ rfl dX8_odds_129 ?_
                    refine lv_goto (tgt := 138) hx hb dX8_odds_130 (by decide) ?_
                    exact zr_lret hx hb hr hlocks hQ (by unfold sOdds; rw [if_pos (by omega)]; first | exact (if_pos (by omega)).symm | (rw [if_neg (show ¬ gcs 100 (odU hm pr sl mu ro x i) (odL hm pr sl mu ro i) = 0 by omega)]; first | exact (if_pos (by omega)).symm | exact (if_neg (by omega)).symm)) dX8_odds_138
                · have hcc7 := cmpI_facts (gcs 100 (odU hm pr sl mu ro x i) (odL hm pr sl mu ro i)) 0
                  have c7 : ((gcs 100 (odU hm pr sl mu ro x i) (odL hm pr sl mu ro i)) = 0) := by omega
                  refine lv_ldc2 (v := zL (-1)) hx hb hown (hts (.constantLong RX8 248 (-1)) (List.mem_of_getElem? (i := 1) rfl)) dX8_odds_118 ?_
                  exact zr_lret hx hb hr hlocks hQ (by unfold sOdds; rw [if_pos (by omega)]; first | exact (if_pos (by omega)).symm | (rw [if_neg (show ¬ gcs 100 (odU hm pr sl mu ro x i) (odL hm pr sl mu ro i) = 0 by omega)]; first | exact (if_pos (by omega)).symm | exact (if_neg (by omega)).symm)) dX8_odds_121
              · have c5 : ¬ ((te : Nat) ≤ (i : Nat)) := by omega
                refine lv_aload_n hx hb dX8_odds_43 rfl (lv_at hl 0 rfl) ?_
                refine va_get (D := D) (ci := 8) (v := .ref (na 0)) (C := RX8) (T := TX8) (N := 11) hx hb hts hinX8 hown hK hP 0 rfl rfl 3 (by decide) (hts (.fieldLink RX8 29 "SilentRent" "now" "LSilentRent$Now;") (List.mem_of_getElem? (i := 4) rfl)) (fun _ h9 => h9) rfl dX8_odds_44 ?_
                refine va_get (D := D) (ci := 5) (v := .ref (na 1)) (C := RX5) (T := TX5) (N := 5) hx hb hts hinX5 hown hK hP 9 rfl rfl 1 (by decide) (hts (.fieldLink RX8 123 "SilentRent$Now" "home" "[I") (List.mem_of_getElem? (i := 5) rfl)) (fun _ h9 => h9) rfl dX8_odds_47 ?_
                refine lv_iload hx hb dX8_odds_50 (lv_at hl 5 rfl) ?_
                refine z_iald hx hb hK hP 10 0 (f := hm) rfl rfl i rfl (by omega) (by decide) dX8_odds_52 ?_
                have hb9 := hNB.1 i
                refine lv_bipush (v := zI (-9)) hx hb dX8_odds_53 (by decide) ?_
                have J17 : ∀ (z15 : Int), z15 = (if (hm i) = (-9) then (odU hm pr sl mu ro x i) else (if 2 ≤ (spr hm pr sl mu ro i) then (odU hm pr sl mu ro x i) else ((odU hm pr sl mu ro x i) * (if 0 ≤ (spr hm pr sl mu ro i) then (10 - x) else 0)))) → ∀ (z16 : Int), z16 = (if (hm i) = (-9) then (odL hm pr sl mu ro i) else (if 2 ≤ (spr hm pr sl mu ro i) then (odL hm pr sl mu ro i) else ((odL hm pr sl mu ro i) * 10))) → ∀ ls : Array Slot, lv_has ls 9 [(0, .ref (sa 0)), (1, .int (zI x)), (2, .int (zI what)), (3, .long (zL z15)), (5, .long (zL z16)), (7, .int (zI ((i : Nat) : Int)))] → W p l e rm_X8_odds s m args below meth c s.heap [] 0 0 Q (F0 m 97 ls []) := by
                  intro z15 ez15 z16 ez16 ls hl
                  subst ez15
                  subst ez16
                  refine z_iinc (r := ((i + 1 : Nat) : Int)) (lv' := [(7, .int (zI ((i + 1 : Nat) : Int))), (0, .ref (sa 0)), (1, .int (zI x)), (2, .int (zI what)), (3, .long (zL (if (hm i) = (-9) then (odU hm pr sl mu ro x i) else (if 2 ≤ (spr hm pr sl mu ro i) then (odU hm pr sl mu ro x i) else ((odU hm pr sl mu ro x i) * (if 0 ≤ (spr hm pr sl mu ro i) then (10 - x) else 0)))))), (5, .long (zL (if (hm i) = (-9) then (odL hm pr sl mu ro i) else (if 2 ≤ (spr hm pr sl mu ro i) then (odL hm pr sl mu ro i) else ((odL hm pr sl mu ro i) * 10)))))]) hx hb (by omega) dX8_odds_97 hl (k := 5) rfl (by decide) rfl (fun ls hl => ?_)
                  refine lv_goto (tgt := 31) hx hb dX8_odds_100 (by decide) ?_
                  exact ih31 (i + 1) (by omega) (by omega) (by omega) (by omega) (if (hm i) = (-9) then (odU hm pr sl mu ro x i) else (if 2 ≤ (spr hm pr sl mu ro i) then (odU hm pr sl mu ro x i) else ((odU hm pr sl mu ro x i) * (if 0 ≤ (spr hm pr sl mu ro i) then (10 - x) else 0)))) (by (simp only [odU]) <;> (repeat' split) <;> first | rfl | omega) (if (hm i) = (-9) then (odL hm pr sl mu ro i) else (if 2 ≤ (spr hm pr sl mu ro i) then (odL hm pr sl mu ro i) else ((odL hm pr sl mu ro i) * 10))) (by (simp only [odL]) <;> (repeat' split) <;> first | rfl | omega) ((i + 1 : Nat) : Int) (by first | rfl | omega) ls (lv_sub hl [1, 2, 3, 4, 5, 0] rfl)
                refine z_icmp_eq (tgt := 97) hx hb ⟨by omega, by omega⟩ ⟨by omega, by omega⟩ dX8_odds_55 (by decide) (fun c10 => ?_) (fun c10 => ?_)
                · exact J17 (odU hm pr sl mu ro x i) (by rw [if_pos c10]) (odL hm pr sl mu ro i) (by rw [if_pos c10]) ls (lv_sub hl [0, 1, 2, 3, 4, 5] rfl)
                · refine lv_aload_n hx hb dX8_odds_58 rfl (lv_at hl 0 rfl) ?_
                  refine lv_iload hx hb dX8_odds_59 (lv_at hl 5 rfl) ?_
                  refine zr_callV (rest := []) (As := [.int (zI ((i : Nat) : Int))]) (v := (spr hm pr sl mu ro i)) ⟨hx, hb, hml, hown, hts⟩ (c_X8_spareHours l D cy sa rTx rDr rPa rIm rBk rHo rFi rGr tr h ro te ch pr sl mu wi ak he li na day hm tk py db ((i : Nat) : Int) (by omega) (by omega) hHB hNB) (cwV 1 hts gX8_odds_X8_spareHours rfl rfl rfl (by decide +kernel) ⟨Nat.le_of_ble_eq_true rfl, Nat.le_of_ble_eq_true rfl⟩) hK hP 0 8 rfl rfl rfl hl.1 rfl (Nat.le_of_ble_eq_true rfl) dX8_odds_61 ⟨Nat.zero_le _, Nat.zero_le _⟩ ?_
                  refine lv_iconst (v := zI 2) hx hb dX8_odds_64 rfl ?_
                  refine z_icmp_ge (tgt := 97) hx hb ⟨by omega, by omega⟩ ⟨by omega, by omega⟩ dX8_odds_65 (by decide) (fun c11 => ?_) (fun c11 => ?_)
                  · exact J17 (odU hm pr sl mu ro x i) (by rw [if_neg c10, if_pos c11]) (odL hm pr sl mu ro i) (by rw [if_neg c10, if_pos c11]) ls (lv_sub hl [0, 1, 2, 3, 4, 5] rfl)
                  · refine lv_lload_n hx hb dX8_odds_68 rfl (lv_at hl 3 rfl) ?_
                    refine lv_aload_n hx hb dX8_odds_69 rfl (lv_at hl 0 rfl) ?_
                    refine lv_iload hx hb dX8_odds_70 (lv_at hl 5 rfl) ?_
                    refine zr_callV (rest := [.long (zL (odU hm pr sl mu ro x i))]) (As := [.int (zI ((i : Nat) : Int))]) (v := (spr hm pr sl mu ro i)) ⟨hx, hb, hml, hown, hts⟩ (c_X8_spareHours l D cy sa rTx rDr rPa rIm rBk rHo rFi rGr tr h ro te ch pr sl mu wi ak he li na day hm tk py db ((i : Nat) : Int) (by omega) (by omega) hHB hNB) (cwV 1 hts gX8_odds_X8_spareHours rfl rfl rfl (by decide +kernel) ⟨Nat.le_of_ble_eq_true rfl, Nat.le_of_ble_eq_true rfl⟩) hK hP 0 8 rfl rfl rfl hl.1 rfl (Nat.le_of_ble_eq_true rfl) dX8_odds_72 ⟨Nat.zero_le _, Nat.zero_le _⟩ ?_
                    have J14 : ∀ (z13 : Int), z13 = (if 0 ≤ (spr hm pr sl mu ro i) then (10 - x) else 0) → ∀ ls : Array Slot, lv_has ls 9 [(0, .ref (sa 0)), (1, .int (zI x)), (2, .int (zI what)), (3, .long (zL (odU hm pr sl mu ro x i))), (5, .long (zL (odL hm pr sl mu ro i))), (7, .int (zI ((i : Nat) : Int)))] → W p l e rm_X8_odds s m args below meth c s.heap [] 0 0 Q (F0 m 87 ls [.long (zL z13), .long (zL (odU hm pr sl mu ro x i))]) := by
                      intro z13 ez13 ls hl
                      subst ez13
                      refine z_lmul (r := ((odU hm pr sl mu ro x i) * (if 0 ≤ (spr hm pr sl mu ro i) then (10 - x) else 0))) hx hb rfl dX8_odds_87 ?_
                      refine lv_lstore_n (lv' := [(3, .long (zL ((odU hm pr sl mu ro x i) * (if 0 ≤ (spr hm pr sl mu ro i) then (10 - x) else 0)))), (0, .ref (sa 0)), (1, .int (zI x)), (2, .int (zI what)), (5, .long (zL (odL hm pr sl mu ro i))), (7, .int (zI ((i : Nat) : Int)))]) hx hb dX8_odds_88 rfl hl (by decide) rfl (fun ls hl => ?_)
                      refine lv_lload hx hb dX8_odds_89 (lv_at hl 4 rfl) ?_
                      refine lv_ldc2 (v := zL 10) hx hb hown (hts (.constantLong RX8 250 (10)) (List.mem_of_getElem? (i := 6) rfl)) dX8_odds_91 ?_
                      refine z_lmul (r := ((odL hm pr sl mu ro i) * 10)) hx hb rfl dX8_odds_94 ?_
                      refine lv_lstore (lv' := [(5, .long (zL ((odL hm pr sl mu ro i) * 10))), (3, .long (zL ((odU hm pr sl mu ro x i) * (if 0 ≤ (spr hm pr sl mu ro i) then (10 - x) else 0)))), (0, .ref (sa 0)), (1, .int (zI x)), (2, .int (zI what)), (7, .int (zI ((i : Nat) : Int)))]) hx hb dX8_odds_95 hl (by decide) rfl (fun ls hl => ?_)
                      exact J17 ((odU hm pr sl mu ro x i) * (if 0 ≤ (spr hm pr sl mu ro i) then (10 - x) else 0)) (by rw [if_neg c10, if_neg c11]) ((odL hm pr sl mu ro i) * 10) (by rw [if_neg c10, if_neg c11]) ls (lv_sub hl [2, 3, 4, 1, 0, 5] rfl)
                    refine z_if_ge (tgt := 82) hx hb ⟨by omega, by omega⟩ dX8_odds_75 (by decide) (fun c12 => ?_) (fun c12 => ?_)
                    · refine lv_bipush (v := zI 10) hx hb dX8_odds_82 (by decide) ?_
                      refine lv_iload_n hx hb dX8_odds_84 rfl (lv_at hl 1 rfl) ?_
                      refine z_isub (r := (10 - x)) hx hb rfl dX8_odds_85 ?_
                      refine z_i2l hx hb ⟨by omega, by omega⟩ dX8_odds_86 ?_
                      exact J14 (10 - x) (by rw [if_pos c12]) ls (lv_sub hl [0, 1, 2, 3, 4, 5] rfl)
                    · refine lv_lconst (v := zL 0) hx hb dX8_odds_78 rfl ?_
                      refine lv_goto (tgt := 87) hx hb dX8_odds_79 (by decide) ?_
                      exact J14 0 (by rw [if_neg c12]) ls (lv_sub hl [0, 1, 2, 3, 4, 5] rfl)
          exact loop31 ((te - 0) + 1) 0 (by omega) (by omega) (by omega) (by omega) 1 rfl 1 rfl 0 (by first | rfl | omega | simp) ls (lv_sub hl [3, 4, 5, 2, 1, 0] rfl)
        · refine lv_ldc2 (v := zL (-1)) hx hb hown (hts (.constantLong RX8 248 (-1)) (List.mem_of_getElem? (i := 1) rfl)) dX8_odds_19 ?_
          exact zr_lret hx hb hr hlocks hQ (by exact (if_neg (by omega)).symm) dX8_odds_22
abbrev rm_X8_room : Room := { frames := 4, cells := 0, slots := 0, locals := 87 }
set_option maxHeartbeats 4000000 in
set_option maxRecDepth 100000 in
theorem c_X8_room (l : Launch) (D : va_G) (cy : Nat → ClassId) (sa : Nat → Nat) (rTx : Nat) (rDr : Nat) (rPa : Nat) (rIm : Nat) (rBk : Nat) (rHo : Nat) (rFi : Nat) (rGr : Nat) (tr : Int) (h : Nat → Nat) (ro : Nat) (te : Nat) (ch : Nat) (pr : Nat → Int) (sl : Nat → Int) (mu : Nat → Int) (wi : Nat → Int) (ak : Nat → Int) (he : Nat → Nat) (li : Nat → Nat) (na : Nat → Nat) (day : Int) (hm : Nat → Int) (tk : Nat → Int) (py : Nat → Int) (db : Nat → Int) (r : Int) (what : Int) (hr0 : inR r) (hw0 : inR what) (hro : ro ≤ 6) (hte : te ≤ 6) (hHB : HB pr sl mu wi ak he li) (hNB : NB hm tk py db) : Met l yX8_room wsX8_room rm_X8_room (pR D cy [((sa 0), .inr (8, [.ref rTx, .ref (h 0), .ref rDr, .ref (na 0), .ref rPa, .ref rIm, .ref rBk, .ref rHo, .ref rFi, .ref rGr, .long (zL tr)])), ((h 0), .inr (2, [.int (zI ((ro : Nat) : Int)), .int (zI ((te : Nat) : Int)), .int (zI ((ch : Nat) : Int)), .ref (h 1), .ref (h 2), .ref (h 3), .ref (h 4), .ref (h 5), .ref (h 6), .ref (h 7)])), ((h 1), .inl (cy 0, 6, .inl (zA pr))), ((h 2), .inl (cy 0, 6, .inl (zA sl))), ((h 3), .inl (cy 0, 6, .inl (zA mu))), ((h 4), .inl (cy 0, 6, .inl (zA wi))), ((h 5), .inl (cy 0, 6, .inl (zA ak))), ((h 6), .inl (cy 0, 6, .inl (zA (fun j => ((he j : Nat) : Int))))), ((h 7), .inl (cy 0, 5, .inl (zA (fun j => ((li j : Nat) : Int))))), ((na 0), .inr (5, [.int (zI day), .ref (na 1), .ref (na 2), .ref (na 3), .ref (na 4)])), ((na 1), .inl (cy 0, 6, .inl (zA hm))), ((na 2), .inl (cy 0, 6, .inl (zA tk))), ((na 3), .inl (cy 0, 6, .inl (zA py))), ((na 4), .inl (cy 0, 6, .inl (zA db)))] [.ref (sa 0), .int (zI r), .int (zI what)]) (qR (sRoom pr sl mu hm ro te r what)) 0 0 (fun _ => False) := by
  refine met_R (cc := cX8_room) (maxL := 3) (ret := (some .int)) RX8 (by decide) rfl rfl (Nat.le_of_ble_eq_true rfl) ?_
  intro p e s m args below meth c ls Q hx hb hr hml hts hown hlocks hQ hP hK hl
  have hl : lv_has ls 3 [(0, .ref (sa 0)), (1, .int (zI r)), (2, .int (zI what))] := hl
  have hinX2 : ∀ w ∈ wsX20, w ∈ wsX8_room := (fun w h => List.mem_cons_of_mem _ (List.mem_append_left _ (List.mem_append_right _ h)))
  have hinX8 : ∀ w ∈ wsX80, w ∈ wsX8_room := (fun w h => List.mem_cons_of_mem _ (List.mem_append_left _ (List.mem_append_left _ (List.mem_append_right _ h))))
  refine lv_aload_n hx hb dX8_room_0 rfl (lv_at hl 0 rfl) ?_
  refine va_get (D := D) (ci := 8) (v := .ref (h 0)) (C := RX8) (T := TX8) (N := 11) hx hb hts hinX8 hown hK hP 0 rfl rfl 1 (by decide) (hts (.fieldLink RX8 19 "SilentRent" "built" "LSilentRent$House;") (List.mem_of_getElem? (i := 1) rfl)) (fun _ h9 => h9) rfl dX8_room_1 ?_
  refine lv_iload_n hx hb dX8_room_4 rfl (lv_at hl 1 rfl) ?_
  have hPc1 := hP.sub (ws' := [((h 0), .inr (2, [.int (zI ((ro : Nat) : Int)), .int (zI ((te : Nat) : Int)), .int (zI ((ch : Nat) : Int)), .ref (h 1), .ref (h 2), .ref (h 3), .ref (h 4), .ref (h 5), .ref (h 6), .ref (h 7)])), ((h 1), .inl (cy 0, 6, .inl (zA pr))), ((h 2), .inl (cy 0, 6, .inl (zA sl))), ((h 3), .inl (cy 0, 6, .inl (zA mu))), ((h 4), .inl (cy 0, 6, .inl (zA wi))), ((h 5), .inl (cy 0, 6, .inl (zA ak))), ((h 6), .inl (cy 0, 6, .inl (zA (fun j => ((he j : Nat) : Int))))), ((h 7), .inl (cy 0, 5, .inl (zA (fun j => ((li j : Nat) : Int)))))]) [1, 2, 3, 4, 5, 6, 7, 8] rfl
  refine zr_callV (rest := []) (As := [.int (zI r)]) (v := (if 0 ≤ r ∧ r < ((ro : Nat) : Int) then 1 else 0)) ⟨hx, hb, hml, hown, hts⟩ (c_X2_hasRoom l D cy h ro te ch pr sl mu wi ak he li r (by omega) (by omega)) (cwV 1 hts gX8_room_X2_hasRoom rfl rfl rfl (by decide +kernel) ⟨Nat.le_of_ble_eq_true rfl, Nat.le_of_ble_eq_true rfl⟩) hK hPc1 0 2 rfl rfl rfl hl.1 rfl (Nat.le_of_ble_eq_true rfl) dX8_room_5 ⟨Nat.zero_le _, Nat.zero_le _⟩ ?_
  refine z_if_ne (tgt := 13) hx hb bo_r dX8_room_8 (by decide) (fun c2 => ?_) (fun c2 => ?_)
  · have c2 := bo_t c2
    refine lv_iload_n hx hb dX8_room_13 rfl (lv_at hl 2 rfl) ?_
    rcases (show what = 0 ∨ what = 1 ∨ what = 2 ∨ (what < 0 ∨ 2 < what) from by omega) with c3 | c3 | c3 | c3
    · refine z_tableIn (tgt := 40) hx hb 0 c3 ⟨by decide, by decide⟩ dX8_room_14 (by decide) (by decide) rfl (by decide) ?_
      refine lv_aload_n hx hb dX8_room_40 rfl (lv_at hl 0 rfl) ?_
      refine va_get (D := D) (ci := 8) (v := .ref (h 0)) (C := RX8) (T := TX8) (N := 11) hx hb hts hinX8 hown hK hP 0 rfl rfl 1 (by decide) (hts (.fieldLink RX8 19 "SilentRent" "built" "LSilentRent$House;") (List.mem_of_getElem? (i := 1) rfl)) (fun _ h9 => h9) rfl dX8_room_41 ?_
      refine va_get (D := D) (ci := 2) (v := .ref (h 1)) (C := RX2) (T := TX2) (N := 10) hx hb hts hinX2 hown hK hP 1 rfl rfl 3 (by decide) (hts (.fieldLink RX8 98 "SilentRent$House" "price" "[I") (List.mem_of_getElem? (i := 2) rfl)) (fun _ h9 => h9) rfl dX8_room_44 ?_
      refine lv_iload_n hx hb dX8_room_47 rfl (lv_at hl 1 rfl) ?_
      refine z_iald hx hb hK hP 2 0 (f := pr) rfl rfl r.toNat (by omega) (by omega) (by decide) dX8_room_48 ?_
      have hb4 := hHB.1 r.toNat
      exact zr_iret hx hb hr hlocks hQ (by unfold sRoom; (repeat' split) <;> first | rfl | omega) dX8_room_49
    · refine z_tableIn (tgt := 50) hx hb 1 c3 ⟨by decide, by decide⟩ dX8_room_14 (by decide) (by decide) rfl (by decide) ?_
      refine lv_aload_n hx hb dX8_room_50 rfl (lv_at hl 0 rfl) ?_
      refine va_get (D := D) (ci := 8) (v := .ref (na 0)) (C := RX8) (T := TX8) (N := 11) hx hb hts hinX8 hown hK hP 0 rfl rfl 3 (by decide) (hts (.fieldLink RX8 29 "SilentRent" "now" "LSilentRent$Now;") (List.mem_of_getElem? (i := 3) rfl)) (fun _ h9 => h9) rfl dX8_room_51 ?_
      refine lv_iload_n hx hb dX8_room_54 rfl (lv_at hl 1 rfl) ?_
      have hPc5 := hP.sub (ws' := [((na 0), .inr (5, [.int (zI day), .ref (na 1), .ref (na 2), .ref (na 3), .ref (na 4)])), ((na 1), .inl (cy 0, 6, .inl (zA hm))), ((na 2), .inl (cy 0, 6, .inl (zA tk))), ((na 3), .inl (cy 0, 6, .inl (zA py))), ((na 4), .inl (cy 0, 6, .inl (zA db)))]) [9, 10, 11, 12, 13] rfl
      refine zr_callV (rest := []) (As := [.int (zI r)]) (v := (dwl hm r 6 0)) ⟨hx, hb, hml, hown, hts⟩ (c_X5_dweller l D cy na day hm tk py db r (by omega) hNB) (cwV 1 hts gX8_room_X5_dweller rfl rfl rfl (by decide +kernel) ⟨Nat.le_of_ble_eq_true rfl, Nat.le_of_ble_eq_true rfl⟩) hK hPc5 0 5 rfl rfl rfl hl.1 rfl (Nat.le_of_ble_eq_true rfl) dX8_room_55 ⟨Nat.zero_le _, Nat.zero_le _⟩ ?_
      exact zr_iret hx hb hr hlocks hQ (by unfold sRoom; (repeat' split) <;> first | rfl | omega) dX8_room_58
    · refine z_tableIn (tgt := 59) hx hb 2 c3 ⟨by decide, by decide⟩ dX8_room_14 (by decide) (by decide) rfl (by decide) ?_
      refine lv_aload_n hx hb dX8_room_59 rfl (lv_at hl 0 rfl) ?_
      refine va_get (D := D) (ci := 8) (v := .ref (h 0)) (C := RX8) (T := TX8) (N := 11) hx hb hts hinX8 hown hK hP 0 rfl rfl 1 (by decide) (hts (.fieldLink RX8 19 "SilentRent" "built" "LSilentRent$House;") (List.mem_of_getElem? (i := 1) rfl)) (fun _ h9 => h9) rfl dX8_room_60 ?_
      refine lv_iload_n hx hb dX8_room_63 rfl (lv_at hl 1 rfl) ?_
      have hPc6 := hP.sub (ws' := [((h 0), .inr (2, [.int (zI ((ro : Nat) : Int)), .int (zI ((te : Nat) : Int)), .int (zI ((ch : Nat) : Int)), .ref (h 1), .ref (h 2), .ref (h 3), .ref (h 4), .ref (h 5), .ref (h 6), .ref (h 7)])), ((h 1), .inl (cy 0, 6, .inl (zA pr))), ((h 2), .inl (cy 0, 6, .inl (zA sl))), ((h 3), .inl (cy 0, 6, .inl (zA mu))), ((h 4), .inl (cy 0, 6, .inl (zA wi))), ((h 5), .inl (cy 0, 6, .inl (zA ak))), ((h 6), .inl (cy 0, 6, .inl (zA (fun j => ((he j : Nat) : Int))))), ((h 7), .inl (cy 0, 5, .inl (zA (fun j => ((li j : Nat) : Int)))))]) [1, 2, 3, 4, 5, 6, 7, 8] rfl
      refine zr_callV (rest := []) (As := [.int (zI r)]) (v := ((whm pr sl mu te r.toNat : Nat) : Int)) ⟨hx, hb, hml, hown, hts⟩ (c_X2_whoMeets l D cy h ro te ch pr sl mu wi ak he li r (by omega) (by omega) hHB) (cwV 1 hts gX8_room_X2_whoMeets rfl rfl rfl (by decide +kernel) ⟨Nat.le_of_ble_eq_true rfl, Nat.le_of_ble_eq_true rfl⟩) hK hPc6 0 2 rfl rfl rfl hl.1 rfl (Nat.le_of_ble_eq_true rfl) dX8_room_64 ⟨Nat.zero_le _, Nat.zero_le _⟩ ?_
      exact zr_iret hx hb hr hlocks hQ (by unfold sRoom; (repeat' split) <;> first | rfl | omega) dX8_room_67
    · refine z_tableOut (tgt := 68) hx hb ⟨by omega, by omega⟩ dX8_room_14 c3 (by decide) ?_
      refine lv_iconst (v := zI (-1)) hx hb dX8_room_68 rfl ?_
      exact zr_iret hx hb hr hlocks hQ (by unfold sRoom; (repeat' split) <;> first | rfl | omega) dX8_room_69
  · have c2 := bo_f c2
    refine lv_iconst (v := zI (-1)) hx hb dX8_room_11 rfl ?_
    exact zr_iret hx hb hr hlocks hQ (by unfold sRoom; (repeat' split) <;> first | rfl | omega) dX8_room_12
abbrev rm_X8_tenant : Room := { frames := 2, cells := 0, slots := 0, locals := 42 }
set_option maxHeartbeats 4000000 in
set_option maxRecDepth 100000 in
theorem c_X8_tenant (l : Launch) (D : va_G) (cy : Nat → ClassId) (sa : Nat → Nat) (rTx : Nat) (rDr : Nat) (rPa : Nat) (rIm : Nat) (rBk : Nat) (rHo : Nat) (rFi : Nat) (rGr : Nat) (tr : Int) (h : Nat → Nat) (ro : Nat) (te : Nat) (ch : Nat) (pr : Nat → Int) (sl : Nat → Int) (mu : Nat → Int) (wi : Nat → Int) (ak : Nat → Int) (he : Nat → Nat) (li : Nat → Nat) (na : Nat → Nat) (day : Int) (hm : Nat → Int) (tk : Nat → Int) (py : Nat → Int) (db : Nat → Int) (t : Int) (what : Int) (ht0 : inR t) (hw0 : inR what) (hro : ro ≤ 6) (hte : te ≤ 6) (hHB : HB pr sl mu wi ak he li) (hNB : NB hm tk py db) : Met l yX8_tenant wsX8_tenant rm_X8_tenant (pR D cy [((sa 0), .inr (8, [.ref rTx, .ref (h 0), .ref rDr, .ref (na 0), .ref rPa, .ref rIm, .ref rBk, .ref rHo, .ref rFi, .ref rGr, .long (zL tr)])), ((h 0), .inr (2, [.int (zI ((ro : Nat) : Int)), .int (zI ((te : Nat) : Int)), .int (zI ((ch : Nat) : Int)), .ref (h 1), .ref (h 2), .ref (h 3), .ref (h 4), .ref (h 5), .ref (h 6), .ref (h 7)])), ((h 1), .inl (cy 0, 6, .inl (zA pr))), ((h 2), .inl (cy 0, 6, .inl (zA sl))), ((h 3), .inl (cy 0, 6, .inl (zA mu))), ((h 4), .inl (cy 0, 6, .inl (zA wi))), ((h 5), .inl (cy 0, 6, .inl (zA ak))), ((h 6), .inl (cy 0, 6, .inl (zA (fun j => ((he j : Nat) : Int))))), ((h 7), .inl (cy 0, 5, .inl (zA (fun j => ((li j : Nat) : Int))))), ((na 0), .inr (5, [.int (zI day), .ref (na 1), .ref (na 2), .ref (na 3), .ref (na 4)])), ((na 1), .inl (cy 0, 6, .inl (zA hm))), ((na 2), .inl (cy 0, 6, .inl (zA tk))), ((na 3), .inl (cy 0, 6, .inl (zA py))), ((na 4), .inl (cy 0, 6, .inl (zA db)))] [.ref (sa 0), .int (zI t), .int (zI what)]) (qR (sTen sl mu wi ak he hm tk py db te t what)) 0 0 (fun _ => False) := by
  refine met_R (cc := cX8_tenant) (maxL := 3) (ret := (some .int)) RX8 (by decide) rfl rfl (Nat.le_of_ble_eq_true rfl) ?_
  intro p e s m args below meth c ls Q hx hb hr hml hts hown hlocks hQ hP hK hl
  have hl : lv_has ls 3 [(0, .ref (sa 0)), (1, .int (zI t)), (2, .int (zI what))] := hl
  have hinX2 : ∀ w ∈ wsX20, w ∈ wsX8_tenant := (fun w h => List.mem_cons_of_mem _ (List.mem_append_left _ (List.mem_append_right _ h)))
  have hinX5 : ∀ w ∈ wsX50, w ∈ wsX8_tenant := (fun w h => List.mem_cons_of_mem _ (List.mem_append_right _ h))
  have hinX8 : ∀ w ∈ wsX80, w ∈ wsX8_tenant := (fun w h => List.mem_cons_of_mem _ (List.mem_append_left _ (List.mem_append_left _ (List.mem_append_right _ h))))
  refine lv_aload_n hx hb dX8_tenant_0 rfl (lv_at hl 0 rfl) ?_
  refine va_get (D := D) (ci := 8) (v := .ref (h 0)) (C := RX8) (T := TX8) (N := 11) hx hb hts hinX8 hown hK hP 0 rfl rfl 1 (by decide) (hts (.fieldLink RX8 19 "SilentRent" "built" "LSilentRent$House;") (List.mem_of_getElem? (i := 1) rfl)) (fun _ h9 => h9) rfl dX8_tenant_1 ?_
  refine lv_iload_n hx hb dX8_tenant_4 rfl (lv_at hl 1 rfl) ?_
  have hPc1 := hP.sub (ws' := [((h 0), .inr (2, [.int (zI ((ro : Nat) : Int)), .int (zI ((te : Nat) : Int)), .int (zI ((ch : Nat) : Int)), .ref (h 1), .ref (h 2), .ref (h 3), .ref (h 4), .ref (h 5), .ref (h 6), .ref (h 7)])), ((h 1), .inl (cy 0, 6, .inl (zA pr))), ((h 2), .inl (cy 0, 6, .inl (zA sl))), ((h 3), .inl (cy 0, 6, .inl (zA mu))), ((h 4), .inl (cy 0, 6, .inl (zA wi))), ((h 5), .inl (cy 0, 6, .inl (zA ak))), ((h 6), .inl (cy 0, 6, .inl (zA (fun j => ((he j : Nat) : Int))))), ((h 7), .inl (cy 0, 5, .inl (zA (fun j => ((li j : Nat) : Int)))))]) [1, 2, 3, 4, 5, 6, 7, 8] rfl
  refine zr_callV (rest := []) (As := [.int (zI t)]) (v := (if 0 ≤ t ∧ t < ((te : Nat) : Int) then 1 else 0)) ⟨hx, hb, hml, hown, hts⟩ (c_X2_hasTenant l D cy h ro te ch pr sl mu wi ak he li t (by omega) (by omega)) (cwV 1 hts gX8_tenant_X2_hasTenant rfl rfl rfl (by decide +kernel) ⟨Nat.le_of_ble_eq_true rfl, Nat.le_of_ble_eq_true rfl⟩) hK hPc1 0 2 rfl rfl rfl hl.1 rfl (Nat.le_of_ble_eq_true rfl) dX8_tenant_5 ⟨Nat.zero_le _, Nat.zero_le _⟩ ?_
  refine z_if_ne (tgt := 13) hx hb bo_r dX8_tenant_8 (by decide) (fun c2 => ?_) (fun c2 => ?_)
  · have c2 := bo_t c2
    refine lv_iload_n hx hb dX8_tenant_13 rfl (lv_at hl 2 rfl) ?_
    rcases (show what = 0 ∨ what = 1 ∨ what = 2 ∨ what = 3 ∨ what = 4 ∨ what = 5 ∨ what = 6 ∨ what = 7 ∨ what = 8 ∨ what = 9 ∨ (what < 0 ∨ 9 < what) from by omega) with c3 | c3 | c3 | c3 | c3 | c3 | c3 | c3 | c3 | c3 | c3
    · refine z_tableIn (tgt := 68) hx hb 0 c3 ⟨by decide, by decide⟩ dX8_tenant_14 (by decide) (by decide) rfl (by decide) ?_
      refine lv_aload_n hx hb dX8_tenant_68 rfl (lv_at hl 0 rfl) ?_
      refine va_get (D := D) (ci := 8) (v := .ref (h 0)) (C := RX8) (T := TX8) (N := 11) hx hb hts hinX8 hown hK hP 0 rfl rfl 1 (by decide) (hts (.fieldLink RX8 19 "SilentRent" "built" "LSilentRent$House;") (List.mem_of_getElem? (i := 1) rfl)) (fun _ h9 => h9) rfl dX8_tenant_69 ?_
      refine va_get (D := D) (ci := 2) (v := .ref (h 2)) (C := RX2) (T := TX2) (N := 10) hx hb hts hinX2 hown hK hP 1 rfl rfl 4 (by decide) (hts (.fieldLink RX8 111 "SilentRent$House" "sleep" "[I") (List.mem_of_getElem? (i := 2) rfl)) (fun _ h9 => h9) rfl dX8_tenant_72 ?_
      refine lv_iload_n hx hb dX8_tenant_75 rfl (lv_at hl 1 rfl) ?_
      refine z_iald hx hb hK hP 3 0 (f := sl) rfl rfl t.toNat (by omega) (by omega) (by decide) dX8_tenant_76 ?_
      have hb4 := hHB.2.1 t.toNat
      exact zr_iret hx hb hr hlocks hQ (by unfold sTen; (repeat' split) <;> first | rfl | omega) dX8_tenant_77
    · refine z_tableIn (tgt := 78) hx hb 1 c3 ⟨by decide, by decide⟩ dX8_tenant_14 (by decide) (by decide) rfl (by decide) ?_
      refine lv_aload_n hx hb dX8_tenant_78 rfl (lv_at hl 0 rfl) ?_
      refine va_get (D := D) (ci := 8) (v := .ref (h 0)) (C := RX8) (T := TX8) (N := 11) hx hb hts hinX8 hown hK hP 0 rfl rfl 1 (by decide) (hts (.fieldLink RX8 19 "SilentRent" "built" "LSilentRent$House;") (List.mem_of_getElem? (i := 1) rfl)) (fun _ h9 => h9) rfl dX8_tenant_79 ?_
      refine va_get (D := D) (ci := 2) (v := .ref (h 3)) (C := RX2) (T := TX2) (N := 10) hx hb hts hinX2 hown hK hP 1 rfl rfl 5 (by decide) (hts (.fieldLink RX8 114 "SilentRent$House" "must" "[I") (List.mem_of_getElem? (i := 3) rfl)) (fun _ h9 => h9) rfl dX8_tenant_82 ?_
      refine lv_iload_n hx hb dX8_tenant_85 rfl (lv_at hl 1 rfl) ?_
      refine z_iald hx hb hK hP 4 0 (f := mu) rfl rfl t.toNat (by omega) (by omega) (by decide) dX8_tenant_86 ?_
      have hb5 := hHB.2.2.1 t.toNat
      exact zr_iret hx hb hr hlocks hQ (by unfold sTen; (repeat' split) <;> first | rfl | omega) dX8_tenant_87
    · refine z_tableIn (tgt := 88) hx hb 2 c3 ⟨by decide, by decide⟩ dX8_tenant_14 (by decide) (by decide) rfl (by decide) ?_
      refine lv_aload_n hx hb dX8_tenant_88 rfl (lv_at hl 0 rfl) ?_
      refine va_get (D := D) (ci := 8) (v := .ref (h 0)) (C := RX8) (T := TX8) (N := 11) hx hb hts hinX8 hown hK hP 0 rfl rfl 1 (by decide) (hts (.fieldLink RX8 19 "SilentRent" "built" "LSilentRent$House;") (List.mem_of_getElem? (i := 1) rfl)) (fun _ h9 => h9) rfl dX8_tenant_89 ?_
      refine va_get (D := D) (ci := 2) (v := .ref (h 4)) (C := RX2) (T := TX2) (N := 10) hx hb hts hinX2 hown hK hP 1 rfl rfl 6 (by decide) (hts (.fieldLink RX8 117 "SilentRent$House" "wits" "[I") (List.mem_of_getElem? (i := 4) rfl)) (fun _ h9 => h9) rfl dX8_tenant_92 ?_
      refine lv_iload_n hx hb dX8_tenant_95 rfl (lv_at hl 1 rfl) ?_
      refine z_iald hx hb hK hP 5 0 (f := wi) rfl rfl t.toNat (by omega) (by omega) (by decide) dX8_tenant_96 ?_
      have hb6 := hHB.2.2.2.1 t.toNat
      exact zr_iret hx hb hr hlocks hQ (by unfold sTen; (repeat' split) <;> first | rfl | omega) dX8_tenant_97
    · refine z_tableIn (tgt := 98) hx hb 3 c3 ⟨by decide, by decide⟩ dX8_tenant_14 (by decide) (by decide) rfl (by decide) ?_
      refine lv_aload_n hx hb dX8_tenant_98 rfl (lv_at hl 0 rfl) ?_
      refine va_get (D := D) (ci := 8) (v := .ref (h 0)) (C := RX8) (T := TX8) (N := 11) hx hb hts hinX8 hown hK hP 0 rfl rfl 1 (by decide) (hts (.fieldLink RX8 19 "SilentRent" "built" "LSilentRent$House;") (List.mem_of_getElem? (i := 1) rfl)) (fun _ h9 => h9) rfl dX8_tenant_99 ?_
      refine va_get (D := D) (ci := 2) (v := .ref (h 5)) (C := RX2) (T := TX2) (N := 10) hx hb hts hinX2 hown hK hP 1 rfl rfl 7 (by decide) (hts (.fieldLink RX8 120 "SilentRent$House" "asks" "[I") (List.mem_of_getElem? (i := 5) rfl)) (fun _ h9 => h9) rfl dX8_tenant_102 ?_
      refine lv_iload_n hx hb dX8_tenant_105 rfl (lv_at hl 1 rfl) ?_
      refine z_iald hx hb hK hP 6 0 (f := ak) rfl rfl t.toNat (by omega) (by omega) (by decide) dX8_tenant_106 ?_
      have hb7 := hHB.2.2.2.2.1 t.toNat
      exact zr_iret hx hb hr hlocks hQ (by unfold sTen; (repeat' split) <;> first | rfl | omega) dX8_tenant_107
    · refine z_tableIn (tgt := 108) hx hb 4 c3 ⟨by decide, by decide⟩ dX8_tenant_14 (by decide) (by decide) rfl (by decide) ?_
      refine lv_aload_n hx hb dX8_tenant_108 rfl (lv_at hl 0 rfl) ?_
      refine va_get (D := D) (ci := 8) (v := .ref (na 0)) (C := RX8) (T := TX8) (N := 11) hx hb hts hinX8 hown hK hP 0 rfl rfl 3 (by decide) (hts (.fieldLink RX8 29 "SilentRent" "now" "LSilentRent$Now;") (List.mem_of_getElem? (i := 6) rfl)) (fun _ h9 => h9) rfl dX8_tenant_109 ?_
      refine va_get (D := D) (ci := 5) (v := .ref (na 1)) (C := RX5) (T := TX5) (N := 5) hx hb hts hinX5 hown hK hP 9 rfl rfl 1 (by decide) (hts (.fieldLink RX8 123 "SilentRent$Now" "home" "[I") (List.mem_of_getElem? (i := 7) rfl)) (fun _ h9 => h9) rfl dX8_tenant_112 ?_
      refine lv_iload_n hx hb dX8_tenant_115 rfl (lv_at hl 1 rfl) ?_
      refine z_iald hx hb hK hP 10 0 (f := hm) rfl rfl t.toNat (by omega) (by omega) (by decide) dX8_tenant_116 ?_
      have hb8 := hNB.1 t.toNat
      exact zr_iret hx hb hr hlocks hQ (by unfold sTen; (repeat' split) <;> first | rfl | omega) dX8_tenant_117
    · refine z_tableIn (tgt := 118) hx hb 5 c3 ⟨by decide, by decide⟩ dX8_tenant_14 (by decide) (by decide) rfl (by decide) ?_
      refine lv_aload_n hx hb dX8_tenant_118 rfl (lv_at hl 0 rfl) ?_
      refine va_get (D := D) (ci := 8) (v := .ref (na 0)) (C := RX8) (T := TX8) (N := 11) hx hb hts hinX8 hown hK hP 0 rfl rfl 3 (by decide) (hts (.fieldLink RX8 29 "SilentRent" "now" "LSilentRent$Now;") (List.mem_of_getElem? (i := 6) rfl)) (fun _ h9 => h9) rfl dX8_tenant_119 ?_
      refine va_get (D := D) (ci := 5) (v := .ref (na 2)) (C := RX5) (T := TX5) (N := 5) hx hb hts hinX5 hown hK hP 9 rfl rfl 2 (by decide) (hts (.fieldLink RX8 126 "SilentRent$Now" "talked" "[I") (List.mem_of_getElem? (i := 8) rfl)) (fun _ h9 => h9) rfl dX8_tenant_122 ?_
      refine lv_iload_n hx hb dX8_tenant_125 rfl (lv_at hl 1 rfl) ?_
      refine z_iald hx hb hK hP 11 0 (f := tk) rfl rfl t.toNat (by omega) (by omega) (by decide) dX8_tenant_126 ?_
      have hb9 := hNB.2.1 t.toNat
      exact zr_iret hx hb hr hlocks hQ (by unfold sTen; (repeat' split) <;> first | rfl | omega) dX8_tenant_127
    · refine z_tableIn (tgt := 128) hx hb 6 c3 ⟨by decide, by decide⟩ dX8_tenant_14 (by decide) (by decide) rfl (by decide) ?_
      refine lv_aload_n hx hb dX8_tenant_128 rfl (lv_at hl 0 rfl) ?_
      refine va_get (D := D) (ci := 8) (v := .ref (na 0)) (C := RX8) (T := TX8) (N := 11) hx hb hts hinX8 hown hK hP 0 rfl rfl 3 (by decide) (hts (.fieldLink RX8 29 "SilentRent" "now" "LSilentRent$Now;") (List.mem_of_getElem? (i := 6) rfl)) (fun _ h9 => h9) rfl dX8_tenant_129 ?_
      refine va_get (D := D) (ci := 5) (v := .ref (na 3)) (C := RX5) (T := TX5) (N := 5) hx hb hts hinX5 hown hK hP 9 rfl rfl 3 (by decide) (hts (.fieldLink RX8 129 "SilentRent$Now" "pays" "[I") (List.mem_of_getElem? (i := 9) rfl)) (fun _ h9 => h9) rfl dX8_tenant_132 ?_
      refine lv_iload_n hx hb dX8_tenant_135 rfl (lv_at hl 1 rfl) ?_
      refine z_iald hx hb hK hP 12 0 (f := py) rfl rfl t.toNat (by omega) (by omega) (by decide) dX8_tenant_136 ?_
      have hb10 := hNB.2.2.1 t.toNat
      exact zr_iret hx hb hr hlocks hQ (by unfold sTen; (repeat' split) <;> first | rfl | omega) dX8_tenant_137
    · refine z_tableIn (tgt := 138) hx hb 7 c3 ⟨by decide, by decide⟩ dX8_tenant_14 (by decide) (by decide) rfl (by decide) ?_
      refine lv_aload_n hx hb dX8_tenant_138 rfl (lv_at hl 0 rfl) ?_
      refine va_get (D := D) (ci := 8) (v := .ref (na 0)) (C := RX8) (T := TX8) (N := 11) hx hb hts hinX8 hown hK hP 0 rfl rfl 3 (by decide) (hts (.fieldLink RX8 29 "SilentRent" "now" "LSilentRent$Now;") (List.mem_of_getElem? (i := 6) rfl)) (fun _ h9 => h9) rfl dX8_tenant_139 ?_
      refine va_get (D := D) (ci := 5) (v := .ref (na 4)) (C := RX5) (T := TX5) (N := 5) hx hb hts hinX5 hown hK hP 9 rfl rfl 4 (by decide) (hts (.fieldLink RX8 132 "SilentRent$Now" "debt" "[I") (List.mem_of_getElem? (i := 10) rfl)) (fun _ h9 => h9) rfl dX8_tenant_142 ?_
      refine lv_iload_n hx hb dX8_tenant_145 rfl (lv_at hl 1 rfl) ?_
      refine z_iald hx hb hK hP 13 0 (f := db) rfl rfl t.toNat (by omega) (by omega) (by decide) dX8_tenant_146 ?_
      have hb11 := hNB.2.2.2 t.toNat
      exact zr_iret hx hb hr hlocks hQ (by unfold sTen; (repeat' split) <;> first | rfl | omega) dX8_tenant_147
    · refine z_tableIn (tgt := 148) hx hb 8 c3 ⟨by decide, by decide⟩ dX8_tenant_14 (by decide) (by decide) rfl (by decide) ?_
      refine lv_aload_n hx hb dX8_tenant_148 rfl (lv_at hl 0 rfl) ?_
      refine lv_iload_n hx hb dX8_tenant_149 rfl (lv_at hl 1 rfl) ?_
      refine zr_callV (rest := []) (As := [.int (zI t)]) (v := (max 0 (24 - sl t.toNat - py t.toNat))) ⟨hx, hb, hml, hown, hts⟩ (c_X8_silentHours l D cy sa rTx rDr rPa rIm rBk rHo rFi rGr tr h ro te ch pr sl mu wi ak he li na day hm tk py db t (by omega) hHB hNB) (cwV 1 hts gX8_tenant_X8_silentHours rfl rfl rfl (by decide +kernel) ⟨Nat.le_of_ble_eq_true rfl, Nat.le_of_ble_eq_true rfl⟩) hK hP 0 8 rfl rfl rfl hl.1 rfl (Nat.le_of_ble_eq_true rfl) dX8_tenant_150 ⟨Nat.zero_le _, Nat.zero_le _⟩ ?_
      exact zr_iret hx hb hr hlocks hQ (by unfold sTen; (repeat' split) <;> first | rfl | omega) dX8_tenant_153
    · refine z_tableIn (tgt := 154) hx hb 9 c3 ⟨by decide, by decide⟩ dX8_tenant_14 (by decide) (by decide) rfl (by decide) ?_
      refine lv_aload_n hx hb dX8_tenant_154 rfl (lv_at hl 0 rfl) ?_
      refine va_get (D := D) (ci := 8) (v := .ref (h 0)) (C := RX8) (T := TX8) (N := 11) hx hb hts hinX8 hown hK hP 0 rfl rfl 1 (by decide) (hts (.fieldLink RX8 19 "SilentRent" "built" "LSilentRent$House;") (List.mem_of_getElem? (i := 1) rfl)) (fun _ h9 => h9) rfl dX8_tenant_155 ?_
      refine va_get (D := D) (ci := 2) (v := .ref (h 6)) (C := RX2) (T := TX2) (N := 10) hx hb hts hinX2 hown hK hP 1 rfl rfl 8 (by decide) (hts (.fieldLink RX8 138 "SilentRent$House" "hears" "[I") (List.mem_of_getElem? (i := 11) rfl)) (fun _ h9 => h9) rfl dX8_tenant_158 ?_
      refine lv_iload_n hx hb dX8_tenant_161 rfl (lv_at hl 1 rfl) ?_
      refine z_iald hx hb hK hP 7 0 (f := (fun j => ((he j : Nat) : Int))) rfl rfl t.toNat (by omega) (by omega) (by decide) dX8_tenant_162 ?_
      have hb12 := hHB.2.2.2.2.2.1 t.toNat
      exact zr_iret hx hb hr hlocks hQ (by unfold sTen; (repeat' split) <;> first | rfl | omega) dX8_tenant_163
    · refine z_tableOut (tgt := 164) hx hb ⟨by omega, by omega⟩ dX8_tenant_14 c3 (by decide) ?_
      refine lv_iconst (v := zI (-1)) hx hb dX8_tenant_164 rfl ?_
      exact zr_iret hx hb hr hlocks hQ (by unfold sTen; (repeat' split) <;> first | rfl | omega) dX8_tenant_165
  · have c2 := bo_f c2
    refine lv_iconst (v := zI (-1)) hx hb dX8_tenant_11 rfl ?_
    exact zr_iret hx hb hr hlocks hQ (by unfold sTen; (repeat' split) <;> first | rfl | omega) dX8_tenant_12
abbrev rm_X8_chair : Room := { frames := 1, cells := 0, slots := 0, locals := 21 }
set_option maxHeartbeats 4000000 in
set_option maxRecDepth 100000 in
theorem c_X8_chair (l : Launch) (D : va_G) (cy : Nat → ClassId) (sa : Nat → Nat) (rTx : Nat) (rDr : Nat) (rNo : Nat) (rPa : Nat) (rIm : Nat) (rBk : Nat) (rHo : Nat) (rFi : Nat) (rGr : Nat) (tr : Int) (h : Nat → Nat) (ro : Nat) (te : Nat) (ch : Nat) (pr : Nat → Int) (sl : Nat → Int) (mu : Nat → Int) (wi : Nat → Int) (ak : Nat → Int) (he : Nat → Nat) (li : Nat → Nat) (k0 : Int) (hk0 : inR k0) (hte : te ≤ 6) (hch : ch ≤ 5) (hHB : HB pr sl mu wi ak he li) : Met l yX8_chair wsX8_chair rm_X8_chair (pR D cy [((sa 0), .inr (8, [.ref rTx, .ref (h 0), .ref rDr, .ref rNo, .ref rPa, .ref rIm, .ref rBk, .ref rHo, .ref rFi, .ref rGr, .long (zL tr)])), ((h 0), .inr (2, [.int (zI ((ro : Nat) : Int)), .int (zI ((te : Nat) : Int)), .int (zI ((ch : Nat) : Int)), .ref (h 1), .ref (h 2), .ref (h 3), .ref (h 4), .ref (h 5), .ref (h 6), .ref (h 7)])), ((h 1), .inl (cy 0, 6, .inl (zA pr))), ((h 2), .inl (cy 0, 6, .inl (zA sl))), ((h 3), .inl (cy 0, 6, .inl (zA mu))), ((h 4), .inl (cy 0, 6, .inl (zA wi))), ((h 5), .inl (cy 0, 6, .inl (zA ak))), ((h 6), .inl (cy 0, 6, .inl (zA (fun j => ((he j : Nat) : Int))))), ((h 7), .inl (cy 0, 5, .inl (zA (fun j => ((li j : Nat) : Int)))))] [.ref (sa 0), .int (zI k0)]) (qR (if 0 ≤ k0 ∧ k0 < (ch : Int) then ((li k0.toNat &&& (2 ^ te - 1) : Nat) : Int) else -1)) 0 0 (fun _ => False) := by
  refine met_R (cc := cX8_chair) (maxL := 2) (ret := (some .int)) RX8 (by decide) rfl rfl (Nat.le_of_ble_eq_true rfl) ?_
  intro p e s m args below meth c ls Q hx hb hr hml hts hown hlocks hQ hP hK hl
  have hl : lv_has ls 2 [(0, .ref (sa 0)), (1, .int (zI k0))] := hl
  have hinX2 : ∀ w ∈ wsX20, w ∈ wsX8_chair := (fun w h => List.mem_cons_of_mem _ (List.mem_append_right _ h))
  have hinX8 : ∀ w ∈ wsX80, w ∈ wsX8_chair := (fun w h => List.mem_cons_of_mem _ (List.mem_append_left _ (List.mem_append_right _ h)))
  have hpw := pow_le64 te (by omega)
  refine lv_aload_n hx hb dX8_chair_0 rfl (lv_at hl 0 rfl) ?_
  refine va_get (D := D) (ci := 8) (v := .ref (h 0)) (C := RX8) (T := TX8) (N := 11) hx hb hts hinX8 hown hK hP 0 rfl rfl 1 (by decide) (hts (.fieldLink RX8 19 "SilentRent" "built" "LSilentRent$House;") (List.mem_of_getElem? (i := 1) rfl)) (fun _ h9 => h9) rfl dX8_chair_1 ?_
  refine lv_iload_n hx hb dX8_chair_4 rfl (lv_at hl 1 rfl) ?_
  have hPc1 := hP.sub (ws' := [((h 0), .inr (2, [.int (zI ((ro : Nat) : Int)), .int (zI ((te : Nat) : Int)), .int (zI ((ch : Nat) : Int)), .ref (h 1), .ref (h 2), .ref (h 3), .ref (h 4), .ref (h 5), .ref (h 6), .ref (h 7)])), ((h 1), .inl (cy 0, 6, .inl (zA pr))), ((h 2), .inl (cy 0, 6, .inl (zA sl))), ((h 3), .inl (cy 0, 6, .inl (zA mu))), ((h 4), .inl (cy 0, 6, .inl (zA wi))), ((h 5), .inl (cy 0, 6, .inl (zA ak))), ((h 6), .inl (cy 0, 6, .inl (zA (fun j => ((he j : Nat) : Int))))), ((h 7), .inl (cy 0, 5, .inl (zA (fun j => ((li j : Nat) : Int)))))]) [1, 2, 3, 4, 5, 6, 7, 8] rfl
  refine zr_callV (rest := []) (As := [.int (zI k0)]) (v := (if 0 ≤ k0 ∧ k0 < ((ch : Nat) : Int) then 1 else 0)) ⟨hx, hb, hml, hown, hts⟩ (c_X2_hasChair l D cy h ro te ch pr sl mu wi ak he li k0 (by omega) (by omega)) (cwV 1 hts gX8_chair_X2_hasChair rfl rfl rfl (by decide +kernel) ⟨Nat.le_of_ble_eq_true rfl, Nat.le_of_ble_eq_true rfl⟩) hK hPc1 0 2 rfl rfl rfl hl.1 rfl (Nat.le_of_ble_eq_true rfl) dX8_chair_5 ⟨Nat.zero_le _, Nat.zero_le _⟩ ?_
  refine z_if_ne (tgt := 13) hx hb bo_r dX8_chair_8 (by decide) (fun c2 => ?_) (fun c2 => ?_)
  · have c2 := bo_t c2
    refine lv_aload_n hx hb dX8_chair_13 rfl (lv_at hl 0 rfl) ?_
    refine va_get (D := D) (ci := 8) (v := .ref (h 0)) (C := RX8) (T := TX8) (N := 11) hx hb hts hinX8 hown hK hP 0 rfl rfl 1 (by decide) (hts (.fieldLink RX8 19 "SilentRent" "built" "LSilentRent$House;") (List.mem_of_getElem? (i := 1) rfl)) (fun _ h9 => h9) rfl dX8_chair_14 ?_
    refine va_get (D := D) (ci := 2) (v := .ref (h 7)) (C := RX2) (T := TX2) (N := 10) hx hb hts hinX2 hown hK hP 1 rfl rfl 9 (by decide) (hts (.fieldLink RX8 144 "SilentRent$House" "lips" "[I") (List.mem_of_getElem? (i := 2) rfl)) (fun _ h9 => h9) rfl dX8_chair_17 ?_
    refine lv_iload_n hx hb dX8_chair_20 rfl (lv_at hl 1 rfl) ?_
    refine z_iald hx hb hK hP 8 0 (f := (fun j => ((li j : Nat) : Int))) rfl rfl k0.toNat (by omega) (by omega) (by decide) dX8_chair_21 ?_
    have hb3 := hHB.2.2.2.2.2.2 k0.toNat
    refine lv_aload_n hx hb dX8_chair_22 rfl (lv_at hl 0 rfl) ?_
    refine va_get (D := D) (ci := 8) (v := .ref (h 0)) (C := RX8) (T := TX8) (N := 11) hx hb hts hinX8 hown hK hP 0 rfl rfl 1 (by decide) (hts (.fieldLink RX8 19 "SilentRent" "built" "LSilentRent$House;") (List.mem_of_getElem? (i := 1) rfl)) (fun _ h9 => h9) rfl dX8_chair_23 ?_
    have hPc4 := hP.sub (ws' := [((h 0), .inr (2, [.int (zI ((ro : Nat) : Int)), .int (zI ((te : Nat) : Int)), .int (zI ((ch : Nat) : Int)), .ref (h 1), .ref (h 2), .ref (h 3), .ref (h 4), .ref (h 5), .ref (h 6), .ref (h 7)])), ((h 1), .inl (cy 0, 6, .inl (zA pr))), ((h 2), .inl (cy 0, 6, .inl (zA sl))), ((h 3), .inl (cy 0, 6, .inl (zA mu))), ((h 4), .inl (cy 0, 6, .inl (zA wi))), ((h 5), .inl (cy 0, 6, .inl (zA ak))), ((h 6), .inl (cy 0, 6, .inl (zA (fun j => ((he j : Nat) : Int))))), ((h 7), .inl (cy 0, 5, .inl (zA (fun j => ((li j : Nat) : Int)))))]) [1, 2, 3, 4, 5, 6, 7, 8] rfl
    refine zr_callV (rest := [.int (zI ((li k0.toNat : Nat) : Int))]) (As := []) (v := ((2 ^ te - 1 : Nat) : Int)) ⟨hx, hb, hml, hown, hts⟩ (c_X2_everybody l D cy h ro te ch pr sl mu wi ak he li (by omega)) (cwV 0 hts gX8_chair_X2_everybody rfl rfl rfl (by decide +kernel) ⟨Nat.le_of_ble_eq_true rfl, Nat.le_of_ble_eq_true rfl⟩) hK hPc4 0 2 rfl rfl rfl hl.1 rfl (Nat.le_of_ble_eq_true rfl) dX8_chair_26 ⟨Nat.zero_le _, Nat.zero_le _⟩ ?_
    have hq5 : (li k0.toNat) &&& (2 ^ te - 1) ≤ (li k0.toNat) := Nat.and_le_left
    refine z_iand (r := (((li k0.toNat) &&& (2 ^ te - 1) : Nat) : Int)) hx hb (zI_and (a := li k0.toNat) (b := 2 ^ te - 1) (by omega) (by omega)) dX8_chair_29 ?_
    exact zr_iret hx hb hr hlocks hQ (by first | exact (if_pos (by omega)).symm | exact (if_neg (by omega)).symm) dX8_chair_30
  · have c2 := bo_f c2
    refine lv_iconst (v := zI (-1)) hx hb dX8_chair_11 rfl ?_
    exact zr_iret hx hb hr hlocks hQ (by first | exact (if_pos (by omega)).symm | exact (if_neg (by omega)).symm) dX8_chair_12
abbrev rm_X8_now : Room := { frames := 4, cells := 0, slots := 0, locals := 86 }
set_option maxHeartbeats 4000000 in
set_option maxRecDepth 100000 in
theorem c_X8_now (l : Launch) (D : va_G) (cy : Nat → ClassId) (sa : Nat → Nat) (rTx : Nat) (rDr : Nat) (rPa : Nat) (rIm : Nat) (rBk : Nat) (rHo : Nat) (rFi : Nat) (rGr : Nat) (tr : Int) (h : Nat → Nat) (ro : Nat) (te : Nat) (ch : Nat) (pr : Nat → Int) (sl : Nat → Int) (mu : Nat → Int) (wi : Nat → Int) (ak : Nat → Int) (he : Nat → Nat) (li : Nat → Nat) (na : Nat → Nat) (day : Int) (hm : Nat → Int) (tk : Nat → Int) (py : Nat → Int) (db : Nat → Int) (what : Int) (hw0 : inR what) (hro : ro ≤ 6) (hte : te ≤ 6) (hHB : HB pr sl mu wi ak he li) (hNB : NB hm tk py db) : Met l yX8_now wsX8_now rm_X8_now (pR D cy [((sa 0), .inr (8, [.ref rTx, .ref (h 0), .ref rDr, .ref (na 0), .ref rPa, .ref rIm, .ref rBk, .ref rHo, .ref rFi, .ref rGr, .long (zL tr)])), ((h 0), .inr (2, [.int (zI ((ro : Nat) : Int)), .int (zI ((te : Nat) : Int)), .int (zI ((ch : Nat) : Int)), .ref (h 1), .ref (h 2), .ref (h 3), .ref (h 4), .ref (h 5), .ref (h 6), .ref (h 7)])), ((h 1), .inl (cy 0, 6, .inl (zA pr))), ((h 2), .inl (cy 0, 6, .inl (zA sl))), ((h 3), .inl (cy 0, 6, .inl (zA mu))), ((h 4), .inl (cy 0, 6, .inl (zA wi))), ((h 5), .inl (cy 0, 6, .inl (zA ak))), ((h 6), .inl (cy 0, 6, .inl (zA (fun j => ((he j : Nat) : Int))))), ((h 7), .inl (cy 0, 5, .inl (zA (fun j => ((li j : Nat) : Int))))), ((na 0), .inr (5, [.int (zI day), .ref (na 1), .ref (na 2), .ref (na 3), .ref (na 4)])), ((na 1), .inl (cy 0, 6, .inl (zA hm))), ((na 2), .inl (cy 0, 6, .inl (zA tk))), ((na 3), .inl (cy 0, 6, .inl (zA py))), ((na 4), .inl (cy 0, 6, .inl (zA db)))] [.ref (sa 0), .int (zI what)]) (qR (sNow pr sl mu day hm db ro te what)) 0 0 (fun _ => False) := by
  refine met_R (cc := cX8_now) (maxL := 2) (ret := (some .int)) RX8 (by decide) rfl rfl (Nat.le_of_ble_eq_true rfl) ?_
  intro p e s m args below meth c ls Q hx hb hr hml hts hown hlocks hQ hP hK hl
  have hl : lv_has ls 2 [(0, .ref (sa 0)), (1, .int (zI what))] := hl
  have hinX5 : ∀ w ∈ wsX50, w ∈ wsX8_now := (fun w h => List.mem_cons_of_mem _ (List.mem_append_left _ (List.mem_append_right _ h)))
  have hinX8 : ∀ w ∈ wsX80, w ∈ wsX8_now := (fun w h => List.mem_cons_of_mem _ (List.mem_append_left _ (List.mem_append_left _ (List.mem_append_right _ h))))
  refine lv_iload_n hx hb dX8_now_0 rfl (lv_at hl 1 rfl) ?_
  rcases (show what = 0 ∨ what = 1 ∨ what = 2 ∨ what = 3 ∨ what = 4 ∨ (what < 0 ∨ 4 < what) from by omega) with c1 | c1 | c1 | c1 | c1 | c1
  · refine z_tableIn (tgt := 36) hx hb 0 c1 ⟨by decide, by decide⟩ dX8_now_1 (by decide) (by decide) rfl (by decide) ?_
    refine lv_aload_n hx hb dX8_now_36 rfl (lv_at hl 0 rfl) ?_
    refine va_get (D := D) (ci := 8) (v := .ref (na 0)) (C := RX8) (T := TX8) (N := 11) hx hb hts hinX8 hown hK hP 0 rfl rfl 3 (by decide) (hts (.fieldLink RX8 29 "SilentRent" "now" "LSilentRent$Now;") (List.mem_of_getElem? (i := 1) rfl)) (fun _ h9 => h9) rfl dX8_now_37 ?_
    refine va_get (D := D) (ci := 5) (v := .int (zI day)) (C := RX5) (T := TX5) (N := 5) hx hb hts hinX5 hown hK hP 9 rfl rfl 0 (by decide) (hts (.fieldLink RX8 158 "SilentRent$Now" "day" "I") (List.mem_of_getElem? (i := 2) rfl)) (fun _ h9 => h9) rfl dX8_now_40 ?_
    exact zr_iret hx hb hr hlocks hQ (by unfold sNow; (repeat' split) <;> first | rfl | omega) dX8_now_43
  · refine z_tableIn (tgt := 44) hx hb 1 c1 ⟨by decide, by decide⟩ dX8_now_1 (by decide) (by decide) rfl (by decide) ?_
    refine lv_aload_n hx hb dX8_now_44 rfl (lv_at hl 0 rfl) ?_
    refine va_get (D := D) (ci := 8) (v := .ref (na 0)) (C := RX8) (T := TX8) (N := 11) hx hb hts hinX8 hown hK hP 0 rfl rfl 3 (by decide) (hts (.fieldLink RX8 29 "SilentRent" "now" "LSilentRent$Now;") (List.mem_of_getElem? (i := 1) rfl)) (fun _ h9 => h9) rfl dX8_now_45 ?_
    have hPc2 := hP.sub (ws' := [((na 0), .inr (5, [.int (zI day), .ref (na 1), .ref (na 2), .ref (na 3), .ref (na 4)])), ((na 1), .inl (cy 0, 6, .inl (zA hm))), ((na 2), .inl (cy 0, 6, .inl (zA tk))), ((na 3), .inl (cy 0, 6, .inl (zA py))), ((na 4), .inl (cy 0, 6, .inl (zA db)))]) [9, 10, 11, 12, 13] rfl
    refine zr_callV (rest := []) (As := []) (v := (sumI db 6)) ⟨hx, hb, hml, hown, hts⟩ (c_X5_allDebts l D cy na day hm tk py db hNB) (cwV 0 hts gX8_now_X5_allDebts rfl rfl rfl (by decide +kernel) ⟨Nat.le_of_ble_eq_true rfl, Nat.le_of_ble_eq_true rfl⟩) hK hPc2 0 5 rfl rfl rfl hl.1 rfl (Nat.le_of_ble_eq_true rfl) dX8_now_48 ⟨Nat.zero_le _, Nat.zero_le _⟩ ?_
    exact zr_iret hx hb hr hlocks hQ (by unfold sNow; (repeat' split) <;> first | rfl | omega) dX8_now_51
  · refine z_tableIn (tgt := 52) hx hb 2 c1 ⟨by decide, by decide⟩ dX8_now_1 (by decide) (by decide) rfl (by decide) ?_
    refine lv_aload_n hx hb dX8_now_52 rfl (lv_at hl 0 rfl) ?_
    refine zr_callV (rest := []) (As := []) (v := ((bits (fun t => decide (¬ hm t = -9)) te : Nat) : Int)) ⟨hx, hb, hml, hown, hts⟩ (c_X8_dwellers l D cy sa rTx rDr rPa rIm rBk rHo rFi rGr tr h ro te ch pr sl mu wi ak he li na day hm tk py db (by omega) hHB hNB) (cwV 0 hts gX8_now_X8_dwellers rfl rfl rfl (by decide +kernel) ⟨Nat.le_of_ble_eq_true rfl, Nat.le_of_ble_eq_true rfl⟩) hK hP 0 8 rfl rfl rfl hl.1 rfl (Nat.le_of_ble_eq_true rfl) dX8_now_53 ⟨Nat.zero_le _, Nat.zero_le _⟩ ?_
    exact zr_iret hx hb hr hlocks hQ (by unfold sNow; (repeat' split) <;> first | rfl | omega) dX8_now_56
  · refine z_tableIn (tgt := 57) hx hb 3 c1 ⟨by decide, by decide⟩ dX8_now_1 (by decide) (by decide) rfl (by decide) ?_
    refine lv_aload_n hx hb dX8_now_57 rfl (lv_at hl 0 rfl) ?_
    refine zr_callV (rest := []) (As := []) (v := ((bits (fun r => decide (dwl hm r 6 0 = -9)) ro : Nat) : Int)) ⟨hx, hb, hml, hown, hts⟩ (c_X8_emptyRooms l D cy sa rTx rDr rPa rIm rBk rHo rFi rGr tr h ro te ch pr sl mu wi ak he li na day hm tk py db (by omega) hHB hNB) (cwV 0 hts gX8_now_X8_emptyRooms rfl rfl rfl (by decide +kernel) ⟨Nat.le_of_ble_eq_true rfl, Nat.le_of_ble_eq_true rfl⟩) hK hP 0 8 rfl rfl rfl hl.1 rfl (Nat.le_of_ble_eq_true rfl) dX8_now_58 ⟨Nat.zero_le _, Nat.zero_le _⟩ ?_
    exact zr_iret hx hb hr hlocks hQ (by unfold sNow; (repeat' split) <;> first | rfl | omega) dX8_now_61
  · refine z_tableIn (tgt := 62) hx hb 4 c1 ⟨by decide, by decide⟩ dX8_now_1 (by decide) (by decide) rfl (by decide) ?_
    refine lv_aload_n hx hb dX8_now_62 rfl (lv_at hl 0 rfl) ?_
    refine zr_callV (rest := []) (As := []) (v := ((bits (fun t => decide (spr hm pr sl mu ro t < 0)) te : Nat) : Int)) ⟨hx, hb, hml, hown, hts⟩ (c_X8_lackingDwellers l D cy sa rTx rDr rPa rIm rBk rHo rFi rGr tr h ro te ch pr sl mu wi ak he li na day hm tk py db (by omega) (by omega) hHB hNB) (cwV 0 hts gX8_now_X8_lackingDwellers rfl rfl rfl (by decide +kernel) ⟨Nat.le_of_ble_eq_true rfl, Nat.le_of_ble_eq_true rfl⟩) hK hP 0 8 rfl rfl rfl hl.1 rfl (Nat.le_of_ble_eq_true rfl) dX8_now_63 ⟨Nat.zero_le _, Nat.zero_le _⟩ ?_
    exact zr_iret hx hb hr hlocks hQ (by unfold sNow; (repeat' split) <;> first | rfl | omega) dX8_now_66
  · refine z_tableOut (tgt := 67) hx hb ⟨by omega, by omega⟩ dX8_now_1 c1 (by decide) ?_
    refine lv_iconst (v := zI (-1)) hx hb dX8_now_67 rfl ?_
    exact zr_iret hx hb hr hlocks hQ (by unfold sNow; (repeat' split) <;> first | rfl | omega) dX8_now_68
abbrev rm_X8_count : Room := { frames := 0, cells := 0, slots := 0, locals := 0 }
set_option maxHeartbeats 4000000 in
set_option maxRecDepth 100000 in
theorem c_X8_count (l : Launch) (D : va_G) (cy : Nat → ClassId) (sa : Nat → Nat) (rDr : Nat) (rNo : Nat) (rIm : Nat) (rHo : Nat) (rFi : Nat) (rGr : Nat) (tr : Int) (h : Nat → Nat) (ro : Nat) (te : Nat) (ch : Nat) (pr : Nat → Int) (sl : Nat → Int) (mu : Nat → Int) (wi : Nat → Int) (ak : Nat → Int) (he : Nat → Nat) (li : Nat → Nat) (ba : Nat → Nat) (ln : Nat) (wh : Nat → Nat) (lk : Nat → Int) (pa : Nat → Nat) (kn : Nat) (rSt : Nat) (xa : Nat → Nat) (xt : Nat → Int) (xl : Nat) (xn : Nat) (xs : Nat) (xk : Int) (xv : Int) (what : Int) (hw0 : inR what) : Met l yX8_count wsX8_count rm_X8_count (pR D cy [((sa 0), .inr (8, [.ref (xa 0), .ref (h 0), .ref rDr, .ref rNo, .ref (pa 0), .ref rIm, .ref (ba 0), .ref rHo, .ref rFi, .ref rGr, .long (zL tr)])), ((h 0), .inr (2, [.int (zI ((ro : Nat) : Int)), .int (zI ((te : Nat) : Int)), .int (zI ((ch : Nat) : Int)), .ref (h 1), .ref (h 2), .ref (h 3), .ref (h 4), .ref (h 5), .ref (h 6), .ref (h 7)])), ((h 1), .inl (cy 0, 6, .inl (zA pr))), ((h 2), .inl (cy 0, 6, .inl (zA sl))), ((h 3), .inl (cy 0, 6, .inl (zA mu))), ((h 4), .inl (cy 0, 6, .inl (zA wi))), ((h 5), .inl (cy 0, 6, .inl (zA ak))), ((h 6), .inl (cy 0, 6, .inl (zA (fun j => ((he j : Nat) : Int))))), ((h 7), .inl (cy 0, 5, .inl (zA (fun j => ((li j : Nat) : Int))))), ((ba 0), .inr (0, [.int (zI ((ln : Nat) : Int)), .ref (ba 1), .ref (ba 2)])), ((ba 1), .inl (cy 0, 6, .inl (zA (fun j => ((wh j : Nat) : Int))))), ((ba 2), .inl (cy 0, 6, .inl (zA lk))), ((pa 0), .inr (6, [.int (zI ((kn : Nat) : Int)), .ref rSt])), ((xa 0), .inr (7, [.ref (xa 1), .int (zI ((xl : Nat) : Int)), .int (zI ((xn : Nat) : Int)), .int (zI ((xs : Nat) : Int)), .int (zI xk), .int (zI xv)])), ((xa 1), .inl (cy 0, 200, .inl (zA xt)))] [.ref (sa 0), .int (zI what)]) (qR (if what = 0 then (ro : Int) else if what = 1 then (te : Int) else if what = 2 then (ch : Int) else if what = 3 then (ln : Int) else if what = 4 then (kn : Int) else if what = 5 then (xl : Int) else -1)) 0 0 (fun _ => False) := by
  refine met_R (cc := cX8_count) (maxL := 2) (ret := (some .int)) RX8 (by decide) rfl rfl (Nat.le_of_ble_eq_true rfl) ?_
  intro p e s m args below meth c ls Q hx hb hr hml hts hown hlocks hQ hP hK hl
  have hl : lv_has ls 2 [(0, .ref (sa 0)), (1, .int (zI what))] := hl
  have hinX0 : ∀ w ∈ wsX00, w ∈ wsX8_count := (fun w h => List.mem_cons_of_mem _ (List.mem_append_left _ (List.mem_append_left _ (List.mem_append_right _ h))))
  have hinX2 : ∀ w ∈ wsX20, w ∈ wsX8_count := (fun w h => List.mem_cons_of_mem _ (List.mem_append_left _ (List.mem_append_left _ (List.mem_append_left _ (List.mem_append_right _ h)))))
  have hinX6 : ∀ w ∈ wsX60, w ∈ wsX8_count := (fun w h => List.mem_cons_of_mem _ (List.mem_append_left _ (List.mem_append_right _ h)))
  have hinX7 : ∀ w ∈ wsX70, w ∈ wsX8_count := (fun w h => List.mem_cons_of_mem _ (List.mem_append_right _ h))
  have hinX8 : ∀ w ∈ wsX80, w ∈ wsX8_count := (fun w h => List.mem_cons_of_mem _ (List.mem_append_left _ (List.mem_append_left _ (List.mem_append_left _ (List.mem_append_left _ (List.mem_append_right _ h))))))
  refine lv_iload_n hx hb dX8_count_0 rfl (lv_at hl 1 rfl) ?_
  rcases (show what = 0 ∨ what = 1 ∨ what = 2 ∨ what = 3 ∨ what = 4 ∨ what = 5 ∨ (what < 0 ∨ 5 < what) from by omega) with c1 | c1 | c1 | c1 | c1 | c1 | c1
  · refine z_tableIn (tgt := 40) hx hb 0 c1 ⟨by decide, by decide⟩ dX8_count_1 (by decide) (by decide) rfl (by decide) ?_
    refine lv_aload_n hx hb dX8_count_40 rfl (lv_at hl 0 rfl) ?_
    refine va_get (D := D) (ci := 8) (v := .ref (h 0)) (C := RX8) (T := TX8) (N := 11) hx hb hts hinX8 hown hK hP 0 rfl rfl 1 (by decide) (hts (.fieldLink RX8 19 "SilentRent" "built" "LSilentRent$House;") (List.mem_of_getElem? (i := 1) rfl)) (fun _ h9 => h9) rfl dX8_count_41 ?_
    refine va_get (D := D) (ci := 2) (v := .int (zI ((ro : Nat) : Int))) (C := RX2) (T := TX2) (N := 10) hx hb hts hinX2 hown hK hP 1 rfl rfl 0 (by decide) (hts (.fieldLink RX8 194 "SilentRent$House" "rooms" "I") (List.mem_of_getElem? (i := 2) rfl)) (fun _ h9 => h9) rfl dX8_count_44 ?_
    exact zr_iret hx hb hr hlocks hQ (by (repeat' split) <;> first | rfl | omega) dX8_count_47
  · refine z_tableIn (tgt := 48) hx hb 1 c1 ⟨by decide, by decide⟩ dX8_count_1 (by decide) (by decide) rfl (by decide) ?_
    refine lv_aload_n hx hb dX8_count_48 rfl (lv_at hl 0 rfl) ?_
    refine va_get (D := D) (ci := 8) (v := .ref (h 0)) (C := RX8) (T := TX8) (N := 11) hx hb hts hinX8 hown hK hP 0 rfl rfl 1 (by decide) (hts (.fieldLink RX8 19 "SilentRent" "built" "LSilentRent$House;") (List.mem_of_getElem? (i := 1) rfl)) (fun _ h9 => h9) rfl dX8_count_49 ?_
    refine va_get (D := D) (ci := 2) (v := .int (zI ((te : Nat) : Int))) (C := RX2) (T := TX2) (N := 10) hx hb hts hinX2 hown hK hP 1 rfl rfl 1 (by decide) (hts (.fieldLink RX8 161 "SilentRent$House" "tenants" "I") (List.mem_of_getElem? (i := 3) rfl)) (fun _ h9 => h9) rfl dX8_count_52 ?_
    exact zr_iret hx hb hr hlocks hQ (by (repeat' split) <;> first | rfl | omega) dX8_count_55
  · refine z_tableIn (tgt := 56) hx hb 2 c1 ⟨by decide, by decide⟩ dX8_count_1 (by decide) (by decide) rfl (by decide) ?_
    refine lv_aload_n hx hb dX8_count_56 rfl (lv_at hl 0 rfl) ?_
    refine va_get (D := D) (ci := 8) (v := .ref (h 0)) (C := RX8) (T := TX8) (N := 11) hx hb hts hinX8 hown hK hP 0 rfl rfl 1 (by decide) (hts (.fieldLink RX8 19 "SilentRent" "built" "LSilentRent$House;") (List.mem_of_getElem? (i := 1) rfl)) (fun _ h9 => h9) rfl dX8_count_57 ?_
    refine va_get (D := D) (ci := 2) (v := .int (zI ((ch : Nat) : Int))) (C := RX2) (T := TX2) (N := 10) hx hb hts hinX2 hown hK hP 1 rfl rfl 2 (by decide) (hts (.fieldLink RX8 242 "SilentRent$House" "chairs" "I") (List.mem_of_getElem? (i := 4) rfl)) (fun _ h9 => h9) rfl dX8_count_60 ?_
    exact zr_iret hx hb hr hlocks hQ (by (repeat' split) <;> first | rfl | omega) dX8_count_63
  · refine z_tableIn (tgt := 64) hx hb 3 c1 ⟨by decide, by decide⟩ dX8_count_1 (by decide) (by decide) rfl (by decide) ?_
    refine lv_aload_n hx hb dX8_count_64 rfl (lv_at hl 0 rfl) ?_
    refine va_get (D := D) (ci := 8) (v := .ref (ba 0)) (C := RX8) (T := TX8) (N := 11) hx hb hts hinX8 hown hK hP 0 rfl rfl 6 (by decide) (hts (.fieldLink RX8 49 "SilentRent" "lines" "LSilentRent$Book;") (List.mem_of_getElem? (i := 5) rfl)) (fun _ h9 => h9) rfl dX8_count_65 ?_
    refine va_get (D := D) (ci := 0) (v := .int (zI ((ln : Nat) : Int))) (C := RX0) (T := TX0) (N := 3) hx hb hts hinX0 hown hK hP 9 rfl rfl 0 (by decide) (hts (.fieldLink RX8 89 "SilentRent$Book" "length" "I") (List.mem_of_getElem? (i := 6) rfl)) (fun _ h9 => h9) rfl dX8_count_68 ?_
    exact zr_iret hx hb hr hlocks hQ (by (repeat' split) <;> first | rfl | omega) dX8_count_71
  · refine z_tableIn (tgt := 72) hx hb 4 c1 ⟨by decide, by decide⟩ dX8_count_1 (by decide) (by decide) rfl (by decide) ?_
    refine lv_aload_n hx hb dX8_count_72 rfl (lv_at hl 0 rfl) ?_
    refine va_get (D := D) (ci := 8) (v := .ref (pa 0)) (C := RX8) (T := TX8) (N := 11) hx hb hts hinX8 hown hK hP 0 rfl rfl 4 (by decide) (hts (.fieldLink RX8 36 "SilentRent" "past" "LSilentRent$Past;") (List.mem_of_getElem? (i := 7) rfl)) (fun _ h9 => h9) rfl dX8_count_73 ?_
    refine va_get (D := D) (ci := 6) (v := .int (zI ((kn : Nat) : Int))) (C := RX6) (T := TX6) (N := 2) hx hb hts hinX6 hown hK hP 12 rfl rfl 0 (by decide) (hts (.fieldLink RX8 86 "SilentRent$Past" "known" "I") (List.mem_of_getElem? (i := 8) rfl)) (fun _ h9 => h9) rfl dX8_count_76 ?_
    exact zr_iret hx hb hr hlocks hQ (by (repeat' split) <;> first | rfl | omega) dX8_count_79
  · refine z_tableIn (tgt := 80) hx hb 5 c1 ⟨by decide, by decide⟩ dX8_count_1 (by decide) (by decide) rfl (by decide) ?_
    refine lv_aload_n hx hb dX8_count_80 rfl (lv_at hl 0 rfl) ?_
    refine va_get (D := D) (ci := 8) (v := .ref (xa 0)) (C := RX8) (T := TX8) (N := 11) hx hb hts hinX8 hown hK hP 0 rfl rfl 0 (by decide) (hts (.fieldLink RX8 10 "SilentRent" "text" "LSilentRent$Text;") (List.mem_of_getElem? (i := 9) rfl)) (fun _ h9 => h9) rfl dX8_count_81 ?_
    refine va_get (D := D) (ci := 7) (v := .int (zI ((xl : Nat) : Int))) (C := RX7) (T := TX7) (N := 6) hx hb hts hinX7 hown hK hP 13 rfl rfl 1 (by decide) (hts (.fieldLink RX8 72 "SilentRent$Text" "length" "I") (List.mem_of_getElem? (i := 10) rfl)) (fun _ h9 => h9) rfl dX8_count_84 ?_
    exact zr_iret hx hb hr hlocks hQ (by (repeat' split) <;> first | rfl | omega) dX8_count_87
  · refine z_tableOut (tgt := 88) hx hb ⟨by omega, by omega⟩ dX8_count_1 c1 (by decide) ?_
    refine lv_iconst (v := zI (-1)) hx hb dX8_count_88 rfl ?_
    exact zr_iret hx hb hr hlocks hQ (by (repeat' split) <;> first | rfl | omega) dX8_count_89
abbrev rm_X8_trace : Room := { frames := 0, cells := 0, slots := 0, locals := 0 }
set_option maxHeartbeats 4000000 in
set_option maxRecDepth 100000 in
theorem c_X8_trace (l : Launch) (D : va_G) (cy : Nat → ClassId) (sa : Nat → Nat) (rTx : Nat) (rBu : Nat) (rDr : Nat) (rNo : Nat) (rPa : Nat) (rIm : Nat) (rBk : Nat) (rHo : Nat) (rFi : Nat) (rGr : Nat) (tr : Int)  : Met l yX8_trace wsX8_trace rm_X8_trace (pR D cy [((sa 0), .inr (8, [.ref rTx, .ref rBu, .ref rDr, .ref rNo, .ref rPa, .ref rIm, .ref rBk, .ref rHo, .ref rFi, .ref rGr, .long (zL tr)]))] [.ref (sa 0)]) (qRl tr) 0 0 (fun _ => False) := by
  refine met_R (cc := cX8_trace) (maxL := 1) (ret := (some .long)) RX8 (by decide) rfl rfl (Nat.le_of_ble_eq_true rfl) ?_
  intro p e s m args below meth c ls Q hx hb hr hml hts hown hlocks hQ hP hK hl
  have hl : lv_has ls 1 [(0, .ref (sa 0))] := hl
  have hinX8 : ∀ w ∈ wsX80, w ∈ wsX8_trace := (fun w h => List.mem_cons_of_mem _ (List.mem_append_right _ h))
  refine lv_aload_n hx hb dX8_trace_0 rfl (lv_at hl 0 rfl) ?_
  refine va_get (D := D) (ci := 8) (v := .long (zL tr)) (C := RX8) (T := TX8) (N := 11) hx hb hts hinX8 hown hK hP 0 rfl rfl 10 (by decide) (hts (.fieldLink RX8 300 "SilentRent" "asked" "J") (List.mem_of_getElem? (i := 1) rfl)) (fun _ h9 => h9) rfl dX8_trace_1 ?_
  exact zr_lret hx hb hr hlocks hQ (by rfl) dX8_trace_4
abbrev rm_X8_mostGroups : Room := { frames := 2, cells := 0, slots := 0, locals := 46 }
set_option maxHeartbeats 4000000 in
set_option maxRecDepth 100000 in
theorem c_X8_mostGroups (l : Launch) (D : va_G) (cy : Nat → ClassId) (sa : Nat → Nat) (rTx : Nat) (rDr : Nat) (rPa : Nat) (rIm : Nat) (rBk : Nat) (rHo : Nat) (rFi : Nat) (tr : Int) (h : Nat → Nat) (ro : Nat) (te : Nat) (ch : Nat) (pr : Nat → Int) (sl : Nat → Int) (mu : Nat → Int) (wi : Nat → Int) (ak : Nat → Int) (he : Nat → Nat) (li : Nat → Nat) (na : Nat → Nat) (day : Int) (hm : Nat → Int) (tk : Nat → Int) (py : Nat → Int) (db : Nat → Int) (ga : Nat → Nat) (gr : Nat → Int) (ow : Nat) (how : ow < 2 ^ te) (hte : te ≤ 6) (hHB : HB pr sl mu wi ak he li) (hNB : NB hm tk py db) (hgr : ∀ k, 0 ≤ gr k ∧ gr k ≤ 64) : Met l yX8_mostGroups wsX8_mostGroups rm_X8_mostGroups (pM D cy [((sa 0), .inr (8, [.ref rTx, .ref (h 0), .ref rDr, .ref (na 0), .ref rPa, .ref rIm, .ref rBk, .ref rHo, .ref rFi, .ref (ga 0), .long (zL tr)])), ((h 0), .inr (2, [.int (zI ((ro : Nat) : Int)), .int (zI ((te : Nat) : Int)), .int (zI ((ch : Nat) : Int)), .ref (h 1), .ref (h 2), .ref (h 3), .ref (h 4), .ref (h 5), .ref (h 6), .ref (h 7)])), ((h 1), .inl (cy 0, 6, .inl (zA pr))), ((h 2), .inl (cy 0, 6, .inl (zA sl))), ((h 3), .inl (cy 0, 6, .inl (zA mu))), ((h 4), .inl (cy 0, 6, .inl (zA wi))), ((h 5), .inl (cy 0, 6, .inl (zA ak))), ((h 6), .inl (cy 0, 6, .inl (zA (fun j => ((he j : Nat) : Int))))), ((h 7), .inl (cy 0, 5, .inl (zA (fun j => ((li j : Nat) : Int))))), ((na 0), .inr (5, [.int (zI day), .ref (na 1), .ref (na 2), .ref (na 3), .ref (na 4)])), ((na 1), .inl (cy 0, 6, .inl (zA hm))), ((na 2), .inl (cy 0, 6, .inl (zA tk))), ((na 3), .inl (cy 0, 6, .inl (zA py))), ((na 4), .inl (cy 0, 6, .inl (zA db))), ((ga 0), .inl (cy 0, 64, .inl (zA gr)))] [.ref (sa 0), .int (zI ((ow : Nat) : Int))]) (qM D (some (.int (zI (gtb gr db te ow ow)))) [((sa 0), .inr (8, [.ref rTx, .ref (h 0), .ref rDr, .ref (na 0), .ref rPa, .ref rIm, .ref rBk, .ref rHo, .ref rFi, .ref (ga 0), .long (zL tr)])), ((h 0), .inr (2, [.int (zI ((ro : Nat) : Int)), .int (zI ((te : Nat) : Int)), .int (zI ((ch : Nat) : Int)), .ref (h 1), .ref (h 2), .ref (h 3), .ref (h 4), .ref (h 5), .ref (h 6), .ref (h 7)])), ((h 1), .inl (cy 0, 6, .inl (zA pr))), ((h 2), .inl (cy 0, 6, .inl (zA sl))), ((h 3), .inl (cy 0, 6, .inl (zA mu))), ((h 4), .inl (cy 0, 6, .inl (zA wi))), ((h 5), .inl (cy 0, 6, .inl (zA ak))), ((h 6), .inl (cy 0, 6, .inl (zA (fun j => ((he j : Nat) : Int))))), ((h 7), .inl (cy 0, 5, .inl (zA (fun j => ((li j : Nat) : Int))))), ((na 0), .inr (5, [.int (zI day), .ref (na 1), .ref (na 2), .ref (na 3), .ref (na 4)])), ((na 1), .inl (cy 0, 6, .inl (zA hm))), ((na 2), .inl (cy 0, 6, .inl (zA tk))), ((na 3), .inl (cy 0, 6, .inl (zA py))), ((na 4), .inl (cy 0, 6, .inl (zA db))), ((ga 0), .inl (cy 0, 64, .inl (zA gr)))] [((sa 0), .inr (8, [.ref rTx, .ref (h 0), .ref rDr, .ref (na 0), .ref rPa, .ref rIm, .ref rBk, .ref rHo, .ref rFi, .ref (ga 0), .long (zL tr)])), ((h 0), .inr (2, [.int (zI ((ro : Nat) : Int)), .int (zI ((te : Nat) : Int)), .int (zI ((ch : Nat) : Int)), .ref (h 1), .ref (h 2), .ref (h 3), .ref (h 4), .ref (h 5), .ref (h 6), .ref (h 7)])), ((h 1), .inl (cy 0, 6, .inl (zA pr))), ((h 2), .inl (cy 0, 6, .inl (zA sl))), ((h 3), .inl (cy 0, 6, .inl (zA mu))), ((h 4), .inl (cy 0, 6, .inl (zA wi))), ((h 5), .inl (cy 0, 6, .inl (zA ak))), ((h 6), .inl (cy 0, 6, .inl (zA (fun j => ((he j : Nat) : Int))))), ((h 7), .inl (cy 0, 5, .inl (zA (fun j => ((li j : Nat) : Int))))), ((na 0), .inr (5, [.int (zI day), .ref (na 1), .ref (na 2), .ref (na 3), .ref (na 4)])), ((na 1), .inl (cy 0, 6, .inl (zA hm))), ((na 2), .inl (cy 0, 6, .inl (zA tk))), ((na 3), .inl (cy 0, 6, .inl (zA py))), ((na 4), .inl (cy 0, 6, .inl (zA db))), ((ga 0), .inl (cy 0, 64, .inl (zA (gtb gr db te ow))))]) 0 0 (inW [((sa 0), .inr (8, [.ref rTx, .ref (h 0), .ref rDr, .ref (na 0), .ref rPa, .ref rIm, .ref rBk, .ref rHo, .ref rFi, .ref (ga 0), .long (zL tr)])), ((h 0), .inr (2, [.int (zI ((ro : Nat) : Int)), .int (zI ((te : Nat) : Int)), .int (zI ((ch : Nat) : Int)), .ref (h 1), .ref (h 2), .ref (h 3), .ref (h 4), .ref (h 5), .ref (h 6), .ref (h 7)])), ((h 1), .inl (cy 0, 6, .inl (zA pr))), ((h 2), .inl (cy 0, 6, .inl (zA sl))), ((h 3), .inl (cy 0, 6, .inl (zA mu))), ((h 4), .inl (cy 0, 6, .inl (zA wi))), ((h 5), .inl (cy 0, 6, .inl (zA ak))), ((h 6), .inl (cy 0, 6, .inl (zA (fun j => ((he j : Nat) : Int))))), ((h 7), .inl (cy 0, 5, .inl (zA (fun j => ((li j : Nat) : Int))))), ((na 0), .inr (5, [.int (zI day), .ref (na 1), .ref (na 2), .ref (na 3), .ref (na 4)])), ((na 1), .inl (cy 0, 6, .inl (zA hm))), ((na 2), .inl (cy 0, 6, .inl (zA tk))), ((na 3), .inl (cy 0, 6, .inl (zA py))), ((na 4), .inl (cy 0, 6, .inl (zA db))), ((ga 0), .inl (cy 0, 64, .inl (zA gr)))]) := by
  refine met_M (cc := cX8_mostGroups) (maxL := 6) (ret := (some .int)) RX8 (by decide) rfl rfl (Nat.le_of_ble_eq_true rfl) ?_
  intro p e s m args below meth c ls Q A0 hx hb hr hml hts hown hlocks hQ hA0 hP hK hD hS hl
  have hl : lv_has ls 6 [(0, .ref (sa 0)), (1, .int (zI ((ow : Nat) : Int)))] := hl
  have hP : va_P D vwCl [((sa 0), .inr (8, [.ref rTx, .ref (h 0), .ref rDr, .ref (na 0), .ref rPa, .ref rIm, .ref rBk, .ref rHo, .ref rFi, .ref (ga 0), .long (zL tr)])), ((h 0), .inr (2, [.int (zI ((ro : Nat) : Int)), .int (zI ((te : Nat) : Int)), .int (zI ((ch : Nat) : Int)), .ref (h 1), .ref (h 2), .ref (h 3), .ref (h 4), .ref (h 5), .ref (h 6), .ref (h 7)])), ((h 1), .inl (cy 0, 6, .inl (zA pr))), ((h 2), .inl (cy 0, 6, .inl (zA sl))), ((h 3), .inl (cy 0, 6, .inl (zA mu))), ((h 4), .inl (cy 0, 6, .inl (zA wi))), ((h 5), .inl (cy 0, 6, .inl (zA ak))), ((h 6), .inl (cy 0, 6, .inl (zA (fun j => ((he j : Nat) : Int))))), ((h 7), .inl (cy 0, 5, .inl (zA (fun j => ((li j : Nat) : Int))))), ((na 0), .inr (5, [.int (zI day), .ref (na 1), .ref (na 2), .ref (na 3), .ref (na 4)])), ((na 1), .inl (cy 0, 6, .inl (zA hm))), ((na 2), .inl (cy 0, 6, .inl (zA tk))), ((na 3), .inl (cy 0, 6, .inl (zA py))), ((na 4), .inl (cy 0, 6, .inl (zA db))), ((ga 0), .inl (cy 0, 64, .inl (zA gr)))] s.heap := hP
  have hinX2 : ∀ w ∈ wsX20, w ∈ wsX8_mostGroups := (fun w h => List.mem_cons_of_mem _ (List.mem_append_left _ (List.mem_append_right _ h)))
  have hinX8 : ∀ w ∈ wsX80, w ∈ wsX8_mostGroups := (fun w h => List.mem_cons_of_mem _ (List.mem_append_left _ (List.mem_append_left _ (List.mem_append_right _ h))))
  have hpw := pow_le64 te (by omega)
  refine lv_aload_n hx hb dX8_mostGroups_0 rfl (lv_at hl 0 rfl) ?_
  refine va_get (D := D) (ci := 8) (v := .ref (ga 0)) (C := RX8) (T := TX8) (N := 11) hx hb hts hinX8 hown hK hP 0 rfl rfl 9 (by decide) (hts (.fieldLink RX8 67 "SilentRent" "groups" "[I") (List.mem_of_getElem? (i := 1) rfl)) (fun _ h9 => h9) rfl dX8_mostGroups_1 ?_
  refine lv_iconst (v := zI 0) hx hb dX8_mostGroups_4 rfl ?_
  refine lv_iconst (v := zI 0) hx hb dX8_mostGroups_5 rfl ?_
  refine z_iast hx hb hK hP hD hS 14 0 (f := gr) rfl rfl (x := 0) 0 rfl (by omega) (by decide) dX8_mostGroups_6 (fun H locs hP hD hS => ?_)
  have hP : va_P D vwCl [((sa 0), .inr (8, [.ref rTx, .ref (h 0), .ref rDr, .ref (na 0), .ref rPa, .ref rIm, .ref rBk, .ref rHo, .ref rFi, .ref (ga 0), .long (zL tr)])), ((h 0), .inr (2, [.int (zI ((ro : Nat) : Int)), .int (zI ((te : Nat) : Int)), .int (zI ((ch : Nat) : Int)), .ref (h 1), .ref (h 2), .ref (h 3), .ref (h 4), .ref (h 5), .ref (h 6), .ref (h 7)])), ((h 1), .inl (cy 0, 6, .inl (zA pr))), ((h 2), .inl (cy 0, 6, .inl (zA sl))), ((h 3), .inl (cy 0, 6, .inl (zA mu))), ((h 4), .inl (cy 0, 6, .inl (zA wi))), ((h 5), .inl (cy 0, 6, .inl (zA ak))), ((h 6), .inl (cy 0, 6, .inl (zA (fun j => ((he j : Nat) : Int))))), ((h 7), .inl (cy 0, 5, .inl (zA (fun j => ((li j : Nat) : Int))))), ((na 0), .inr (5, [.int (zI day), .ref (na 1), .ref (na 2), .ref (na 3), .ref (na 4)])), ((na 1), .inl (cy 0, 6, .inl (zA hm))), ((na 2), .inl (cy 0, 6, .inl (zA tk))), ((na 3), .inl (cy 0, 6, .inl (zA py))), ((na 4), .inl (cy 0, 6, .inl (zA db))), ((ga 0), .inl (cy 0, 64, .inl (zA (va_up gr 0 0))))] H := hP
  have hD : va_D A0 [((sa 0), .inr (8, [.ref rTx, .ref (h 0), .ref rDr, .ref (na 0), .ref rPa, .ref rIm, .ref rBk, .ref rHo, .ref rFi, .ref (ga 0), .long (zL tr)])), ((h 0), .inr (2, [.int (zI ((ro : Nat) : Int)), .int (zI ((te : Nat) : Int)), .int (zI ((ch : Nat) : Int)), .ref (h 1), .ref (h 2), .ref (h 3), .ref (h 4), .ref (h 5), .ref (h 6), .ref (h 7)])), ((h 1), .inl (cy 0, 6, .inl (zA pr))), ((h 2), .inl (cy 0, 6, .inl (zA sl))), ((h 3), .inl (cy 0, 6, .inl (zA mu))), ((h 4), .inl (cy 0, 6, .inl (zA wi))), ((h 5), .inl (cy 0, 6, .inl (zA ak))), ((h 6), .inl (cy 0, 6, .inl (zA (fun j => ((he j : Nat) : Int))))), ((h 7), .inl (cy 0, 5, .inl (zA (fun j => ((li j : Nat) : Int))))), ((na 0), .inr (5, [.int (zI day), .ref (na 1), .ref (na 2), .ref (na 3), .ref (na 4)])), ((na 1), .inl (cy 0, 6, .inl (zA hm))), ((na 2), .inl (cy 0, 6, .inl (zA tk))), ((na 3), .inl (cy 0, 6, .inl (zA py))), ((na 4), .inl (cy 0, 6, .inl (zA db))), ((ga 0), .inl (cy 0, 64, .inl (zA (va_up gr 0 0))))] := hD
  have hw1 : ((va_up gr 0 0) : Nat → Int) = (gtb gr db te 0) := by rfl
  rw [hw1] at hP hD
  have hP : va_P D vwCl [((sa 0), .inr (8, [.ref rTx, .ref (h 0), .ref rDr, .ref (na 0), .ref rPa, .ref rIm, .ref rBk, .ref rHo, .ref rFi, .ref (ga 0), .long (zL tr)])), ((h 0), .inr (2, [.int (zI ((ro : Nat) : Int)), .int (zI ((te : Nat) : Int)), .int (zI ((ch : Nat) : Int)), .ref (h 1), .ref (h 2), .ref (h 3), .ref (h 4), .ref (h 5), .ref (h 6), .ref (h 7)])), ((h 1), .inl (cy 0, 6, .inl (zA pr))), ((h 2), .inl (cy 0, 6, .inl (zA sl))), ((h 3), .inl (cy 0, 6, .inl (zA mu))), ((h 4), .inl (cy 0, 6, .inl (zA wi))), ((h 5), .inl (cy 0, 6, .inl (zA ak))), ((h 6), .inl (cy 0, 6, .inl (zA (fun j => ((he j : Nat) : Int))))), ((h 7), .inl (cy 0, 5, .inl (zA (fun j => ((li j : Nat) : Int))))), ((na 0), .inr (5, [.int (zI day), .ref (na 1), .ref (na 2), .ref (na 3), .ref (na 4)])), ((na 1), .inl (cy 0, 6, .inl (zA hm))), ((na 2), .inl (cy 0, 6, .inl (zA tk))), ((na 3), .inl (cy 0, 6, .inl (zA py))), ((na 4), .inl (cy 0, 6, .inl (zA db))), ((ga 0), .inl (cy 0, 64, .inl (zA (gtb gr db te 0))))] H := hP
  have hD : va_D A0 [((sa 0), .inr (8, [.ref rTx, .ref (h 0), .ref rDr, .ref (na 0), .ref rPa, .ref rIm, .ref rBk, .ref rHo, .ref rFi, .ref (ga 0), .long (zL tr)])), ((h 0), .inr (2, [.int (zI ((ro : Nat) : Int)), .int (zI ((te : Nat) : Int)), .int (zI ((ch : Nat) : Int)), .ref (h 1), .ref (h 2), .ref (h 3), .ref (h 4), .ref (h 5), .ref (h 6), .ref (h 7)])), ((h 1), .inl (cy 0, 6, .inl (zA pr))), ((h 2), .inl (cy 0, 6, .inl (zA sl))), ((h 3), .inl (cy 0, 6, .inl (zA mu))), ((h 4), .inl (cy 0, 6, .inl (zA wi))), ((h 5), .inl (cy 0, 6, .inl (zA ak))), ((h 6), .inl (cy 0, 6, .inl (zA (fun j => ((he j : Nat) : Int))))), ((h 7), .inl (cy 0, 5, .inl (zA (fun j => ((li j : Nat) : Int))))), ((na 0), .inr (5, [.int (zI day), .ref (na 1), .ref (na 2), .ref (na 3), .ref (na 4)])), ((na 1), .inl (cy 0, 6, .inl (zA hm))), ((na 2), .inl (cy 0, 6, .inl (zA tk))), ((na 3), .inl (cy 0, 6, .inl (zA py))), ((na 4), .inl (cy 0, 6, .inl (zA db))), ((ga 0), .inl (cy 0, 64, .inl (zA (gtb gr db te 0))))] := hD
  refine lv_iconst (v := zI 1) hx hb dX8_mostGroups_7 rfl ?_
  refine lv_istore_n (lv' := [(2, .int (zI 1)), (0, .ref (sa 0)), (1, .int (zI ((ow : Nat) : Int)))]) hx hb dX8_mostGroups_8 rfl hl (by decide) rfl (fun ls hl => ?_)
  have loop9 : ∀ (n9 : Nat) (j : Nat), ow - j < n9 → (j ≤ ow) → ∀ (x9_2 : Int), x9_2 = ((j + 1 : Nat) : Int) → ∀ (g9_gr : Nat → Int), g9_gr = (gtb gr db te j) → ∀ (H : Heap) (locs : List Loc), va_P D vwCl [((sa 0), .inr (8, [.ref rTx, .ref (h 0), .ref rDr, .ref (na 0), .ref rPa, .ref rIm, .ref rBk, .ref rHo, .ref rFi, .ref (ga 0), .long (zL tr)])), ((h 0), .inr (2, [.int (zI ((ro : Nat) : Int)), .int (zI ((te : Nat) : Int)), .int (zI ((ch : Nat) : Int)), .ref (h 1), .ref (h 2), .ref (h 3), .ref (h 4), .ref (h 5), .ref (h 6), .ref (h 7)])), ((h 1), .inl (cy 0, 6, .inl (zA pr))), ((h 2), .inl (cy 0, 6, .inl (zA sl))), ((h 3), .inl (cy 0, 6, .inl (zA mu))), ((h 4), .inl (cy 0, 6, .inl (zA wi))), ((h 5), .inl (cy 0, 6, .inl (zA ak))), ((h 6), .inl (cy 0, 6, .inl (zA (fun j => ((he j : Nat) : Int))))), ((h 7), .inl (cy 0, 5, .inl (zA (fun j => ((li j : Nat) : Int))))), ((na 0), .inr (5, [.int (zI day), .ref (na 1), .ref (na 2), .ref (na 3), .ref (na 4)])), ((na 1), .inl (cy 0, 6, .inl (zA hm))), ((na 2), .inl (cy 0, 6, .inl (zA tk))), ((na 3), .inl (cy 0, 6, .inl (zA py))), ((na 4), .inl (cy 0, 6, .inl (zA db))), ((ga 0), .inl (cy 0, 64, .inl (zA g9_gr)))] H → va_D A0 [((sa 0), .inr (8, [.ref rTx, .ref (h 0), .ref rDr, .ref (na 0), .ref rPa, .ref rIm, .ref rBk, .ref rHo, .ref rFi, .ref (ga 0), .long (zL tr)])), ((h 0), .inr (2, [.int (zI ((ro : Nat) : Int)), .int (zI ((te : Nat) : Int)), .int (zI ((ch : Nat) : Int)), .ref (h 1), .ref (h 2), .ref (h 3), .ref (h 4), .ref (h 5), .ref (h 6), .ref (h 7)])), ((h 1), .inl (cy 0, 6, .inl (zA pr))), ((h 2), .inl (cy 0, 6, .inl (zA sl))), ((h 3), .inl (cy 0, 6, .inl (zA mu))), ((h 4), .inl (cy 0, 6, .inl (zA wi))), ((h 5), .inl (cy 0, 6, .inl (zA ak))), ((h 6), .inl (cy 0, 6, .inl (zA (fun j => ((he j : Nat) : Int))))), ((h 7), .inl (cy 0, 5, .inl (zA (fun j => ((li j : Nat) : Int))))), ((na 0), .inr (5, [.int (zI day), .ref (na 1), .ref (na 2), .ref (na 3), .ref (na 4)])), ((na 1), .inl (cy 0, 6, .inl (zA hm))), ((na 2), .inl (cy 0, 6, .inl (zA tk))), ((na 3), .inl (cy 0, 6, .inl (zA py))), ((na 4), .inl (cy 0, 6, .inl (zA db))), ((ga 0), .inl (cy 0, 64, .inl (zA g9_gr)))] → va_S A0 s.heap H locs → ∀ ls : Array Slot, lv_has ls 6 [(0, .ref (sa 0)), (1, .int (zI ((ow : Nat) : Int))), (2, .int (zI x9_2))] → W p l e rm_X8_mostGroups s m args below meth c H locs 0 0 Q (F0 m 9 ls []) := by
    intro n9
    induction n9 with
    | zero => intro j h9; exact absurd h9 (Nat.not_lt_zero _)
    | succ n9 ih9 =>
      intro j hmu9 hj x9_2 ex9_2 g9_gr eg9_gr H locs hP hD hS ls hl
      subst ex9_2
      subst eg9_gr
      have hl : lv_has ls 6 [(0, .ref (sa 0)), (1, .int (zI ((ow : Nat) : Int))), (2, .int (zI ((j + 1 : Nat) : Int)))] := hl
      have hP : va_P D vwCl [((sa 0), .inr (8, [.ref rTx, .ref (h 0), .ref rDr, .ref (na 0), .ref rPa, .ref rIm, .ref rBk, .ref rHo, .ref rFi, .ref (ga 0), .long (zL tr)])), ((h 0), .inr (2, [.int (zI ((ro : Nat) : Int)), .int (zI ((te : Nat) : Int)), .int (zI ((ch : Nat) : Int)), .ref (h 1), .ref (h 2), .ref (h 3), .ref (h 4), .ref (h 5), .ref (h 6), .ref (h 7)])), ((h 1), .inl (cy 0, 6, .inl (zA pr))), ((h 2), .inl (cy 0, 6, .inl (zA sl))), ((h 3), .inl (cy 0, 6, .inl (zA mu))), ((h 4), .inl (cy 0, 6, .inl (zA wi))), ((h 5), .inl (cy 0, 6, .inl (zA ak))), ((h 6), .inl (cy 0, 6, .inl (zA (fun j => ((he j : Nat) : Int))))), ((h 7), .inl (cy 0, 5, .inl (zA (fun j => ((li j : Nat) : Int))))), ((na 0), .inr (5, [.int (zI day), .ref (na 1), .ref (na 2), .ref (na 3), .ref (na 4)])), ((na 1), .inl (cy 0, 6, .inl (zA hm))), ((na 2), .inl (cy 0, 6, .inl (zA tk))), ((na 3), .inl (cy 0, 6, .inl (zA py))), ((na 4), .inl (cy 0, 6, .inl (zA db))), ((ga 0), .inl (cy 0, 64, .inl (zA (gtb gr db te j))))] H := hP
      have hD : va_D A0 [((sa 0), .inr (8, [.ref rTx, .ref (h 0), .ref rDr, .ref (na 0), .ref rPa, .ref rIm, .ref rBk, .ref rHo, .ref rFi, .ref (ga 0), .long (zL tr)])), ((h 0), .inr (2, [.int (zI ((ro : Nat) : Int)), .int (zI ((te : Nat) : Int)), .int (zI ((ch : Nat) : Int)), .ref (h 1), .ref (h 2), .ref (h 3), .ref (h 4), .ref (h 5), .ref (h 6), .ref (h 7)])), ((h 1), .inl (cy 0, 6, .inl (zA pr))), ((h 2), .inl (cy 0, 6, .inl (zA sl))), ((h 3), .inl (cy 0, 6, .inl (zA mu))), ((h 4), .inl (cy 0, 6, .inl (zA wi))), ((h 5), .inl (cy 0, 6, .inl (zA ak))), ((h 6), .inl (cy 0, 6, .inl (zA (fun j => ((he j : Nat) : Int))))), ((h 7), .inl (cy 0, 5, .inl (zA (fun j => ((li j : Nat) : Int))))), ((na 0), .inr (5, [.int (zI day), .ref (na 1), .ref (na 2), .ref (na 3), .ref (na 4)])), ((na 1), .inl (cy 0, 6, .inl (zA hm))), ((na 2), .inl (cy 0, 6, .inl (zA tk))), ((na 3), .inl (cy 0, 6, .inl (zA py))), ((na 4), .inl (cy 0, 6, .inl (zA db))), ((ga 0), .inl (cy 0, 64, .inl (zA (gtb gr db te j))))] := hD
      have hgj := gtb_in hgr hte (db := db) j (by omega)
      refine lv_iload_n hx hb dX8_mostGroups_9 rfl (lv_at hl 2 rfl) ?_
      refine lv_iload_n hx hb dX8_mostGroups_10 rfl (lv_at hl 1 rfl) ?_
      refine z_icmp_gt (tgt := 100) hx hb ⟨by omega, by omega⟩ ⟨by omega, by omega⟩ dX8_mostGroups_11 (by decide) (fun c2 => ?_) (fun c2 => ?_)
      · have c2 : (ow : Nat) < (j + 1 : Nat) := by omega
        have hw3 : ((gtb gr db te j) : Nat → Int) = (gtb gr db te ow) := by rw [show j = ow from by omega]
        rw [hw3] at hP hD
        have hP : va_P D vwCl [((sa 0), .inr (8, [.ref rTx, .ref (h 0), .ref rDr, .ref (na 0), .ref rPa, .ref rIm, .ref rBk, .ref rHo, .ref rFi, .ref (ga 0), .long (zL tr)])), ((h 0), .inr (2, [.int (zI ((ro : Nat) : Int)), .int (zI ((te : Nat) : Int)), .int (zI ((ch : Nat) : Int)), .ref (h 1), .ref (h 2), .ref (h 3), .ref (h 4), .ref (h 5), .ref (h 6), .ref (h 7)])), ((h 1), .inl (cy 0, 6, .inl (zA pr))), ((h 2), .inl (cy 0, 6, .inl (zA sl))), ((h 3), .inl (cy 0, 6, .inl (zA mu))), ((h 4), .inl (cy 0, 6, .inl (zA wi))), ((h 5), .inl (cy 0, 6, .inl (zA ak))), ((h 6), .inl (cy 0, 6, .inl (zA (fun j => ((he j : Nat) : Int))))), ((h 7), .inl (cy 0, 5, .inl (zA (fun j => ((li j : Nat) : Int))))), ((na 0), .inr (5, [.int (zI day), .ref (na 1), .ref (na 2), .ref (na 3), .ref (na 4)])), ((na 1), .inl (cy 0, 6, .inl (zA hm))), ((na 2), .inl (cy 0, 6, .inl (zA tk))), ((na 3), .inl (cy 0, 6, .inl (zA py))), ((na 4), .inl (cy 0, 6, .inl (zA db))), ((ga 0), .inl (cy 0, 64, .inl (zA (gtb gr db te ow))))] H := hP
        have hD : va_D A0 [((sa 0), .inr (8, [.ref rTx, .ref (h 0), .ref rDr, .ref (na 0), .ref rPa, .ref rIm, .ref rBk, .ref rHo, .ref rFi, .ref (ga 0), .long (zL tr)])), ((h 0), .inr (2, [.int (zI ((ro : Nat) : Int)), .int (zI ((te : Nat) : Int)), .int (zI ((ch : Nat) : Int)), .ref (h 1), .ref (h 2), .ref (h 3), .ref (h 4), .ref (h 5), .ref (h 6), .ref (h 7)])), ((h 1), .inl (cy 0, 6, .inl (zA pr))), ((h 2), .inl (cy 0, 6, .inl (zA sl))), ((h 3), .inl (cy 0, 6, .inl (zA mu))), ((h 4), .inl (cy 0, 6, .inl (zA wi))), ((h 5), .inl (cy 0, 6, .inl (zA ak))), ((h 6), .inl (cy 0, 6, .inl (zA (fun j => ((he j : Nat) : Int))))), ((h 7), .inl (cy 0, 5, .inl (zA (fun j => ((li j : Nat) : Int))))), ((na 0), .inr (5, [.int (zI day), .ref (na 1), .ref (na 2), .ref (na 3), .ref (na 4)])), ((na 1), .inl (cy 0, 6, .inl (zA hm))), ((na 2), .inl (cy 0, 6, .inl (zA tk))), ((na 3), .inl (cy 0, 6, .inl (zA py))), ((na 4), .inl (cy 0, 6, .inl (zA db))), ((ga 0), .inl (cy 0, 64, .inl (zA (gtb gr db te ow))))] := hD
        refine lv_aload_n hx hb dX8_mostGroups_100 rfl (lv_at hl 0 rfl) ?_
        refine va_get (D := D) (ci := 8) (v := .ref (ga 0)) (C := RX8) (T := TX8) (N := 11) hx hb hts hinX8 hown hK hP 0 rfl rfl 9 (by decide) (hts (.fieldLink RX8 67 "SilentRent" "groups" "[I") (List.mem_of_getElem? (i := 1) rfl)) (fun _ h9 => h9) rfl dX8_mostGroups_101 ?_
        refine lv_iload_n hx hb dX8_mostGroups_104 rfl (lv_at hl 1 rfl) ?_
        refine z_iald hx hb hK hP 14 0 (f := (gtb gr db te ow)) rfl rfl ow rfl (by omega) (by decide) dX8_mostGroups_105 ?_
        have hb4 := hgr ow
        have hP : va_P D vwCl [((sa 0), .inr (8, [.ref rTx, .ref (h 0), .ref rDr, .ref (na 0), .ref rPa, .ref rIm, .ref rBk, .ref rHo, .ref rFi, .ref (ga 0), .long (zL tr)])), ((h 0), .inr (2, [.int (zI ((ro : Nat) : Int)), .int (zI ((te : Nat) : Int)), .int (zI ((ch : Nat) : Int)), .ref (h 1), .ref (h 2), .ref (h 3), .ref (h 4), .ref (h 5), .ref (h 6), .ref (h 7)])), ((h 1), .inl (cy 0, 6, .inl (zA pr))), ((h 2), .inl (cy 0, 6, .inl (zA sl))), ((h 3), .inl (cy 0, 6, .inl (zA mu))), ((h 4), .inl (cy 0, 6, .inl (zA wi))), ((h 5), .inl (cy 0, 6, .inl (zA ak))), ((h 6), .inl (cy 0, 6, .inl (zA (fun j => ((he j : Nat) : Int))))), ((h 7), .inl (cy 0, 5, .inl (zA (fun j => ((li j : Nat) : Int))))), ((na 0), .inr (5, [.int (zI day), .ref (na 1), .ref (na 2), .ref (na 3), .ref (na 4)])), ((na 1), .inl (cy 0, 6, .inl (zA hm))), ((na 2), .inl (cy 0, 6, .inl (zA tk))), ((na 3), .inl (cy 0, 6, .inl (zA py))), ((na 4), .inl (cy 0, 6, .inl (zA db))), ((ga 0), .inl (cy 0, 64, .inl (zA (gtb gr db te ow))))] H := hP
        exact zm_iret hx hb hr hlocks hQ hA0 hP hS (by rfl) dX8_mostGroups_106
      · have c2 : ¬ ((ow : Nat) < (j + 1 : Nat)) := by omega
        refine lv_iconst (v := zI 0) hx hb dX8_mostGroups_14 rfl ?_
        refine lv_istore_n (lv' := [(3, .int (zI 0)), (0, .ref (sa 0)), (1, .int (zI ((ow : Nat) : Int))), (2, .int (zI ((j + 1 : Nat) : Int)))]) hx hb dX8_mostGroups_15 rfl hl (by decide) rfl (fun ls hl => ?_)
        refine lv_iconst (v := zI 0) hx hb dX8_mostGroups_16 rfl ?_
        refine lv_istore (lv' := [(4, .int (zI 0)), (3, .int (zI 0)), (0, .ref (sa 0)), (1, .int (zI ((ow : Nat) : Int))), (2, .int (zI ((j + 1 : Nat) : Int)))]) hx hb dX8_mostGroups_17 hl (by decide) rfl (fun ls hl => ?_)
        refine lv_iconst (v := zI 0) hx hb dX8_mostGroups_19 rfl ?_
        refine lv_istore (lv' := [(5, .int (zI 0)), (4, .int (zI 0)), (3, .int (zI 0)), (0, .ref (sa 0)), (1, .int (zI ((ow : Nat) : Int))), (2, .int (zI ((j + 1 : Nat) : Int)))]) hx hb dX8_mostGroups_20 hl (by decide) rfl (fun ls hl => ?_)
        have loop22 : ∀ (n9 : Nat) (i : Nat), te - i < n9 → (i ≤ te) → ∀ (x22_3 : Int), x22_3 = (mst (gtb gr db te j) (j + 1) i) → ∀ (x22_4 : Int), x22_4 = (lkS db te (j + 1) i) → ∀ (x22_5 : Int), x22_5 = ((i : Nat) : Int) → ∀ (H : Heap) (locs : List Loc), va_P D vwCl [((sa 0), .inr (8, [.ref rTx, .ref (h 0), .ref rDr, .ref (na 0), .ref rPa, .ref rIm, .ref rBk, .ref rHo, .ref rFi, .ref (ga 0), .long (zL tr)])), ((h 0), .inr (2, [.int (zI ((ro : Nat) : Int)), .int (zI ((te : Nat) : Int)), .int (zI ((ch : Nat) : Int)), .ref (h 1), .ref (h 2), .ref (h 3), .ref (h 4), .ref (h 5), .ref (h 6), .ref (h 7)])), ((h 1), .inl (cy 0, 6, .inl (zA pr))), ((h 2), .inl (cy 0, 6, .inl (zA sl))), ((h 3), .inl (cy 0, 6, .inl (zA mu))), ((h 4), .inl (cy 0, 6, .inl (zA wi))), ((h 5), .inl (cy 0, 6, .inl (zA ak))), ((h 6), .inl (cy 0, 6, .inl (zA (fun j => ((he j : Nat) : Int))))), ((h 7), .inl (cy 0, 5, .inl (zA (fun j => ((li j : Nat) : Int))))), ((na 0), .inr (5, [.int (zI day), .ref (na 1), .ref (na 2), .ref (na 3), .ref (na 4)])), ((na 1), .inl (cy 0, 6, .inl (zA hm))), ((na 2), .inl (cy 0, 6, .inl (zA tk))), ((na 3), .inl (cy 0, 6, .inl (zA py))), ((na 4), .inl (cy 0, 6, .inl (zA db))), ((ga 0), .inl (cy 0, 64, .inl (zA (gtb gr db te j))))] H → va_D A0 [((sa 0), .inr (8, [.ref rTx, .ref (h 0), .ref rDr, .ref (na 0), .ref rPa, .ref rIm, .ref rBk, .ref rHo, .ref rFi, .ref (ga 0), .long (zL tr)])), ((h 0), .inr (2, [.int (zI ((ro : Nat) : Int)), .int (zI ((te : Nat) : Int)), .int (zI ((ch : Nat) : Int)), .ref (h 1), .ref (h 2), .ref (h 3), .ref (h 4), .ref (h 5), .ref (h 6), .ref (h 7)])), ((h 1), .inl (cy 0, 6, .inl (zA pr))), ((h 2), .inl (cy 0, 6, .inl (zA sl))), ((h 3), .inl (cy 0, 6, .inl (zA mu))), ((h 4), .inl (cy 0, 6, .inl (zA wi))), ((h 5), .inl (cy 0, 6, .inl (zA ak))), ((h 6), .inl (cy 0, 6, .inl (zA (fun j => ((he j : Nat) : Int))))), ((h 7), .inl (cy 0, 5, .inl (zA (fun j => ((li j : Nat) : Int))))), ((na 0), .inr (5, [.int (zI day), .ref (na 1), .ref (na 2), .ref (na 3), .ref (na 4)])), ((na 1), .inl (cy 0, 6, .inl (zA hm))), ((na 2), .inl (cy 0, 6, .inl (zA tk))), ((na 3), .inl (cy 0, 6, .inl (zA py))), ((na 4), .inl (cy 0, 6, .inl (zA db))), ((ga 0), .inl (cy 0, 64, .inl (zA (gtb gr db te j))))] → va_S A0 s.heap H locs → ∀ ls : Array Slot, lv_has ls 6 [(0, .ref (sa 0)), (1, .int (zI ((ow : Nat) : Int))), (2, .int (zI ((j + 1 : Nat) : Int))), (3, .int (zI x22_3)), (4, .int (zI x22_4)), (5, .int (zI x22_5))] → W p l e rm_X8_mostGroups s m args below meth c H locs 0 0 Q (F0 m 22 ls []) := by
          intro n9
          induction n9 with
          | zero => intro i h9; exact absurd h9 (Nat.not_lt_zero _)
          | succ n9 ih22 =>
            intro i hmu22 hi x22_3 ex22_3 x22_4 ex22_4 x22_5 ex22_5 H locs hP hD hS ls hl
            subst ex22_3
            subst ex22_4
            subst ex22_5
            have hl : lv_has ls 6 [(0, .ref (sa 0)), (1, .int (zI ((ow : Nat) : Int))), (2, .int (zI ((j + 1 : Nat) : Int))), (3, .int (zI (mst (gtb gr db te j) (j + 1) i))), (4, .int (zI (lkS db te (j + 1) i))), (5, .int (zI ((i : Nat) : Int)))] := hl
            have hP : va_P D vwCl [((sa 0), .inr (8, [.ref rTx, .ref (h 0), .ref rDr, .ref (na 0), .ref rPa, .ref rIm, .ref rBk, .ref rHo, .ref rFi, .ref (ga 0), .long (zL tr)])), ((h 0), .inr (2, [.int (zI ((ro : Nat) : Int)), .int (zI ((te : Nat) : Int)), .int (zI ((ch : Nat) : Int)), .ref (h 1), .ref (h 2), .ref (h 3), .ref (h 4), .ref (h 5), .ref (h 6), .ref (h 7)])), ((h 1), .inl (cy 0, 6, .inl (zA pr))), ((h 2), .inl (cy 0, 6, .inl (zA sl))), ((h 3), .inl (cy 0, 6, .inl (zA mu))), ((h 4), .inl (cy 0, 6, .inl (zA wi))), ((h 5), .inl (cy 0, 6, .inl (zA ak))), ((h 6), .inl (cy 0, 6, .inl (zA (fun j => ((he j : Nat) : Int))))), ((h 7), .inl (cy 0, 5, .inl (zA (fun j => ((li j : Nat) : Int))))), ((na 0), .inr (5, [.int (zI day), .ref (na 1), .ref (na 2), .ref (na 3), .ref (na 4)])), ((na 1), .inl (cy 0, 6, .inl (zA hm))), ((na 2), .inl (cy 0, 6, .inl (zA tk))), ((na 3), .inl (cy 0, 6, .inl (zA py))), ((na 4), .inl (cy 0, 6, .inl (zA db))), ((ga 0), .inl (cy 0, 64, .inl (zA (gtb gr db te j))))] H := hP
            have hD : va_D A0 [((sa 0), .inr (8, [.ref rTx, .ref (h 0), .ref rDr, .ref (na 0), .ref rPa, .ref rIm, .ref rBk, .ref rHo, .ref rFi, .ref (ga 0), .long (zL tr)])), ((h 0), .inr (2, [.int (zI ((ro : Nat) : Int)), .int (zI ((te : Nat) : Int)), .int (zI ((ch : Nat) : Int)), .ref (h 1), .ref (h 2), .ref (h 3), .ref (h 4), .ref (h 5), .ref (h 6), .ref (h 7)])), ((h 1), .inl (cy 0, 6, .inl (zA pr))), ((h 2), .inl (cy 0, 6, .inl (zA sl))), ((h 3), .inl (cy 0, 6, .inl (zA mu))), ((h 4), .inl (cy 0, 6, .inl (zA wi))), ((h 5), .inl (cy 0, 6, .inl (zA ak))), ((h 6), .inl (cy 0, 6, .inl (zA (fun j => ((he j : Nat) : Int))))), ((h 7), .inl (cy 0, 5, .inl (zA (fun j => ((li j : Nat) : Int))))), ((na 0), .inr (5, [.int (zI day), .ref (na 1), .ref (na 2), .ref (na 3), .ref (na 4)])), ((na 1), .inl (cy 0, 6, .inl (zA hm))), ((na 2), .inl (cy 0, 6, .inl (zA tk))), ((na 3), .inl (cy 0, 6, .inl (zA py))), ((na 4), .inl (cy 0, 6, .inl (zA db))), ((ga 0), .inl (cy 0, 64, .inl (zA (gtb gr db te j))))] := hD
            have hm9 := mst_in (g := gtb gr db te j) (k := j + 1) (te := te) (B := 64) (by omega) (fun r _ _ => hgj _) i (by omega)
            have hl9 := lkS_in (fun i => hNB.2.2.2 i) te (j + 1) i
            refine lv_iload hx hb dX8_mostGroups_22 (lv_at hl 5 rfl) ?_
            refine lv_aload_n hx hb dX8_mostGroups_24 rfl (lv_at hl 0 rfl) ?_
            refine va_get (D := D) (ci := 8) (v := .ref (h 0)) (C := RX8) (T := TX8) (N := 11) hx hb hts hinX8 hown hK hP 0 rfl rfl 1 (by decide) (hts (.fieldLink RX8 19 "SilentRent" "built" "LSilentRent$House;") (List.mem_of_getElem? (i := 2) rfl)) (fun _ h9 => h9) rfl dX8_mostGroups_25 ?_
            refine va_get (D := D) (ci := 2) (v := .int (zI ((te : Nat) : Int))) (C := RX2) (T := TX2) (N := 10) hx hb hts hinX2 hown hK hP 1 rfl rfl 1 (by decide) (hts (.fieldLink RX8 161 "SilentRent$House" "tenants" "I") (List.mem_of_getElem? (i := 3) rfl)) (fun _ h9 => h9) rfl dX8_mostGroups_28 ?_
            refine z_icmp_ge (tgt := 76) hx hb ⟨by omega, by omega⟩ ⟨by omega, by omega⟩ dX8_mostGroups_31 (by decide) (fun c5 => ?_) (fun c5 => ?_)
            · have c5 : (te : Nat) ≤ (i : Nat) := by omega
              have hie : i = te := by omega
              have hr6 : (mst (gtb gr db te j) (j + 1) i) = (mst (gtb gr db te j) (j + 1) te) := by rw [hie]
              rw [hr6] at hl
              have hr7 : (lkS db te (j + 1) i) = (lkS db te (j + 1) te) := by rw [hie]
              rw [hr7] at hl
              have hl : lv_has ls 6 [(0, .ref (sa 0)), (1, .int (zI ((ow : Nat) : Int))), (2, .int (zI ((j + 1 : Nat) : Int))), (3, .int (zI (mst (gtb gr db te j) (j + 1) te))), (4, .int (zI (lkS db te (j + 1) te))), (5, .int (zI ((i : Nat) : Int)))] := hl
              refine lv_aload_n hx hb dX8_mostGroups_76 rfl (lv_at hl 0 rfl) ?_
              refine va_get (D := D) (ci := 8) (v := .ref (ga 0)) (C := RX8) (T := TX8) (N := 11) hx hb hts hinX8 hown hK hP 0 rfl rfl 9 (by decide) (hts (.fieldLink RX8 67 "SilentRent" "groups" "[I") (List.mem_of_getElem? (i := 1) rfl)) (fun _ h9 => h9) rfl dX8_mostGroups_77 ?_
              refine lv_iload_n hx hb dX8_mostGroups_80 rfl (lv_at hl 2 rfl) ?_
              refine lv_iload hx hb dX8_mostGroups_81 (lv_at hl 4 rfl) ?_
              have J10 : ∀ (z9 : Int), z9 = (if (lkS db te (j + 1) te) = 0 then ((mst (gtb gr db te j) (j + 1) te) + 1) else (mst (gtb gr db te j) (j + 1) te)) → ∀ (H : Heap) (locs : List Loc), va_P D vwCl [((sa 0), .inr (8, [.ref rTx, .ref (h 0), .ref rDr, .ref (na 0), .ref rPa, .ref rIm, .ref rBk, .ref rHo, .ref rFi, .ref (ga 0), .long (zL tr)])), ((h 0), .inr (2, [.int (zI ((ro : Nat) : Int)), .int (zI ((te : Nat) : Int)), .int (zI ((ch : Nat) : Int)), .ref (h 1), .ref (h 2), .ref (h 3), .ref (h 4), .ref (h 5), .ref (h 6), .ref (h 7)])), ((h 1), .inl (cy 0, 6, .inl (zA pr))), ((h 2), .inl (cy 0, 6, .inl (zA sl))), ((h 3), .inl (cy 0, 6, .inl (zA mu))), ((h 4), .inl (cy 0, 6, .inl (zA wi))), ((h 5), .inl (cy 0, 6, .inl (zA ak))), ((h 6), .inl (cy 0, 6, .inl (zA (fun j => ((he j : Nat) : Int))))), ((h 7), .inl (cy 0, 5, .inl (zA (fun j => ((li j : Nat) : Int))))), ((na 0), .inr (5, [.int (zI day), .ref (na 1), .ref (na 2), .ref (na 3), .ref (na 4)])), ((na 1), .inl (cy 0, 6, .inl (zA hm))), ((na 2), .inl (cy 0, 6, .inl (zA tk))), ((na 3), .inl (cy 0, 6, .inl (zA py))), ((na 4), .inl (cy 0, 6, .inl (zA db))), ((ga 0), .inl (cy 0, 64, .inl (zA (gtb gr db te j))))] H → va_D A0 [((sa 0), .inr (8, [.ref rTx, .ref (h 0), .ref rDr, .ref (na 0), .ref rPa, .ref rIm, .ref rBk, .ref rHo, .ref rFi, .ref (ga 0), .long (zL tr)])), ((h 0), .inr (2, [.int (zI ((ro : Nat) : Int)), .int (zI ((te : Nat) : Int)), .int (zI ((ch : Nat) : Int)), .ref (h 1), .ref (h 2), .ref (h 3), .ref (h 4), .ref (h 5), .ref (h 6), .ref (h 7)])), ((h 1), .inl (cy 0, 6, .inl (zA pr))), ((h 2), .inl (cy 0, 6, .inl (zA sl))), ((h 3), .inl (cy 0, 6, .inl (zA mu))), ((h 4), .inl (cy 0, 6, .inl (zA wi))), ((h 5), .inl (cy 0, 6, .inl (zA ak))), ((h 6), .inl (cy 0, 6, .inl (zA (fun j => ((he j : Nat) : Int))))), ((h 7), .inl (cy 0, 5, .inl (zA (fun j => ((li j : Nat) : Int))))), ((na 0), .inr (5, [.int (zI day), .ref (na 1), .ref (na 2), .ref (na 3), .ref (na 4)])), ((na 1), .inl (cy 0, 6, .inl (zA hm))), ((na 2), .inl (cy 0, 6, .inl (zA tk))), ((na 3), .inl (cy 0, 6, .inl (zA py))), ((na 4), .inl (cy 0, 6, .inl (zA db))), ((ga 0), .inl (cy 0, 64, .inl (zA (gtb gr db te j))))] → va_S A0 s.heap H locs → ∀ ls : Array Slot, lv_has ls 6 [(0, .ref (sa 0)), (1, .int (zI ((ow : Nat) : Int))), (2, .int (zI ((j + 1 : Nat) : Int))), (3, .int (zI (mst (gtb gr db te j) (j + 1) te))), (4, .int (zI (lkS db te (j + 1) te))), (5, .int (zI ((i : Nat) : Int)))] → W p l e rm_X8_mostGroups s m args below meth c H locs 0 0 Q (F0 m 93 ls [.int (zI z9), .int (zI ((j + 1 : Nat) : Int)), .ref (ga 0)]) := by
                intro z9 ez9 H locs hP hD hS ls hl
                subst ez9
                refine z_iast hx hb hK hP hD hS 14 0 (f := (gtb gr db te j)) rfl rfl (x := (if (lkS db te (j + 1) te) = 0 then ((mst (gtb gr db te j) (j + 1) te) + 1) else (mst (gtb gr db te j) (j + 1) te))) (j + 1) rfl (by omega) (by decide) dX8_mostGroups_93 (fun H locs hP hD hS => ?_)
                have hP : va_P D vwCl [((sa 0), .inr (8, [.ref rTx, .ref (h 0), .ref rDr, .ref (na 0), .ref rPa, .ref rIm, .ref rBk, .ref rHo, .ref rFi, .ref (ga 0), .long (zL tr)])), ((h 0), .inr (2, [.int (zI ((ro : Nat) : Int)), .int (zI ((te : Nat) : Int)), .int (zI ((ch : Nat) : Int)), .ref (h 1), .ref (h 2), .ref (h 3), .ref (h 4), .ref (h 5), .ref (h 6), .ref (h 7)])), ((h 1), .inl (cy 0, 6, .inl (zA pr))), ((h 2), .inl (cy 0, 6, .inl (zA sl))), ((h 3), .inl (cy 0, 6, .inl (zA mu))), ((h 4), .inl (cy 0, 6, .inl (zA wi))), ((h 5), .inl (cy 0, 6, .inl (zA ak))), ((h 6), .inl (cy 0, 6, .inl (zA (fun j => ((he j : Nat) : Int))))), ((h 7), .inl (cy 0, 5, .inl (zA (fun j => ((li j : Nat) : Int))))), ((na 0), .inr (5, [.int (zI day), .ref (na 1), .ref (na 2), .ref (na 3), .ref (na 4)])), ((na 1), .inl (cy 0, 6, .inl (zA hm))), ((na 2), .inl (cy 0, 6, .inl (zA tk))), ((na 3), .inl (cy 0, 6, .inl (zA py))), ((na 4), .inl (cy 0, 6, .inl (zA db))), ((ga 0), .inl (cy 0, 64, .inl (zA (va_up (gtb gr db te j) (j + 1) (if (lkS db te (j + 1) te) = 0 then ((mst (gtb gr db te j) (j + 1) te) + 1) else (mst (gtb gr db te j) (j + 1) te))))))] H := hP
                have hD : va_D A0 [((sa 0), .inr (8, [.ref rTx, .ref (h 0), .ref rDr, .ref (na 0), .ref rPa, .ref rIm, .ref rBk, .ref rHo, .ref rFi, .ref (ga 0), .long (zL tr)])), ((h 0), .inr (2, [.int (zI ((ro : Nat) : Int)), .int (zI ((te : Nat) : Int)), .int (zI ((ch : Nat) : Int)), .ref (h 1), .ref (h 2), .ref (h 3), .ref (h 4), .ref (h 5), .ref (h 6), .ref (h 7)])), ((h 1), .inl (cy 0, 6, .inl (zA pr))), ((h 2), .inl (cy 0, 6, .inl (zA sl))), ((h 3), .inl (cy 0, 6, .inl (zA mu))), ((h 4), .inl (cy 0, 6, .inl (zA wi))), ((h 5), .inl (cy 0, 6, .inl (zA ak))), ((h 6), .inl (cy 0, 6, .inl (zA (fun j => ((he j : Nat) : Int))))), ((h 7), .inl (cy 0, 5, .inl (zA (fun j => ((li j : Nat) : Int))))), ((na 0), .inr (5, [.int (zI day), .ref (na 1), .ref (na 2), .ref (na 3), .ref (na 4)])), ((na 1), .inl (cy 0, 6, .inl (zA hm))), ((na 2), .inl (cy 0, 6, .inl (zA tk))), ((na 3), .inl (cy 0, 6, .inl (zA py))), ((na 4), .inl (cy 0, 6, .inl (zA db))), ((ga 0), .inl (cy 0, 64, .inl (zA (va_up (gtb gr db te j) (j + 1) (if (lkS db te (j + 1) te) = 0 then ((mst (gtb gr db te j) (j + 1) te) + 1) else (mst (gtb gr db te j) (j + 1) te))))))] := hD
                have hw11 : ((va_up (gtb gr db te j) (j + 1) (if (lkS db te (j + 1) te) = 0 then ((mst (gtb gr db te j) (j + 1) te) + 1) else (mst (gtb gr db te j) (j + 1) te))) : Nat → Int) = (gtb gr db te (j + 1)) := by rfl
                rw [hw11] at hP hD
                have hP : va_P D vwCl [((sa 0), .inr (8, [.ref rTx, .ref (h 0), .ref rDr, .ref (na 0), .ref rPa, .ref rIm, .ref rBk, .ref rHo, .ref rFi, .ref (ga 0), .long (zL tr)])), ((h 0), .inr (2, [.int (zI ((ro : Nat) : Int)), .int (zI ((te : Nat) : Int)), .int (zI ((ch : Nat) : Int)), .ref (h 1), .ref (h 2), .ref (h 3), .ref (h 4), .ref (h 5), .ref (h 6), .ref (h 7)])), ((h 1), .inl (cy 0, 6, .inl (zA pr))), ((h 2), .inl (cy 0, 6, .inl (zA sl))), ((h 3), .inl (cy 0, 6, .inl (zA mu))), ((h 4), .inl (cy 0, 6, .inl (zA wi))), ((h 5), .inl (cy 0, 6, .inl (zA ak))), ((h 6), .inl (cy 0, 6, .inl (zA (fun j => ((he j : Nat) : Int))))), ((h 7), .inl (cy 0, 5, .inl (zA (fun j => ((li j : Nat) : Int))))), ((na 0), .inr (5, [.int (zI day), .ref (na 1), .ref (na 2), .ref (na 3), .ref (na 4)])), ((na 1), .inl (cy 0, 6, .inl (zA hm))), ((na 2), .inl (cy 0, 6, .inl (zA tk))), ((na 3), .inl (cy 0, 6, .inl (zA py))), ((na 4), .inl (cy 0, 6, .inl (zA db))), ((ga 0), .inl (cy 0, 64, .inl (zA (gtb gr db te (j + 1)))))] H := hP
                have hD : va_D A0 [((sa 0), .inr (8, [.ref rTx, .ref (h 0), .ref rDr, .ref (na 0), .ref rPa, .ref rIm, .ref rBk, .ref rHo, .ref rFi, .ref (ga 0), .long (zL tr)])), ((h 0), .inr (2, [.int (zI ((ro : Nat) : Int)), .int (zI ((te : Nat) : Int)), .int (zI ((ch : Nat) : Int)), .ref (h 1), .ref (h 2), .ref (h 3), .ref (h 4), .ref (h 5), .ref (h 6), .ref (h 7)])), ((h 1), .inl (cy 0, 6, .inl (zA pr))), ((h 2), .inl (cy 0, 6, .inl (zA sl))), ((h 3), .inl (cy 0, 6, .inl (zA mu))), ((h 4), .inl (cy 0, 6, .inl (zA wi))), ((h 5), .inl (cy 0, 6, .inl (zA ak))), ((h 6), .inl (cy 0, 6, .inl (zA (fun j => ((he j : Nat) : Int))))), ((h 7), .inl (cy 0, 5, .inl (zA (fun j => ((li j : Nat) : Int))))), ((na 0), .inr (5, [.int (zI day), .ref (na 1), .ref (na 2), .ref (na 3), .ref (na 4)])), ((na 1), .inl (cy 0, 6, .inl (zA hm))), ((na 2), .inl (cy 0, 6, .inl (zA tk))), ((na 3), .inl (cy 0, 6, .inl (zA py))), ((na 4), .inl (cy 0, 6, .inl (zA db))), ((ga 0), .inl (cy 0, 64, .inl (zA (gtb gr db te (j + 1)))))] := hD
                refine z_iinc (r := (((j + 1) + 1 : Nat) : Int)) (lv' := [(2, .int (zI (((j + 1) + 1 : Nat) : Int))), (0, .ref (sa 0)), (1, .int (zI ((ow : Nat) : Int))), (3, .int (zI (mst (gtb gr db te j) (j + 1) te))), (4, .int (zI (lkS db te (j + 1) te))), (5, .int (zI ((i : Nat) : Int)))]) hx hb (by omega) dX8_mostGroups_94 hl (k := 2) rfl (by decide) rfl (fun ls hl => ?_)
                refine lv_goto (tgt := 9) hx hb dX8_mostGroups_97 (by decide) ?_
                exact ih9 (j + 1) (by omega) (by omega) (((j + 1) + 1 : Nat) : Int) (by omega) (gtb gr db te (j + 1)) (by first | rfl | omega) _ _ hP hD hS ls (lv_sub hl [1, 2, 0] rfl)
              refine z_if_ne (tgt := 92) hx hb ⟨by omega, by omega⟩ dX8_mostGroups_83 (by decide) (fun c8 => ?_) (fun c8 => ?_)
              · refine lv_iload_n hx hb dX8_mostGroups_92 rfl (lv_at hl 3 rfl) ?_
                exact J10 (mst (gtb gr db te j) (j + 1) te) (by rw [if_neg c8]) _ _ hP hD hS ls (lv_sub hl [0, 1, 2, 3, 4, 5] rfl)
              · refine lv_iload_n hx hb dX8_mostGroups_86 rfl (lv_at hl 3 rfl) ?_
                refine lv_iconst (v := zI 1) hx hb dX8_mostGroups_87 rfl ?_
                refine z_iadd (r := ((mst (gtb gr db te j) (j + 1) te) + 1)) hx hb rfl dX8_mostGroups_88 ?_
                refine lv_goto (tgt := 93) hx hb dX8_mostGroups_89 (by decide) ?_
                exact J10 ((mst (gtb gr db te j) (j + 1) te) + 1) (by rw [if_pos c8]) _ _ hP hD hS ls (lv_sub hl [0, 1, 2, 3, 4, 5] rfl)
            · have c5 : ¬ ((te : Nat) ≤ (i : Nat)) := by omega
              refine lv_iload_n hx hb dX8_mostGroups_34 rfl (lv_at hl 2 rfl) ?_
              refine lv_iload hx hb dX8_mostGroups_35 (lv_at hl 5 rfl) ?_
              have hs12 := shr_le (j + 1) i
              refine z_ishr (r := (((j + 1) >>> i : Nat) : Int)) hx hb (zI_shr (a := j + 1) (k := i) (by omega) (by omega)) dX8_mostGroups_37 ?_
              refine lv_iconst (v := zI 1) hx hb dX8_mostGroups_38 rfl ?_
              have hq13 : ((j + 1) >>> i) &&& 1 ≤ ((j + 1) >>> i) := Nat.and_le_left
              refine z_iand (r := ((((j + 1) >>> i) &&& 1 : Nat) : Int)) hx hb (zI_and (a := (j + 1) >>> i) (b := 1) (by omega) (by omega)) dX8_mostGroups_39 ?_
              have J21 : ∀ (z19 : Int), z19 = (if (((j + 1) >>> i) &&& 1 : Nat) = (0 : Nat) then (mst (gtb gr db te j) (j + 1) i) else (max (mst (gtb gr db te j) (j + 1) i) ((gtb gr db te j) ((j + 1) ^^^ (2 ^ i))))) → ∀ (z20 : Int), z20 = (if (((j + 1) >>> i) &&& 1 : Nat) = (0 : Nat) then (lkS db te (j + 1) i) else ((lkS db te (j + 1) i) + (lsh db te i))) → ∀ (H : Heap) (locs : List Loc), va_P D vwCl [((sa 0), .inr (8, [.ref rTx, .ref (h 0), .ref rDr, .ref (na 0), .ref rPa, .ref rIm, .ref rBk, .ref rHo, .ref rFi, .ref (ga 0), .long (zL tr)])), ((h 0), .inr (2, [.int (zI ((ro : Nat) : Int)), .int (zI ((te : Nat) : Int)), .int (zI ((ch : Nat) : Int)), .ref (h 1), .ref (h 2), .ref (h 3), .ref (h 4), .ref (h 5), .ref (h 6), .ref (h 7)])), ((h 1), .inl (cy 0, 6, .inl (zA pr))), ((h 2), .inl (cy 0, 6, .inl (zA sl))), ((h 3), .inl (cy 0, 6, .inl (zA mu))), ((h 4), .inl (cy 0, 6, .inl (zA wi))), ((h 5), .inl (cy 0, 6, .inl (zA ak))), ((h 6), .inl (cy 0, 6, .inl (zA (fun j => ((he j : Nat) : Int))))), ((h 7), .inl (cy 0, 5, .inl (zA (fun j => ((li j : Nat) : Int))))), ((na 0), .inr (5, [.int (zI day), .ref (na 1), .ref (na 2), .ref (na 3), .ref (na 4)])), ((na 1), .inl (cy 0, 6, .inl (zA hm))), ((na 2), .inl (cy 0, 6, .inl (zA tk))), ((na 3), .inl (cy 0, 6, .inl (zA py))), ((na 4), .inl (cy 0, 6, .inl (zA db))), ((ga 0), .inl (cy 0, 64, .inl (zA (gtb gr db te j))))] H → va_D A0 [((sa 0), .inr (8, [.ref rTx, .ref (h 0), .ref rDr, .ref (na 0), .ref rPa, .ref rIm, .ref rBk, .ref rHo, .ref rFi, .ref (ga 0), .long (zL tr)])), ((h 0), .inr (2, [.int (zI ((ro : Nat) : Int)), .int (zI ((te : Nat) : Int)), .int (zI ((ch : Nat) : Int)), .ref (h 1), .ref (h 2), .ref (h 3), .ref (h 4), .ref (h 5), .ref (h 6), .ref (h 7)])), ((h 1), .inl (cy 0, 6, .inl (zA pr))), ((h 2), .inl (cy 0, 6, .inl (zA sl))), ((h 3), .inl (cy 0, 6, .inl (zA mu))), ((h 4), .inl (cy 0, 6, .inl (zA wi))), ((h 5), .inl (cy 0, 6, .inl (zA ak))), ((h 6), .inl (cy 0, 6, .inl (zA (fun j => ((he j : Nat) : Int))))), ((h 7), .inl (cy 0, 5, .inl (zA (fun j => ((li j : Nat) : Int))))), ((na 0), .inr (5, [.int (zI day), .ref (na 1), .ref (na 2), .ref (na 3), .ref (na 4)])), ((na 1), .inl (cy 0, 6, .inl (zA hm))), ((na 2), .inl (cy 0, 6, .inl (zA tk))), ((na 3), .inl (cy 0, 6, .inl (zA py))), ((na 4), .inl (cy 0, 6, .inl (zA db))), ((ga 0), .inl (cy 0, 64, .inl (zA (gtb gr db te j))))] → va_S A0 s.heap H locs → ∀ ls : Array Slot, lv_has ls 6 [(0, .ref (sa 0)), (1, .int (zI ((ow : Nat) : Int))), (2, .int (zI ((j + 1 : Nat) : Int))), (3, .int (zI z19)), (4, .int (zI z20)), (5, .int (zI ((i : Nat) : Int)))] → W p l e rm_X8_mostGroups s m args below meth c H locs 0 0 Q (F0 m 70 ls []) := by
                intro z19 ez19 z20 ez20 H locs hP hD hS ls hl
                subst ez19
                subst ez20
                refine z_iinc (r := ((i + 1 : Nat) : Int)) (lv' := [(5, .int (zI ((i + 1 : Nat) : Int))), (0, .ref (sa 0)), (1, .int (zI ((ow : Nat) : Int))), (2, .int (zI ((j + 1 : Nat) : Int))), (3, .int (zI (if (((j + 1) >>> i) &&& 1 : Nat) = (0 : Nat) then (mst (gtb gr db te j) (j + 1) i) else (max (mst (gtb gr db te j) (j + 1) i) ((gtb gr db te j) ((j + 1) ^^^ (2 ^ i))))))), (4, .int (zI (if (((j + 1) >>> i) &&& 1 : Nat) = (0 : Nat) then (lkS db te (j + 1) i) else ((lkS db te (j + 1) i) + (lsh db te i)))))]) hx hb (by omega) dX8_mostGroups_70 hl (k := 5) rfl (by decide) rfl (fun ls hl => ?_)
                refine lv_goto (tgt := 22) hx hb dX8_mostGroups_73 (by decide) ?_
                exact ih22 (i + 1) (by omega) (by omega) (if (((j + 1) >>> i) &&& 1 : Nat) = (0 : Nat) then (mst (gtb gr db te j) (j + 1) i) else (max (mst (gtb gr db te j) (j + 1) i) ((gtb gr db te j) ((j + 1) ^^^ (2 ^ i))))) (by (simp only [mst]) <;> (repeat' split) <;> first | rfl | omega) (if (((j + 1) >>> i) &&& 1 : Nat) = (0 : Nat) then (lkS db te (j + 1) i) else ((lkS db te (j + 1) i) + (lsh db te i))) (by (simp only [lkS]) <;> (repeat' split) <;> first | rfl | omega) ((i + 1 : Nat) : Int) (by first | rfl | omega) _ _ hP hD hS ls (lv_sub hl [1, 2, 3, 4, 5, 0] rfl)
              refine z_if_eq (tgt := 70) hx hb ⟨by omega, by omega⟩ dX8_mostGroups_40 (by decide) (fun c14 => ?_) (fun c14 => ?_)
              · have c14 : (((j + 1) >>> i) &&& 1 : Nat) = (0 : Nat) := by omega
                exact J21 (mst (gtb gr db te j) (j + 1) i) (by rw [if_pos c14]) (lkS db te (j + 1) i) (by rw [if_pos c14]) _ _ hP hD hS ls (lv_sub hl [0, 1, 2, 3, 4, 5] rfl)
              · have c14 : ¬ ((((j + 1) >>> i) &&& 1 : Nat) = (0 : Nat)) := by omega
                have hbx := hgj ((j + 1) ^^^ 2 ^ i)
                refine lv_iload_n hx hb dX8_mostGroups_43 rfl (lv_at hl 3 rfl) ?_
                refine lv_aload_n hx hb dX8_mostGroups_44 rfl (lv_at hl 0 rfl) ?_
                refine va_get (D := D) (ci := 8) (v := .ref (ga 0)) (C := RX8) (T := TX8) (N := 11) hx hb hts hinX8 hown hK hP 0 rfl rfl 9 (by decide) (hts (.fieldLink RX8 67 "SilentRent" "groups" "[I") (List.mem_of_getElem? (i := 1) rfl)) (fun _ h9 => h9) rfl dX8_mostGroups_45 ?_
                refine lv_iload_n hx hb dX8_mostGroups_48 rfl (lv_at hl 2 rfl) ?_
                refine lv_iconst (v := zI 1) hx hb dX8_mostGroups_49 rfl ?_
                refine lv_iload hx hb dX8_mostGroups_50 (lv_at hl 5 rfl) ?_
                have hp15 := pow_le3 i (by omega)
                refine z_ishl (r := ((2 ^ i : Nat) : Int)) hx hb (zI_shl1 i (by omega)) dX8_mostGroups_52 ?_
                have hq16 := xor_lt64 (a := (j + 1)) (b := (2 ^ i)) (by omega) (by omega)
                refine z_ixor (r := (((j + 1) ^^^ (2 ^ i) : Nat) : Int)) hx hb (zI_xor (a := j + 1) (b := 2 ^ i) (by omega) (by omega)) dX8_mostGroups_53 ?_
                refine z_iald hx hb hK hP 14 0 (f := (gtb gr db te j)) rfl rfl ((j + 1) ^^^ (2 ^ i)) rfl (by omega) (by decide) dX8_mostGroups_54 ?_
                have hb17 := hgr ((j + 1) ^^^ (2 ^ i))
                refine z_mmax (r := (max (mst (gtb gr db te j) (j + 1) i) ((gtb gr db te j) ((j + 1) ^^^ (2 ^ i))))) hx hb (by rw [hml]; exact hl.1.symm) hown (hts (.methodLink RX8 170 Lib.Math.max.name) (List.mem_of_getElem? (i := 4) rfl)) (hts (.static Lib.Math.max.name) (List.mem_of_getElem? (i := 5) rfl)) (hts (.initialized "java/lang/Math") (List.mem_of_getElem? (i := 6) rfl)) (hts (.code Lib.Math.max.name Lib.Math.max.code 2 (some .int)) (List.mem_of_getElem? (i := 7) rfl)) (Nat.le_of_ble_eq_true rfl) (Nat.le_of_ble_eq_true rfl) (Nat.zero_le _) (Nat.zero_le _) ⟨by omega, by omega⟩ ⟨by omega, by omega⟩ (by omega) dX8_mostGroups_55 ?_
                refine lv_istore_n (lv' := [(3, .int (zI (max (mst (gtb gr db te j) (j + 1) i) ((gtb gr db te j) ((j + 1) ^^^ (2 ^ i)))))), (0, .ref (sa 0)), (1, .int (zI ((ow : Nat) : Int))), (2, .int (zI ((j + 1 : Nat) : Int))), (4, .int (zI (lkS db te (j + 1) i))), (5, .int (zI ((i : Nat) : Int)))]) hx hb dX8_mostGroups_58 rfl hl (by decide) rfl (fun ls hl => ?_)
                refine lv_iload hx hb dX8_mostGroups_59 (lv_at hl 4 rfl) ?_
                refine lv_aload_n hx hb dX8_mostGroups_61 rfl (lv_at hl 1 rfl) ?_
                refine lv_iload hx hb dX8_mostGroups_62 (lv_at hl 5 rfl) ?_
                have hPc18 := hP.sub (ws' := [((sa 0), .inr (8, [.ref rTx, .ref (h 0), .ref rDr, .ref (na 0), .ref rPa, .ref rIm, .ref rBk, .ref rHo, .ref rFi, .ref (ga 0), .long (zL tr)])), ((h 0), .inr (2, [.int (zI ((ro : Nat) : Int)), .int (zI ((te : Nat) : Int)), .int (zI ((ch : Nat) : Int)), .ref (h 1), .ref (h 2), .ref (h 3), .ref (h 4), .ref (h 5), .ref (h 6), .ref (h 7)])), ((h 1), .inl (cy 0, 6, .inl (zA pr))), ((h 2), .inl (cy 0, 6, .inl (zA sl))), ((h 3), .inl (cy 0, 6, .inl (zA mu))), ((h 4), .inl (cy 0, 6, .inl (zA wi))), ((h 5), .inl (cy 0, 6, .inl (zA ak))), ((h 6), .inl (cy 0, 6, .inl (zA (fun j => ((he j : Nat) : Int))))), ((h 7), .inl (cy 0, 5, .inl (zA (fun j => ((li j : Nat) : Int))))), ((na 0), .inr (5, [.int (zI day), .ref (na 1), .ref (na 2), .ref (na 3), .ref (na 4)])), ((na 1), .inl (cy 0, 6, .inl (zA hm))), ((na 2), .inl (cy 0, 6, .inl (zA tk))), ((na 3), .inl (cy 0, 6, .inl (zA py))), ((na 4), .inl (cy 0, 6, .inl (zA db)))]) [0, 1, 2, 3, 4, 5, 6, 7, 8, 9, 10, 11, 12, 13] rfl
                refine zr_callV (rest := [.int (zI (lkS db te (j + 1) i))]) (As := [.int (zI ((i : Nat) : Int))]) (v := (lsh db te i)) ⟨hx, hb, hml, hown, hts⟩ (c_X8_lackingShare l D cy sa rTx rDr rPa rIm rBk rHo rFi (ga 0) tr h ro te ch pr sl mu wi ak he li na day hm tk py db ((i : Nat) : Int) (by omega) (by omega) hNB) (cwV 1 hts gX8_mostGroups_X8_lackingShare rfl rfl rfl (by decide +kernel) ⟨Nat.le_of_ble_eq_true rfl, Nat.le_of_ble_eq_true rfl⟩) hK hPc18 0 8 rfl rfl rfl hl.1 rfl (Nat.le_of_ble_eq_true rfl) dX8_mostGroups_64 ⟨Nat.zero_le _, Nat.zero_le _⟩ ?_
                refine z_iadd (r := ((lkS db te (j + 1) i) + (lsh db te i))) hx hb rfl dX8_mostGroups_67 ?_
                refine lv_istore (lv' := [(4, .int (zI ((lkS db te (j + 1) i) + (lsh db te i)))), (3, .int (zI (max (mst (gtb gr db te j) (j + 1) i) ((gtb gr db te j) ((j + 1) ^^^ (2 ^ i)))))), (0, .ref (sa 0)), (1, .int (zI ((ow : Nat) : Int))), (2, .int (zI ((j + 1 : Nat) : Int))), (5, .int (zI ((i : Nat) : Int)))]) hx hb dX8_mostGroups_68 hl (by decide) rfl (fun ls hl => ?_)
                exact J21 (max (mst (gtb gr db te j) (j + 1) i) ((gtb gr db te j) ((j + 1) ^^^ (2 ^ i)))) (by rw [if_neg c14]) ((lkS db te (j + 1) i) + (lsh db te i)) (by rw [if_neg c14]) _ _ hP hD hS ls (lv_sub hl [2, 3, 4, 1, 0, 5] rfl)
        exact loop22 ((te - 0) + 1) 0 (by omega) (by omega) 0 rfl 0 rfl 0 (by first | rfl | omega | simp) _ _ hP hD hS ls (lv_sub hl [3, 4, 5, 2, 1, 0] rfl)
  exact loop9 ((ow - 0) + 1) 0 (by omega) (by omega) 1 rfl (gtb gr db te 0) (by first | rfl | omega | simp) _ _ hP hD hS ls (lv_sub hl [1, 2, 0] rfl)
abbrev rm_X8_payments : Room := { frames := 3, cells := 0, slots := 0, locals := 71 }
set_option maxHeartbeats 4000000 in
set_option maxRecDepth 100000 in
theorem c_X8_payments (l : Launch) (D : va_G) (cy : Nat → ClassId) (sa : Nat → Nat) (rTx : Nat) (rDr : Nat) (rPa : Nat) (rIm : Nat) (rBk : Nat) (rHo : Nat) (rFi : Nat) (tr : Int) (h : Nat → Nat) (ro : Nat) (te : Nat) (ch : Nat) (pr : Nat → Int) (sl : Nat → Int) (mu : Nat → Int) (wi : Nat → Int) (ak : Nat → Int) (he : Nat → Nat) (li : Nat → Nat) (na : Nat → Nat) (day : Int) (hm : Nat → Int) (tk : Nat → Int) (py : Nat → Int) (db : Nat → Int) (ga : Nat → Nat) (gr : Nat → Int) (hte : te ≤ 6) (hHB : HB pr sl mu wi ak he li) (hNB : NB hm tk py db) (hgr : ∀ k, 0 ≤ gr k ∧ gr k ≤ 64) : Met l yX8_payments wsX8_payments rm_X8_payments (pM D cy [((sa 0), .inr (8, [.ref rTx, .ref (h 0), .ref rDr, .ref (na 0), .ref rPa, .ref rIm, .ref rBk, .ref rHo, .ref rFi, .ref (ga 0), .long (zL tr)])), ((h 0), .inr (2, [.int (zI ((ro : Nat) : Int)), .int (zI ((te : Nat) : Int)), .int (zI ((ch : Nat) : Int)), .ref (h 1), .ref (h 2), .ref (h 3), .ref (h 4), .ref (h 5), .ref (h 6), .ref (h 7)])), ((h 1), .inl (cy 0, 6, .inl (zA pr))), ((h 2), .inl (cy 0, 6, .inl (zA sl))), ((h 3), .inl (cy 0, 6, .inl (zA mu))), ((h 4), .inl (cy 0, 6, .inl (zA wi))), ((h 5), .inl (cy 0, 6, .inl (zA ak))), ((h 6), .inl (cy 0, 6, .inl (zA (fun j => ((he j : Nat) : Int))))), ((h 7), .inl (cy 0, 5, .inl (zA (fun j => ((li j : Nat) : Int))))), ((na 0), .inr (5, [.int (zI day), .ref (na 1), .ref (na 2), .ref (na 3), .ref (na 4)])), ((na 1), .inl (cy 0, 6, .inl (zA hm))), ((na 2), .inl (cy 0, 6, .inl (zA tk))), ((na 3), .inl (cy 0, 6, .inl (zA py))), ((na 4), .inl (cy 0, 6, .inl (zA db))), ((ga 0), .inl (cy 0, 64, .inl (zA gr)))] [.ref (sa 0)]) (qM D (some (.int (zI ((popc (owg db te) : Int) - gtb gr db te (owg db te) (owg db te))))) [((sa 0), .inr (8, [.ref rTx, .ref (h 0), .ref rDr, .ref (na 0), .ref rPa, .ref rIm, .ref rBk, .ref rHo, .ref rFi, .ref (ga 0), .long (zL tr)])), ((h 0), .inr (2, [.int (zI ((ro : Nat) : Int)), .int (zI ((te : Nat) : Int)), .int (zI ((ch : Nat) : Int)), .ref (h 1), .ref (h 2), .ref (h 3), .ref (h 4), .ref (h 5), .ref (h 6), .ref (h 7)])), ((h 1), .inl (cy 0, 6, .inl (zA pr))), ((h 2), .inl (cy 0, 6, .inl (zA sl))), ((h 3), .inl (cy 0, 6, .inl (zA mu))), ((h 4), .inl (cy 0, 6, .inl (zA wi))), ((h 5), .inl (cy 0, 6, .inl (zA ak))), ((h 6), .inl (cy 0, 6, .inl (zA (fun j => ((he j : Nat) : Int))))), ((h 7), .inl (cy 0, 5, .inl (zA (fun j => ((li j : Nat) : Int))))), ((na 0), .inr (5, [.int (zI day), .ref (na 1), .ref (na 2), .ref (na 3), .ref (na 4)])), ((na 1), .inl (cy 0, 6, .inl (zA hm))), ((na 2), .inl (cy 0, 6, .inl (zA tk))), ((na 3), .inl (cy 0, 6, .inl (zA py))), ((na 4), .inl (cy 0, 6, .inl (zA db))), ((ga 0), .inl (cy 0, 64, .inl (zA gr)))] [((sa 0), .inr (8, [.ref rTx, .ref (h 0), .ref rDr, .ref (na 0), .ref rPa, .ref rIm, .ref rBk, .ref rHo, .ref rFi, .ref (ga 0), .long (zL tr)])), ((h 0), .inr (2, [.int (zI ((ro : Nat) : Int)), .int (zI ((te : Nat) : Int)), .int (zI ((ch : Nat) : Int)), .ref (h 1), .ref (h 2), .ref (h 3), .ref (h 4), .ref (h 5), .ref (h 6), .ref (h 7)])), ((h 1), .inl (cy 0, 6, .inl (zA pr))), ((h 2), .inl (cy 0, 6, .inl (zA sl))), ((h 3), .inl (cy 0, 6, .inl (zA mu))), ((h 4), .inl (cy 0, 6, .inl (zA wi))), ((h 5), .inl (cy 0, 6, .inl (zA ak))), ((h 6), .inl (cy 0, 6, .inl (zA (fun j => ((he j : Nat) : Int))))), ((h 7), .inl (cy 0, 5, .inl (zA (fun j => ((li j : Nat) : Int))))), ((na 0), .inr (5, [.int (zI day), .ref (na 1), .ref (na 2), .ref (na 3), .ref (na 4)])), ((na 1), .inl (cy 0, 6, .inl (zA hm))), ((na 2), .inl (cy 0, 6, .inl (zA tk))), ((na 3), .inl (cy 0, 6, .inl (zA py))), ((na 4), .inl (cy 0, 6, .inl (zA db))), ((ga 0), .inl (cy 0, 64, .inl (zA (gtb gr db te (owg db te)))))]) 0 0 (inW [((sa 0), .inr (8, [.ref rTx, .ref (h 0), .ref rDr, .ref (na 0), .ref rPa, .ref rIm, .ref rBk, .ref rHo, .ref rFi, .ref (ga 0), .long (zL tr)])), ((h 0), .inr (2, [.int (zI ((ro : Nat) : Int)), .int (zI ((te : Nat) : Int)), .int (zI ((ch : Nat) : Int)), .ref (h 1), .ref (h 2), .ref (h 3), .ref (h 4), .ref (h 5), .ref (h 6), .ref (h 7)])), ((h 1), .inl (cy 0, 6, .inl (zA pr))), ((h 2), .inl (cy 0, 6, .inl (zA sl))), ((h 3), .inl (cy 0, 6, .inl (zA mu))), ((h 4), .inl (cy 0, 6, .inl (zA wi))), ((h 5), .inl (cy 0, 6, .inl (zA ak))), ((h 6), .inl (cy 0, 6, .inl (zA (fun j => ((he j : Nat) : Int))))), ((h 7), .inl (cy 0, 5, .inl (zA (fun j => ((li j : Nat) : Int))))), ((na 0), .inr (5, [.int (zI day), .ref (na 1), .ref (na 2), .ref (na 3), .ref (na 4)])), ((na 1), .inl (cy 0, 6, .inl (zA hm))), ((na 2), .inl (cy 0, 6, .inl (zA tk))), ((na 3), .inl (cy 0, 6, .inl (zA py))), ((na 4), .inl (cy 0, 6, .inl (zA db))), ((ga 0), .inl (cy 0, 64, .inl (zA gr)))]) := by
  refine met_M (cc := cX8_payments) (maxL := 3) (ret := (some .int)) RX8 (by decide) rfl rfl (Nat.le_of_ble_eq_true rfl) ?_
  intro p e s m args below meth c ls Q A0 hx hb hr hml hts hown hlocks hQ hA0 hP hK hD hS hl
  have hl : lv_has ls 3 [(0, .ref (sa 0))] := hl
  have hP : va_P D vwCl [((sa 0), .inr (8, [.ref rTx, .ref (h 0), .ref rDr, .ref (na 0), .ref rPa, .ref rIm, .ref rBk, .ref rHo, .ref rFi, .ref (ga 0), .long (zL tr)])), ((h 0), .inr (2, [.int (zI ((ro : Nat) : Int)), .int (zI ((te : Nat) : Int)), .int (zI ((ch : Nat) : Int)), .ref (h 1), .ref (h 2), .ref (h 3), .ref (h 4), .ref (h 5), .ref (h 6), .ref (h 7)])), ((h 1), .inl (cy 0, 6, .inl (zA pr))), ((h 2), .inl (cy 0, 6, .inl (zA sl))), ((h 3), .inl (cy 0, 6, .inl (zA mu))), ((h 4), .inl (cy 0, 6, .inl (zA wi))), ((h 5), .inl (cy 0, 6, .inl (zA ak))), ((h 6), .inl (cy 0, 6, .inl (zA (fun j => ((he j : Nat) : Int))))), ((h 7), .inl (cy 0, 5, .inl (zA (fun j => ((li j : Nat) : Int))))), ((na 0), .inr (5, [.int (zI day), .ref (na 1), .ref (na 2), .ref (na 3), .ref (na 4)])), ((na 1), .inl (cy 0, 6, .inl (zA hm))), ((na 2), .inl (cy 0, 6, .inl (zA tk))), ((na 3), .inl (cy 0, 6, .inl (zA py))), ((na 4), .inl (cy 0, 6, .inl (zA db))), ((ga 0), .inl (cy 0, 64, .inl (zA gr)))] s.heap := hP
  have hinX2 : ∀ w ∈ wsX20, w ∈ wsX8_payments := (fun w h => List.mem_cons_of_mem _ (List.mem_append_left _ (List.mem_append_right _ h)))
  have hinX8 : ∀ w ∈ wsX80, w ∈ wsX8_payments := (fun w h => List.mem_cons_of_mem _ (List.mem_append_left _ (List.mem_append_left _ (List.mem_append_right _ h))))
  have hpw := pow_le64 te (by omega)
  have how9 : owg db te < 2 ^ te := bits_lt _ _
  refine lv_iconst (v := zI 0) hx hb dX8_payments_0 rfl ?_
  refine lv_istore_n (lv' := [(1, .int (zI 0)), (0, .ref (sa 0))]) hx hb dX8_payments_1 rfl hl (by decide) rfl (fun ls hl => ?_)
  refine lv_iconst (v := zI 0) hx hb dX8_payments_2 rfl ?_
  refine lv_istore_n (lv' := [(2, .int (zI 0)), (1, .int (zI 0)), (0, .ref (sa 0))]) hx hb dX8_payments_3 rfl hl (by decide) rfl (fun ls hl => ?_)
  have loop4 : ∀ (n9 : Nat) (i : Nat), te - i < n9 → (i ≤ te) → ∀ (x4_1 : Int), x4_1 = ((bits (fun t => decide (¬ lsh db te t = 0)) i : Nat) : Int) → ∀ (x4_2 : Int), x4_2 = ((i : Nat) : Int) → ∀ (H : Heap) (locs : List Loc), va_P D vwCl [((sa 0), .inr (8, [.ref rTx, .ref (h 0), .ref rDr, .ref (na 0), .ref rPa, .ref rIm, .ref rBk, .ref rHo, .ref rFi, .ref (ga 0), .long (zL tr)])), ((h 0), .inr (2, [.int (zI ((ro : Nat) : Int)), .int (zI ((te : Nat) : Int)), .int (zI ((ch : Nat) : Int)), .ref (h 1), .ref (h 2), .ref (h 3), .ref (h 4), .ref (h 5), .ref (h 6), .ref (h 7)])), ((h 1), .inl (cy 0, 6, .inl (zA pr))), ((h 2), .inl (cy 0, 6, .inl (zA sl))), ((h 3), .inl (cy 0, 6, .inl (zA mu))), ((h 4), .inl (cy 0, 6, .inl (zA wi))), ((h 5), .inl (cy 0, 6, .inl (zA ak))), ((h 6), .inl (cy 0, 6, .inl (zA (fun j => ((he j : Nat) : Int))))), ((h 7), .inl (cy 0, 5, .inl (zA (fun j => ((li j : Nat) : Int))))), ((na 0), .inr (5, [.int (zI day), .ref (na 1), .ref (na 2), .ref (na 3), .ref (na 4)])), ((na 1), .inl (cy 0, 6, .inl (zA hm))), ((na 2), .inl (cy 0, 6, .inl (zA tk))), ((na 3), .inl (cy 0, 6, .inl (zA py))), ((na 4), .inl (cy 0, 6, .inl (zA db))), ((ga 0), .inl (cy 0, 64, .inl (zA gr)))] H → va_D A0 [((sa 0), .inr (8, [.ref rTx, .ref (h 0), .ref rDr, .ref (na 0), .ref rPa, .ref rIm, .ref rBk, .ref rHo, .ref rFi, .ref (ga 0), .long (zL tr)])), ((h 0), .inr (2, [.int (zI ((ro : Nat) : Int)), .int (zI ((te : Nat) : Int)), .int (zI ((ch : Nat) : Int)), .ref (h 1), .ref (h 2), .ref (h 3), .ref (h 4), .ref (h 5), .ref (h 6), .ref (h 7)])), ((h 1), .inl (cy 0, 6, .inl (zA pr))), ((h 2), .inl (cy 0, 6, .inl (zA sl))), ((h 3), .inl (cy 0, 6, .inl (zA mu))), ((h 4), .inl (cy 0, 6, .inl (zA wi))), ((h 5), .inl (cy 0, 6, .inl (zA ak))), ((h 6), .inl (cy 0, 6, .inl (zA (fun j => ((he j : Nat) : Int))))), ((h 7), .inl (cy 0, 5, .inl (zA (fun j => ((li j : Nat) : Int))))), ((na 0), .inr (5, [.int (zI day), .ref (na 1), .ref (na 2), .ref (na 3), .ref (na 4)])), ((na 1), .inl (cy 0, 6, .inl (zA hm))), ((na 2), .inl (cy 0, 6, .inl (zA tk))), ((na 3), .inl (cy 0, 6, .inl (zA py))), ((na 4), .inl (cy 0, 6, .inl (zA db))), ((ga 0), .inl (cy 0, 64, .inl (zA gr)))] → va_S A0 s.heap H locs → ∀ ls : Array Slot, lv_has ls 3 [(0, .ref (sa 0)), (1, .int (zI x4_1)), (2, .int (zI x4_2))] → W p l e rm_X8_payments s m args below meth c H locs 0 0 Q (F0 m 4 ls []) := by
    intro n9
    induction n9 with
    | zero => intro i h9; exact absurd h9 (Nat.not_lt_zero _)
    | succ n9 ih4 =>
      intro i hmu4 hi x4_1 ex4_1 x4_2 ex4_2 H locs hP hD hS ls hl
      subst ex4_1
      subst ex4_2
      have hl : lv_has ls 3 [(0, .ref (sa 0)), (1, .int (zI ((bits (fun t => decide (¬ lsh db te t = 0)) i : Nat) : Int))), (2, .int (zI ((i : Nat) : Int)))] := hl
      have hP : va_P D vwCl [((sa 0), .inr (8, [.ref rTx, .ref (h 0), .ref rDr, .ref (na 0), .ref rPa, .ref rIm, .ref rBk, .ref rHo, .ref rFi, .ref (ga 0), .long (zL tr)])), ((h 0), .inr (2, [.int (zI ((ro : Nat) : Int)), .int (zI ((te : Nat) : Int)), .int (zI ((ch : Nat) : Int)), .ref (h 1), .ref (h 2), .ref (h 3), .ref (h 4), .ref (h 5), .ref (h 6), .ref (h 7)])), ((h 1), .inl (cy 0, 6, .inl (zA pr))), ((h 2), .inl (cy 0, 6, .inl (zA sl))), ((h 3), .inl (cy 0, 6, .inl (zA mu))), ((h 4), .inl (cy 0, 6, .inl (zA wi))), ((h 5), .inl (cy 0, 6, .inl (zA ak))), ((h 6), .inl (cy 0, 6, .inl (zA (fun j => ((he j : Nat) : Int))))), ((h 7), .inl (cy 0, 5, .inl (zA (fun j => ((li j : Nat) : Int))))), ((na 0), .inr (5, [.int (zI day), .ref (na 1), .ref (na 2), .ref (na 3), .ref (na 4)])), ((na 1), .inl (cy 0, 6, .inl (zA hm))), ((na 2), .inl (cy 0, 6, .inl (zA tk))), ((na 3), .inl (cy 0, 6, .inl (zA py))), ((na 4), .inl (cy 0, 6, .inl (zA db))), ((ga 0), .inl (cy 0, 64, .inl (zA gr)))] H := hP
      have hD : va_D A0 [((sa 0), .inr (8, [.ref rTx, .ref (h 0), .ref rDr, .ref (na 0), .ref rPa, .ref rIm, .ref rBk, .ref rHo, .ref rFi, .ref (ga 0), .long (zL tr)])), ((h 0), .inr (2, [.int (zI ((ro : Nat) : Int)), .int (zI ((te : Nat) : Int)), .int (zI ((ch : Nat) : Int)), .ref (h 1), .ref (h 2), .ref (h 3), .ref (h 4), .ref (h 5), .ref (h 6), .ref (h 7)])), ((h 1), .inl (cy 0, 6, .inl (zA pr))), ((h 2), .inl (cy 0, 6, .inl (zA sl))), ((h 3), .inl (cy 0, 6, .inl (zA mu))), ((h 4), .inl (cy 0, 6, .inl (zA wi))), ((h 5), .inl (cy 0, 6, .inl (zA ak))), ((h 6), .inl (cy 0, 6, .inl (zA (fun j => ((he j : Nat) : Int))))), ((h 7), .inl (cy 0, 5, .inl (zA (fun j => ((li j : Nat) : Int))))), ((na 0), .inr (5, [.int (zI day), .ref (na 1), .ref (na 2), .ref (na 3), .ref (na 4)])), ((na 1), .inl (cy 0, 6, .inl (zA hm))), ((na 2), .inl (cy 0, 6, .inl (zA tk))), ((na 3), .inl (cy 0, 6, .inl (zA py))), ((na 4), .inl (cy 0, 6, .inl (zA db))), ((ga 0), .inl (cy 0, 64, .inl (zA gr)))] := hD
      have hf1 := bits_lt64 (fun t => decide (¬ lsh db te t = 0)) i (by omega)
      have hl9 := lsh_in (fun i => hNB.2.2.2 i) te i
      refine lv_iload_n hx hb dX8_payments_4 rfl (lv_at hl 2 rfl) ?_
      refine lv_aload_n hx hb dX8_payments_5 rfl (lv_at hl 0 rfl) ?_
      refine va_get (D := D) (ci := 8) (v := .ref (h 0)) (C := RX8) (T := TX8) (N := 11) hx hb hts hinX8 hown hK hP 0 rfl rfl 1 (by decide) (hts (.fieldLink RX8 19 "SilentRent" "built" "LSilentRent$House;") (List.mem_of_getElem? (i := 1) rfl)) (fun _ h9 => h9) rfl dX8_payments_6 ?_
      refine va_get (D := D) (ci := 2) (v := .int (zI ((te : Nat) : Int))) (C := RX2) (T := TX2) (N := 10) hx hb hts hinX2 hown hK hP 1 rfl rfl 1 (by decide) (hts (.fieldLink RX8 161 "SilentRent$House" "tenants" "I") (List.mem_of_getElem? (i := 2) rfl)) (fun _ h9 => h9) rfl dX8_payments_9 ?_
      refine z_icmp_ge (tgt := 35) hx hb ⟨by omega, by omega⟩ ⟨by omega, by omega⟩ dX8_payments_12 (by decide) (fun c1 => ?_) (fun c1 => ?_)
      · have c1 : (te : Nat) ≤ (i : Nat) := by omega
        have hie : i = te := by omega
        have hr2 : ((bits (fun t => decide (¬ lsh db te t = 0)) i : Nat) : Int) = ((owg db te : Nat) : Int) := by rw [hie]; rfl
        rw [hr2] at hl
        have hl : lv_has ls 3 [(0, .ref (sa 0)), (1, .int (zI ((owg db te : Nat) : Int))), (2, .int (zI ((i : Nat) : Int)))] := hl
        refine lv_iload_n hx hb dX8_payments_35 rfl (lv_at hl 1 rfl) ?_
        have hPc3 := hP.sub (ws' := []) [] rfl
        refine zr_callS (rest := []) (As := [.int (zI ((owg db te : Nat) : Int))]) (v := ((popc (owg db te) : Nat) : Int)) (wd := []) ⟨hx, hb, hml, hown, hts⟩ (c_J6_bitCount_0f7a4 l D cy (owg db te) (by omega)) (va_cwS 1 hts gX8_payments_J6_bitCount_0f7a4 rfl rfl rfl (by decide +kernel) ⟨Nat.le_of_ble_eq_true rfl, Nat.le_of_ble_eq_true rfl⟩) hK (fun k q h => by cases h) rfl hl.1 rfl (Nat.le_of_ble_eq_true rfl) dX8_payments_36 ⟨Nat.zero_le _, Nat.zero_le _⟩ ?_
        refine lv_aload_n hx hb dX8_payments_39 rfl (lv_at hl 0 rfl) ?_
        refine lv_iload_n hx hb dX8_payments_40 rfl (lv_at hl 1 rfl) ?_
        refine zm_callV (rest := [.int (zI ((popc (owg db te) : Nat) : Int))]) (As := [.int (zI ((owg db te : Nat) : Int))]) (ws' := [((sa 0), .inr (8, [.ref rTx, .ref (h 0), .ref rDr, .ref (na 0), .ref rPa, .ref rIm, .ref rBk, .ref rHo, .ref rFi, .ref (ga 0), .long (zL tr)])), ((h 0), .inr (2, [.int (zI ((ro : Nat) : Int)), .int (zI ((te : Nat) : Int)), .int (zI ((ch : Nat) : Int)), .ref (h 1), .ref (h 2), .ref (h 3), .ref (h 4), .ref (h 5), .ref (h 6), .ref (h 7)])), ((h 1), .inl (cy 0, 6, .inl (zA pr))), ((h 2), .inl (cy 0, 6, .inl (zA sl))), ((h 3), .inl (cy 0, 6, .inl (zA mu))), ((h 4), .inl (cy 0, 6, .inl (zA wi))), ((h 5), .inl (cy 0, 6, .inl (zA ak))), ((h 6), .inl (cy 0, 6, .inl (zA (fun j => ((he j : Nat) : Int))))), ((h 7), .inl (cy 0, 5, .inl (zA (fun j => ((li j : Nat) : Int))))), ((na 0), .inr (5, [.int (zI day), .ref (na 1), .ref (na 2), .ref (na 3), .ref (na 4)])), ((na 1), .inl (cy 0, 6, .inl (zA hm))), ((na 2), .inl (cy 0, 6, .inl (zA tk))), ((na 3), .inl (cy 0, 6, .inl (zA py))), ((na 4), .inl (cy 0, 6, .inl (zA db))), ((ga 0), .inl (cy 0, 64, .inl (zA (gtb gr db te (owg db te)))))]) ⟨hx, hb, hml, hown, hts⟩ (c_X8_mostGroups l D cy sa rTx rDr rPa rIm rBk rHo rFi tr h ro te ch pr sl mu wi ak he li na day hm tk py db ga gr (owg db te) (by omega) (by omega) hHB hNB hgr) (cwV 1 hts gX8_payments_X8_mostGroups rfl rfl rfl (by decide +kernel) ⟨Nat.le_of_ble_eq_true rfl, Nat.le_of_ble_eq_true rfl⟩) hK hP hD hS [0, 1, 2, 3, 4, 5, 6, 7, 8, 9, 10, 11, 12, 13, 14] [some 0, some 1, some 2, some 3, some 4, some 5, some 6, some 7, some 8, some 9, some 10, some 11, some 12, some 13, some 14] rfl rfl rfl (by decide) rfl 0 8 rfl rfl rfl hl.1 rfl (Nat.le_of_ble_eq_true rfl) dX8_payments_41 ⟨Nat.zero_le _, Nat.zero_le _⟩ (fun H locs hP hD hS => ?_)
        refine z_isub (r := (((popc (owg db te) : Nat) : Int) - (gtb gr db te (owg db te) (owg db te)))) hx hb rfl dX8_payments_44 ?_
        have hP : va_P D vwCl [((sa 0), .inr (8, [.ref rTx, .ref (h 0), .ref rDr, .ref (na 0), .ref rPa, .ref rIm, .ref rBk, .ref rHo, .ref rFi, .ref (ga 0), .long (zL tr)])), ((h 0), .inr (2, [.int (zI ((ro : Nat) : Int)), .int (zI ((te : Nat) : Int)), .int (zI ((ch : Nat) : Int)), .ref (h 1), .ref (h 2), .ref (h 3), .ref (h 4), .ref (h 5), .ref (h 6), .ref (h 7)])), ((h 1), .inl (cy 0, 6, .inl (zA pr))), ((h 2), .inl (cy 0, 6, .inl (zA sl))), ((h 3), .inl (cy 0, 6, .inl (zA mu))), ((h 4), .inl (cy 0, 6, .inl (zA wi))), ((h 5), .inl (cy 0, 6, .inl (zA ak))), ((h 6), .inl (cy 0, 6, .inl (zA (fun j => ((he j : Nat) : Int))))), ((h 7), .inl (cy 0, 5, .inl (zA (fun j => ((li j : Nat) : Int))))), ((na 0), .inr (5, [.int (zI day), .ref (na 1), .ref (na 2), .ref (na 3), .ref (na 4)])), ((na 1), .inl (cy 0, 6, .inl (zA hm))), ((na 2), .inl (cy 0, 6, .inl (zA tk))), ((na 3), .inl (cy 0, 6, .inl (zA py))), ((na 4), .inl (cy 0, 6, .inl (zA db))), ((ga 0), .inl (cy 0, 64, .inl (zA (gtb gr db te (owg db te)))))] H := hP
        exact zm_iret hx hb hr hlocks hQ hA0 hP hS (by rfl) dX8_payments_45
      · have c1 : ¬ ((te : Nat) ≤ (i : Nat)) := by omega
        refine lv_aload_n hx hb dX8_payments_15 rfl (lv_at hl 0 rfl) ?_
        refine lv_iload_n hx hb dX8_payments_16 rfl (lv_at hl 2 rfl) ?_
        have hPc4 := hP.sub (ws' := [((sa 0), .inr (8, [.ref rTx, .ref (h 0), .ref rDr, .ref (na 0), .ref rPa, .ref rIm, .ref rBk, .ref rHo, .ref rFi, .ref (ga 0), .long (zL tr)])), ((h 0), .inr (2, [.int (zI ((ro : Nat) : Int)), .int (zI ((te : Nat) : Int)), .int (zI ((ch : Nat) : Int)), .ref (h 1), .ref (h 2), .ref (h 3), .ref (h 4), .ref (h 5), .ref (h 6), .ref (h 7)])), ((h 1), .inl (cy 0, 6, .inl (zA pr))), ((h 2), .inl (cy 0, 6, .inl (zA sl))), ((h 3), .inl (cy 0, 6, .inl (zA mu))), ((h 4), .inl (cy 0, 6, .inl (zA wi))), ((h 5), .inl (cy 0, 6, .inl (zA ak))), ((h 6), .inl (cy 0, 6, .inl (zA (fun j => ((he j : Nat) : Int))))), ((h 7), .inl (cy 0, 5, .inl (zA (fun j => ((li j : Nat) : Int))))), ((na 0), .inr (5, [.int (zI day), .ref (na 1), .ref (na 2), .ref (na 3), .ref (na 4)])), ((na 1), .inl (cy 0, 6, .inl (zA hm))), ((na 2), .inl (cy 0, 6, .inl (zA tk))), ((na 3), .inl (cy 0, 6, .inl (zA py))), ((na 4), .inl (cy 0, 6, .inl (zA db)))]) [0, 1, 2, 3, 4, 5, 6, 7, 8, 9, 10, 11, 12, 13] rfl
        refine zr_callV (rest := []) (As := [.int (zI ((i : Nat) : Int))]) (v := (lsh db te i)) ⟨hx, hb, hml, hown, hts⟩ (c_X8_lackingShare l D cy sa rTx rDr rPa rIm rBk rHo rFi (ga 0) tr h ro te ch pr sl mu wi ak he li na day hm tk py db ((i : Nat) : Int) (by omega) (by omega) hNB) (cwV 1 hts gX8_payments_X8_lackingShare rfl rfl rfl (by decide +kernel) ⟨Nat.le_of_ble_eq_true rfl, Nat.le_of_ble_eq_true rfl⟩) hK hPc4 0 8 rfl rfl rfl hl.1 rfl (Nat.le_of_ble_eq_true rfl) dX8_payments_17 ⟨Nat.zero_le _, Nat.zero_le _⟩ ?_
        have J9 : ∀ (z8 : Nat), z8 = (if (lsh db te i) = 0 then (bits (fun t => decide (¬ lsh db te t = 0)) i) else ((bits (fun t => decide (¬ lsh db te t = 0)) i) ||| (2 ^ i))) → ∀ (H : Heap) (locs : List Loc), va_P D vwCl [((sa 0), .inr (8, [.ref rTx, .ref (h 0), .ref rDr, .ref (na 0), .ref rPa, .ref rIm, .ref rBk, .ref rHo, .ref rFi, .ref (ga 0), .long (zL tr)])), ((h 0), .inr (2, [.int (zI ((ro : Nat) : Int)), .int (zI ((te : Nat) : Int)), .int (zI ((ch : Nat) : Int)), .ref (h 1), .ref (h 2), .ref (h 3), .ref (h 4), .ref (h 5), .ref (h 6), .ref (h 7)])), ((h 1), .inl (cy 0, 6, .inl (zA pr))), ((h 2), .inl (cy 0, 6, .inl (zA sl))), ((h 3), .inl (cy 0, 6, .inl (zA mu))), ((h 4), .inl (cy 0, 6, .inl (zA wi))), ((h 5), .inl (cy 0, 6, .inl (zA ak))), ((h 6), .inl (cy 0, 6, .inl (zA (fun j => ((he j : Nat) : Int))))), ((h 7), .inl (cy 0, 5, .inl (zA (fun j => ((li j : Nat) : Int))))), ((na 0), .inr (5, [.int (zI day), .ref (na 1), .ref (na 2), .ref (na 3), .ref (na 4)])), ((na 1), .inl (cy 0, 6, .inl (zA hm))), ((na 2), .inl (cy 0, 6, .inl (zA tk))), ((na 3), .inl (cy 0, 6, .inl (zA py))), ((na 4), .inl (cy 0, 6, .inl (zA db))), ((ga 0), .inl (cy 0, 64, .inl (zA gr)))] H → va_D A0 [((sa 0), .inr (8, [.ref rTx, .ref (h 0), .ref rDr, .ref (na 0), .ref rPa, .ref rIm, .ref rBk, .ref rHo, .ref rFi, .ref (ga 0), .long (zL tr)])), ((h 0), .inr (2, [.int (zI ((ro : Nat) : Int)), .int (zI ((te : Nat) : Int)), .int (zI ((ch : Nat) : Int)), .ref (h 1), .ref (h 2), .ref (h 3), .ref (h 4), .ref (h 5), .ref (h 6), .ref (h 7)])), ((h 1), .inl (cy 0, 6, .inl (zA pr))), ((h 2), .inl (cy 0, 6, .inl (zA sl))), ((h 3), .inl (cy 0, 6, .inl (zA mu))), ((h 4), .inl (cy 0, 6, .inl (zA wi))), ((h 5), .inl (cy 0, 6, .inl (zA ak))), ((h 6), .inl (cy 0, 6, .inl (zA (fun j => ((he j : Nat) : Int))))), ((h 7), .inl (cy 0, 5, .inl (zA (fun j => ((li j : Nat) : Int))))), ((na 0), .inr (5, [.int (zI day), .ref (na 1), .ref (na 2), .ref (na 3), .ref (na 4)])), ((na 1), .inl (cy 0, 6, .inl (zA hm))), ((na 2), .inl (cy 0, 6, .inl (zA tk))), ((na 3), .inl (cy 0, 6, .inl (zA py))), ((na 4), .inl (cy 0, 6, .inl (zA db))), ((ga 0), .inl (cy 0, 64, .inl (zA gr)))] → va_S A0 s.heap H locs → ∀ ls : Array Slot, lv_has ls 3 [(0, .ref (sa 0)), (1, .int (zI ((z8 : Nat) : Int))), (2, .int (zI ((i : Nat) : Int)))] → W p l e rm_X8_payments s m args below meth c H locs 0 0 Q (F0 m 29 ls []) := by
          intro z8 ez8 H locs hP hD hS ls hl
          subst ez8
          refine z_iinc (r := ((i + 1 : Nat) : Int)) (lv' := [(2, .int (zI ((i + 1 : Nat) : Int))), (0, .ref (sa 0)), (1, .int (zI (((if (lsh db te i) = 0 then (bits (fun t => decide (¬ lsh db te t = 0)) i) else ((bits (fun t => decide (¬ lsh db te t = 0)) i) ||| (2 ^ i))) : Nat) : Int)))]) hx hb (by omega) dX8_payments_29 hl (k := 2) rfl (by decide) rfl (fun ls hl => ?_)
          refine lv_goto (tgt := 4) hx hb dX8_payments_32 (by decide) ?_
          exact ih4 (i + 1) (by omega) (by omega) (((if (lsh db te i) = 0 then (bits (fun t => decide (¬ lsh db te t = 0)) i) else ((bits (fun t => decide (¬ lsh db te t = 0)) i) ||| (2 ^ i))) : Nat) : Int) (by (simp only [bits, decide_eq_true_eq]) <;> (repeat' split) <;> first | rfl | omega) ((i + 1 : Nat) : Int) (by first | rfl | omega) _ _ hP hD hS ls (lv_sub hl [1, 2, 0] rfl)
        refine z_if_eq (tgt := 29) hx hb ⟨by omega, by omega⟩ dX8_payments_20 (by decide) (fun c5 => ?_) (fun c5 => ?_)
        · exact J9 (bits (fun t => decide (¬ lsh db te t = 0)) i) (by rw [if_pos c5]) _ _ hP hD hS ls (lv_sub hl [0, 1, 2] rfl)
        · refine lv_iload_n hx hb dX8_payments_23 rfl (lv_at hl 1 rfl) ?_
          refine lv_iconst (v := zI 1) hx hb dX8_payments_24 rfl ?_
          refine lv_iload_n hx hb dX8_payments_25 rfl (lv_at hl 2 rfl) ?_
          have hp6 := pow_le3 i (by omega)
          refine z_ishl (r := ((2 ^ i : Nat) : Int)) hx hb (zI_shl1 i (by omega)) dX8_payments_26 ?_
          have hq7 := or_lt64 (a := (bits (fun t => decide (¬ lsh db te t = 0)) i)) (b := (2 ^ i)) (by omega) (by omega)
          refine z_ior (r := (((bits (fun t => decide (¬ lsh db te t = 0)) i) ||| (2 ^ i) : Nat) : Int)) hx hb (zI_or (a := bits (fun t => decide (¬ lsh db te t = 0)) i) (b := 2 ^ i) (by omega) (by omega)) dX8_payments_27 ?_
          refine lv_istore_n (lv' := [(1, .int (zI (((bits (fun t => decide (¬ lsh db te t = 0)) i) ||| (2 ^ i) : Nat) : Int))), (0, .ref (sa 0)), (2, .int (zI ((i : Nat) : Int)))]) hx hb dX8_payments_28 rfl hl (by decide) rfl (fun ls hl => ?_)
          exact J9 ((bits (fun t => decide (¬ lsh db te t = 0)) i) ||| (2 ^ i)) (by rw [if_neg c5]) _ _ hP hD hS ls (lv_sub hl [1, 0, 2] rfl)
  exact loop4 ((te - 0) + 1) 0 (by omega) (by omega) 0 (by first | rfl | omega | simp) 0 (by first | rfl | omega | simp) _ _ hP hD hS ls (lv_sub hl [2, 1, 0] rfl)
