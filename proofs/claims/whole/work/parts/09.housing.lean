/-! Housing: the table over sets of taken rooms -/
/-- the most that a tenant adds and those behind him (b1), of the rooms below n -/
def mfr (b1 : Nat → Int) (pr sl mu : Nat → Int) (t taken : Nat) : Nat → Int
  | 0 => b1 taken
  | n + 1 => if (taken >>> n) &&& 1 = 0 ∧ pr n ≤ 24 - sl t - mu t then max (mfr b1 pr sl mu t taken n) (b1 (taken ||| 2 ^ n) + 1000 + pr n) else mfr b1 pr sl mu t taken n
theorem mfr_in {b1 pr sl mu : Nat → Int} {t taken : Nat} {B : Int} (hb : ∀ k, 0 ≤ b1 k ∧ b1 k ≤ B) (hp : ∀ i, 0 ≤ pr i ∧ pr i ≤ 24) : ∀ n, 0 ≤ mfr b1 pr sl mu t taken n ∧ mfr b1 pr sl mu t taken n ≤ B + 1024
  | 0 => by
    have := hb taken
    show 0 ≤ b1 taken ∧ b1 taken ≤ B + 1024
    omega
  | n + 1 => by
    have ih := mfr_in hb hp (sl := sl) (mu := mu) (t := t) (taken := taken) n
    have h1 := hb (taken ||| 2 ^ n)
    have h2 := hp n
    unfold mfr
    split <;> omega
/-- his first best room from r on, of n more -/
def fob (b1 : Nat → Int) (bv : Int) (pr sl mu : Nat → Int) (t taken : Nat) : Nat → Nat → Int
  | 0, _ => -9
  | n + 1, r => if ((taken >>> r) &&& 1 = 0 ∧ pr r ≤ 24 - sl t - mu t) ∧ b1 (taken ||| 2 ^ r) + 1000 + pr r = bv then (r : Int) else fob b1 bv pr sl mu t taken n (r + 1)
theorem fob_s (b1 : Nat → Int) (bv : Int) (pr sl mu : Nat → Int) (t taken n r : Nat) : fob b1 bv pr sl mu t taken (n + 1) r = if ((taken >>> r) &&& 1 = 0 ∧ pr r ≤ 24 - sl t - mu t) ∧ b1 (taken ||| 2 ^ r) + 1000 + pr r = bv then (r : Int) else fob b1 bv pr sl mu t taken n (r + 1) := rfl
theorem fob_in (b1 : Nat → Int) (bv : Int) (pr sl mu : Nat → Int) (t taken : Nat) : ∀ n r, -9 ≤ fob b1 bv pr sl mu t taken n r ∧ fob b1 bv pr sl mu t taken n r < ((r + n : Nat) : Int) ∧ (fob b1 bv pr sl mu t taken n r < 0 → fob b1 bv pr sl mu t taken n r = -9)
  | 0, r => ⟨by show (-9 : Int) ≤ -9; omega, by show (-9 : Int) < _; omega, fun _ => rfl⟩
  | n + 1, r => by
    have ih := fob_in b1 bv pr sl mu t taken n (r + 1)
    rw [fob_s]
    split
    · exact ⟨by omega, by omega, fun h => by omega⟩
    · exact ⟨ih.1, by omega, ih.2.2⟩
/-- how many of those below n have a room -/
def cnt (p : Nat → Bool) : Nat → Nat
  | 0 => 0
  | n + 1 => if p n then cnt p n + 1 else cnt p n
theorem cnt_le (p : Nat → Bool) : ∀ n, cnt p n ≤ n
  | 0 => Nat.le_refl _
  | n + 1 => by
    have := cnt_le p n
    unfold cnt
    split <;> omega
/-- the table: j tenants are left, of te -/
def dpt (pr sl mu : Nat → Int) (ro te : Nat) : Nat → Nat → Int
  | 0, _ => 0
  | j + 1, k => mfr (dpt pr sl mu ro te j) pr sl mu (te - (j + 1)) k ro
theorem dpt_in {pr sl mu : Nat → Int} (hp : ∀ i, 0 ≤ pr i ∧ pr i ≤ 24) (ro te : Nat) : ∀ j k, 0 ≤ dpt pr sl mu ro te j k ∧ dpt pr sl mu ro te j k ≤ 1024 * (j : Int)
  | 0, _ => by show (0 : Int) ≤ 0 ∧ (0 : Int) ≤ _; omega
  | j + 1, k => by
    have := mfr_in (b1 := dpt pr sl mu ro te j) (sl := sl) (mu := mu) (t := te - (j + 1)) (taken := k) (B := 1024 * (j : Int)) (dpt_in hp ro te j) hp ro
    show 0 ≤ mfr _ _ _ _ _ _ _ ∧ mfr _ _ _ _ _ _ _ ≤ _
    omega
/-- the rooms that are taken ahead of tenant t, and the choice of each -/
def tkn (pr sl mu : Nat → Int) (ro te : Nat) : Nat → Nat
  | 0 => 0
  | t + 1 => if fob (dpt pr sl mu ro te (te - (t + 1))) (dpt pr sl mu ro te (te - t) (tkn pr sl mu ro te t)) pr sl mu t (tkn pr sl mu ro te t) ro 0 = -9 then tkn pr sl mu ro te t else tkn pr sl mu ro te t ||| 2 ^ (fob (dpt pr sl mu ro te (te - (t + 1))) (dpt pr sl mu ro te (te - t) (tkn pr sl mu ro te t)) pr sl mu t (tkn pr sl mu ro te t) ro 0).toNat
def chs (pr sl mu : Nat → Int) (ro te t : Nat) : Int := fob (dpt pr sl mu ro te (te - (t + 1))) (dpt pr sl mu ro te (te - t) (tkn pr sl mu ro te t)) pr sl mu t (tkn pr sl mu ro te t) ro 0
theorem tkn_s (pr sl mu : Nat → Int) (ro te t : Nat) : tkn pr sl mu ro te (t + 1) = if chs pr sl mu ro te t = -9 then tkn pr sl mu ro te t else tkn pr sl mu ro te t ||| 2 ^ (chs pr sl mu ro te t).toNat := rfl
theorem chs_in (pr sl mu : Nat → Int) (ro te t : Nat) : -9 ≤ chs pr sl mu ro te t ∧ chs pr sl mu ro te t < (ro : Int) ∧ (chs pr sl mu ro te t < 0 → chs pr sl mu ro te t = -9) := by
  have h := fob_in (dpt pr sl mu ro te (te - (t + 1))) (dpt pr sl mu ro te (te - t) (tkn pr sl mu ro te t)) pr sl mu t (tkn pr sl mu ro te t) ro 0
  rw [Nat.zero_add] at h
  exact h
theorem tkn_lt (pr sl mu : Nat → Int) (ro te : Nat) : ∀ t, tkn pr sl mu ro te t < 2 ^ ro
  | 0 => Nat.two_pow_pos ro
  | t + 1 => by
    have ih := tkn_lt pr sl mu ro te t
    have hc := chs_in pr sl mu ro te t
    rw [tkn_s]
    split
    · exact ih
    · exact Nat.or_lt_two_pow ih (Nat.pow_lt_pow_right (by decide) (by omega))
abbrev rm_X3_canTake : Room := { frames := 3, cells := 0, slots := 0, locals := 64 }
set_option maxHeartbeats 4000000 in
set_option maxRecDepth 100000 in
theorem c_X3_canTake (l : Launch) (D : va_G) (cy : Nat → ClassId) (ho : Nat → Nat) (hh : Nat → Int) (bt : Nat → Nat → Int) (h : Nat → Nat) (ro : Nat) (te : Nat) (ch : Nat) (pr : Nat → Int) (sl : Nat → Int) (mu : Nat → Int) (wi : Nat → Int) (ak : Nat → Int) (he : Nat → Nat) (li : Nat → Nat) (t : Int) (r : Int) (taken : Nat) (ht0 : 0 ≤ t ∧ t < 6) (hr0 : 0 ≤ r ∧ r < 6) (htk : taken < 64) (hHB : HB pr sl mu wi ak he li) : Met l yX3_canTake wsX3_canTake rm_X3_canTake (pR D cy [((ho 0), .inr (3, [.ref (ho 1), .ref (ho 2)])), ((ho 1), .inl (cy 0, 6, .inl (zA hh))), ((ho 2), .inl (cy 4, 7, .inr (.inr (.inr (.inr (fun j => if j < 7 then some (ho (3 + j)) else none)))))), ((ho 3), .inl (cy 0, 64, .inl (zA (bt 0)))), ((ho 4), .inl (cy 0, 64, .inl (zA (bt 1)))), ((ho 5), .inl (cy 0, 64, .inl (zA (bt 2)))), ((ho 6), .inl (cy 0, 64, .inl (zA (bt 3)))), ((ho 7), .inl (cy 0, 64, .inl (zA (bt 4)))), ((ho 8), .inl (cy 0, 64, .inl (zA (bt 5)))), ((ho 9), .inl (cy 0, 64, .inl (zA (bt 6)))), ((h 0), .inr (2, [.int (zI ((ro : Nat) : Int)), .int (zI ((te : Nat) : Int)), .int (zI ((ch : Nat) : Int)), .ref (h 1), .ref (h 2), .ref (h 3), .ref (h 4), .ref (h 5), .ref (h 6), .ref (h 7)])), ((h 1), .inl (cy 0, 6, .inl (zA pr))), ((h 2), .inl (cy 0, 6, .inl (zA sl))), ((h 3), .inl (cy 0, 6, .inl (zA mu))), ((h 4), .inl (cy 0, 6, .inl (zA wi))), ((h 5), .inl (cy 0, 6, .inl (zA ak))), ((h 6), .inl (cy 0, 6, .inl (zA (fun j => ((he j : Nat) : Int))))), ((h 7), .inl (cy 0, 5, .inl (zA (fun j => ((li j : Nat) : Int)))))] [.ref (ho 0), .ref (h 0), .int (zI t), .int (zI r), .int (zI ((taken : Nat) : Int))]) (qR (if (taken >>> r.toNat) &&& 1 = 0 ∧ pr r.toNat ≤ 24 - sl t.toNat - mu t.toNat then 1 else 0)) 0 0 (fun _ => False) := by
  refine met_R (cc := cX3_canTake) (maxL := 5) (ret := (some .boolean)) RX3 (by decide) rfl rfl (Nat.le_of_ble_eq_true rfl) ?_
  intro p e s m args below meth c ls Q hx hb hr hml hts hown hlocks hQ hP hK hl
  have hl : lv_has ls 5 [(0, .ref (ho 0)), (1, .ref (h 0)), (2, .int (zI t)), (3, .int (zI r)), (4, .int (zI ((taken : Nat) : Int)))] := hl
  have rowat : ∀ (hh : Nat → Int) (bt : Nat → Nat → Int) (t : Nat), t < 7 → ([((ho 0), .inr (3, [.ref (ho 1), .ref (ho 2)])), ((ho 1), .inl (cy 0, 6, .inl (zA hh))), ((ho 2), .inl (cy 4, 7, .inr (.inr (.inr (.inr (fun j => if j < 7 then some (ho (3 + j)) else none)))))), ((ho 3), .inl (cy 0, 64, .inl (zA (bt 0)))), ((ho 4), .inl (cy 0, 64, .inl (zA (bt 1)))), ((ho 5), .inl (cy 0, 64, .inl (zA (bt 2)))), ((ho 6), .inl (cy 0, 64, .inl (zA (bt 3)))), ((ho 7), .inl (cy 0, 64, .inl (zA (bt 4)))), ((ho 8), .inl (cy 0, 64, .inl (zA (bt 5)))), ((ho 9), .inl (cy 0, 64, .inl (zA (bt 6)))), ((h 0), .inr (2, [.int (zI ((ro : Nat) : Int)), .int (zI ((te : Nat) : Int)), .int (zI ((ch : Nat) : Int)), .ref (h 1), .ref (h 2), .ref (h 3), .ref (h 4), .ref (h 5), .ref (h 6), .ref (h 7)])), ((h 1), .inl (cy 0, 6, .inl (zA pr))), ((h 2), .inl (cy 0, 6, .inl (zA sl))), ((h 3), .inl (cy 0, 6, .inl (zA mu))), ((h 4), .inl (cy 0, 6, .inl (zA wi))), ((h 5), .inl (cy 0, 6, .inl (zA ak))), ((h 6), .inl (cy 0, 6, .inl (zA (fun j => ((he j : Nat) : Int))))), ((h 7), .inl (cy 0, 5, .inl (zA (fun j => ((li j : Nat) : Int)))))] : va_W)[3 + t]? = some (ho (3 + t), .inl (cy 0, 64, .inl (zA (bt t)))) := by
    intro hh bt t ht; rcases (show t = 0 ∨ t = 1 ∨ t = 2 ∨ t = 3 ∨ t = 4 ∨ t = 5 ∨ t = 6 from by omega) with rfl | rfl | rfl | rfl | rfl | rfl | rfl <;> rfl
  refine lv_iload hx hb dX3_canTake_0 (lv_at hl 4 rfl) ?_
  refine lv_iload_n hx hb dX3_canTake_2 rfl (lv_at hl 3 rfl) ?_
  have hs1 := shr_le taken r.toNat
  refine z_ishr (r := ((taken >>> r.toNat : Nat) : Int)) hx hb (by rw [show ((taken : Nat) : Int) = ((taken : Nat) : Int) from by omega, show r = ((r.toNat : Nat) : Int) from by omega]; exact zI_shr (by omega) (by omega)) dX3_canTake_3 ?_
  refine lv_iconst (v := zI 1) hx hb dX3_canTake_4 rfl ?_
  have hq2 : (taken >>> r.toNat) &&& 1 ≤ (taken >>> r.toNat) := Nat.and_le_left
  refine z_iand (r := (((taken >>> r.toNat) &&& 1 : Nat) : Int)) hx hb (zI_and (a := taken >>> r.toNat) (b := 1) (by omega) (by omega)) dX3_canTake_5 ?_
  refine z_if_ne (tgt := 22) hx hb ⟨by omega, by omega⟩ dX3_canTake_6 (by decide) (fun c3 => ?_) (fun c3 => ?_)
  · have c3 : ¬ (((taken >>> r.toNat) &&& 1 : Nat) = (0 : Nat)) := by omega
    refine lv_iconst (v := zI 0) hx hb dX3_canTake_22 rfl ?_
    exact zr_zret hx hb hr hlocks hQ (by first | exact (if_pos (by omega)).symm | exact (if_neg (by omega)).symm) (by first | omega | (split <;> omega)) dX3_canTake_23
  · have c3 : ((taken >>> r.toNat) &&& 1 : Nat) = (0 : Nat) := by omega
    refine lv_aload_n hx hb dX3_canTake_9 rfl (lv_at hl 1 rfl) ?_
    refine lv_iload_n hx hb dX3_canTake_10 rfl (lv_at hl 2 rfl) ?_
    refine lv_iload_n hx hb dX3_canTake_11 rfl (lv_at hl 3 rfl) ?_
    have hPc4 := hP.sub (ws' := [((h 0), .inr (2, [.int (zI ((ro : Nat) : Int)), .int (zI ((te : Nat) : Int)), .int (zI ((ch : Nat) : Int)), .ref (h 1), .ref (h 2), .ref (h 3), .ref (h 4), .ref (h 5), .ref (h 6), .ref (h 7)])), ((h 1), .inl (cy 0, 6, .inl (zA pr))), ((h 2), .inl (cy 0, 6, .inl (zA sl))), ((h 3), .inl (cy 0, 6, .inl (zA mu))), ((h 4), .inl (cy 0, 6, .inl (zA wi))), ((h 5), .inl (cy 0, 6, .inl (zA ak))), ((h 6), .inl (cy 0, 6, .inl (zA (fun j => ((he j : Nat) : Int))))), ((h 7), .inl (cy 0, 5, .inl (zA (fun j => ((li j : Nat) : Int)))))]) [10, 11, 12, 13, 14, 15, 16, 17] rfl
    refine zr_callV (rest := []) (As := [.int (zI t), .int (zI r)]) (v := (if pr r.toNat ≤ 24 - sl t.toNat - mu t.toNat then 1 else 0)) ⟨hx, hb, hml, hown, hts⟩ (c_X2_meets l D cy h ro te ch pr sl mu wi ak he li t r (by omega) (by omega) hHB) (cwV 2 hts gX3_canTake_X2_meets rfl rfl rfl (by decide +kernel) ⟨Nat.le_of_ble_eq_true rfl, Nat.le_of_ble_eq_true rfl⟩) hK hPc4 0 2 rfl rfl rfl hl.1 rfl (Nat.le_of_ble_eq_true rfl) dX3_canTake_12 ⟨Nat.zero_le _, Nat.zero_le _⟩ ?_
    refine z_if_eq (tgt := 22) hx hb bo_r dX3_canTake_15 (by decide) (fun c5 => ?_) (fun c5 => ?_)
    · have c5 := bo_f c5
      refine lv_iconst (v := zI 0) hx hb dX3_canTake_22 rfl ?_
      exact zr_zret hx hb hr hlocks hQ (by first | exact (if_pos (by omega)).symm | exact (if_neg (by omega)).symm) (by first | omega | (split <;> omega)) dX3_canTake_23
    · have c5 := bo_t c5
      refine lv_iconst (v := zI 1) hx hb dX3_canTake_18 rfl ?_
      refine lv_goto (tgt := 23) hx hb dX3_canTake_19 (by decide) ?_
      exact zr_zret hx hb hr hlocks hQ (by first | exact (if_pos (by omega)).symm | exact (if_neg (by omega)).symm) (by first | omega | (split <;> omega)) dX3_canTake_23
abbrev rm_X3_withRoom : Room := { frames := 0, cells := 0, slots := 0, locals := 0 }
set_option maxHeartbeats 4000000 in
set_option maxRecDepth 100000 in
theorem c_X3_withRoom (l : Launch) (D : va_G) (cy : Nat → ClassId) (ho : Nat → Nat) (hh : Nat → Int) (bt : Nat → Nat → Int) (h : Nat → Nat) (ro : Nat) (te : Nat) (ch : Nat) (pr : Nat → Int) (sl : Nat → Int) (mu : Nat → Int) (wi : Nat → Int) (ak : Nat → Int) (he : Nat → Nat) (li : Nat → Nat) (t : Nat) (r : Int) (taken : Nat) (ht0 : t < 6) (hr0 : 0 ≤ r ∧ r < 6) (htk : taken < 64) (hHB : HB pr sl mu wi ak he li) (hbt : ∀ t k, 0 ≤ bt t k ∧ bt t k ≤ 100000) : Met l yX3_withRoom wsX3_withRoom rm_X3_withRoom (pR D cy [((ho 0), .inr (3, [.ref (ho 1), .ref (ho 2)])), ((ho 1), .inl (cy 0, 6, .inl (zA hh))), ((ho 2), .inl (cy 4, 7, .inr (.inr (.inr (.inr (fun j => if j < 7 then some (ho (3 + j)) else none)))))), ((ho 3), .inl (cy 0, 64, .inl (zA (bt 0)))), ((ho 4), .inl (cy 0, 64, .inl (zA (bt 1)))), ((ho 5), .inl (cy 0, 64, .inl (zA (bt 2)))), ((ho 6), .inl (cy 0, 64, .inl (zA (bt 3)))), ((ho 7), .inl (cy 0, 64, .inl (zA (bt 4)))), ((ho 8), .inl (cy 0, 64, .inl (zA (bt 5)))), ((ho 9), .inl (cy 0, 64, .inl (zA (bt 6)))), ((h 0), .inr (2, [.int (zI ((ro : Nat) : Int)), .int (zI ((te : Nat) : Int)), .int (zI ((ch : Nat) : Int)), .ref (h 1), .ref (h 2), .ref (h 3), .ref (h 4), .ref (h 5), .ref (h 6), .ref (h 7)])), ((h 1), .inl (cy 0, 6, .inl (zA pr))), ((h 2), .inl (cy 0, 6, .inl (zA sl))), ((h 3), .inl (cy 0, 6, .inl (zA mu))), ((h 4), .inl (cy 0, 6, .inl (zA wi))), ((h 5), .inl (cy 0, 6, .inl (zA ak))), ((h 6), .inl (cy 0, 6, .inl (zA (fun j => ((he j : Nat) : Int))))), ((h 7), .inl (cy 0, 5, .inl (zA (fun j => ((li j : Nat) : Int)))))] [.ref (ho 0), .ref (h 0), .int (zI ((t : Nat) : Int)), .int (zI r), .int (zI ((taken : Nat) : Int))]) (qR (bt (t + 1) (taken ||| 2 ^ r.toNat) + 1000 + pr r.toNat)) 0 0 (fun _ => False) := by
  refine met_R (cc := cX3_withRoom) (maxL := 5) (ret := (some .int)) RX3 (by decide) rfl rfl (Nat.le_of_ble_eq_true rfl) ?_
  intro p e s m args below meth c ls Q hx hb hr hml hts hown hlocks hQ hP hK hl
  have hl : lv_has ls 5 [(0, .ref (ho 0)), (1, .ref (h 0)), (2, .int (zI ((t : Nat) : Int))), (3, .int (zI r)), (4, .int (zI ((taken : Nat) : Int)))] := hl
  have hinX2 : ∀ w ∈ wsX20, w ∈ wsX3_withRoom := (fun w h => List.mem_cons_of_mem _ (List.mem_append_right _ h))
  have hinX3 : ∀ w ∈ wsX30, w ∈ wsX3_withRoom := (fun w h => List.mem_cons_of_mem _ (List.mem_append_left _ (List.mem_append_right _ h)))
  have rowat : ∀ (hh : Nat → Int) (bt : Nat → Nat → Int) (t : Nat), t < 7 → ([((ho 0), .inr (3, [.ref (ho 1), .ref (ho 2)])), ((ho 1), .inl (cy 0, 6, .inl (zA hh))), ((ho 2), .inl (cy 4, 7, .inr (.inr (.inr (.inr (fun j => if j < 7 then some (ho (3 + j)) else none)))))), ((ho 3), .inl (cy 0, 64, .inl (zA (bt 0)))), ((ho 4), .inl (cy 0, 64, .inl (zA (bt 1)))), ((ho 5), .inl (cy 0, 64, .inl (zA (bt 2)))), ((ho 6), .inl (cy 0, 64, .inl (zA (bt 3)))), ((ho 7), .inl (cy 0, 64, .inl (zA (bt 4)))), ((ho 8), .inl (cy 0, 64, .inl (zA (bt 5)))), ((ho 9), .inl (cy 0, 64, .inl (zA (bt 6)))), ((h 0), .inr (2, [.int (zI ((ro : Nat) : Int)), .int (zI ((te : Nat) : Int)), .int (zI ((ch : Nat) : Int)), .ref (h 1), .ref (h 2), .ref (h 3), .ref (h 4), .ref (h 5), .ref (h 6), .ref (h 7)])), ((h 1), .inl (cy 0, 6, .inl (zA pr))), ((h 2), .inl (cy 0, 6, .inl (zA sl))), ((h 3), .inl (cy 0, 6, .inl (zA mu))), ((h 4), .inl (cy 0, 6, .inl (zA wi))), ((h 5), .inl (cy 0, 6, .inl (zA ak))), ((h 6), .inl (cy 0, 6, .inl (zA (fun j => ((he j : Nat) : Int))))), ((h 7), .inl (cy 0, 5, .inl (zA (fun j => ((li j : Nat) : Int)))))] : va_W)[3 + t]? = some (ho (3 + t), .inl (cy 0, 64, .inl (zA (bt t)))) := by
    intro hh bt t ht; rcases (show t = 0 ∨ t = 1 ∨ t = 2 ∨ t = 3 ∨ t = 4 ∨ t = 5 ∨ t = 6 from by omega) with rfl | rfl | rfl | rfl | rfl | rfl | rfl <;> rfl
  refine lv_aload_n hx hb dX3_withRoom_0 rfl (lv_at hl 0 rfl) ?_
  refine va_get (D := D) (ci := 3) (v := .ref (ho 2)) (C := RX3) (T := TX3) (N := 2) hx hb hts hinX3 hown hK hP 0 rfl rfl 1 (by decide) (hts (.fieldLink RX3 17 "SilentRent$Housing" "best" "[[I") (List.mem_of_getElem? (i := 1) rfl)) (fun _ h9 => h9) rfl dX3_withRoom_1 ?_
  refine lv_iload_n hx hb dX3_withRoom_4 rfl (lv_at hl 2 rfl) ?_
  refine lv_iconst (v := zI 1) hx hb dX3_withRoom_5 rfl ?_
  refine z_iadd (r := ((t + 1 : Nat) : Int)) hx hb (by omega) dX3_withRoom_6 ?_
  refine z_aald hx hb hK hP 2 4 (ty := .array .int) rfl (f := (fun j => if j < 7 then some (ho (3 + j)) else none)) rfl rfl (t + 1) rfl (by omega) (by decide) (r := (ho (3 + (t + 1)))) (if_pos (by omega)) dX3_withRoom_7 ?_
  refine lv_iload hx hb dX3_withRoom_8 (lv_at hl 4 rfl) ?_
  refine lv_iconst (v := zI 1) hx hb dX3_withRoom_10 rfl ?_
  refine lv_iload_n hx hb dX3_withRoom_11 rfl (lv_at hl 3 rfl) ?_
  have hp1 := pow_le3 r.toNat (by omega)
  refine z_ishl (r := ((2 ^ r.toNat : Nat) : Int)) hx hb (by rw [show r = ((r.toNat : Nat) : Int) from by omega]; exact zI_shl1 r.toNat (by omega)) dX3_withRoom_12 ?_
  have hq2 := or_lt64 (a := taken) (b := (2 ^ r.toNat)) (by omega) (by omega)
  refine z_ior (r := ((taken ||| (2 ^ r.toNat) : Nat) : Int)) hx hb (zI_or (a := taken) (b := 2 ^ r.toNat) (by omega) (by omega)) dX3_withRoom_13 ?_
  refine z_iald hx hb hK hP (3 + (t + 1)) 0 (f := bt (t + 1)) (rowat _ _ (t + 1) (by omega)) rfl (taken ||| (2 ^ r.toNat)) rfl (by omega) (by decide) dX3_withRoom_14 ?_
  have hb3 := hbt (t + 1) (taken ||| (2 ^ r.toNat))
  refine lv_sipush (v := zI 1000) hx hb dX3_withRoom_15 (by decide) ?_
  refine z_iadd (r := ((bt (t + 1) (taken ||| (2 ^ r.toNat))) + 1000)) hx hb rfl dX3_withRoom_18 ?_
  refine lv_aload_n hx hb dX3_withRoom_19 rfl (lv_at hl 1 rfl) ?_
  refine va_get (D := D) (ci := 2) (v := .ref (h 1)) (C := RX2) (T := TX2) (N := 10) hx hb hts hinX2 hown hK hP 10 rfl rfl 3 (by decide) (hts (.fieldLink RX3 46 "SilentRent$House" "price" "[I") (List.mem_of_getElem? (i := 2) rfl)) (fun _ h9 => h9) rfl dX3_withRoom_20 ?_
  refine lv_iload_n hx hb dX3_withRoom_23 rfl (lv_at hl 3 rfl) ?_
  refine z_iald hx hb hK hP 11 0 (f := pr) rfl rfl r.toNat (by omega) (by omega) (by decide) dX3_withRoom_24 ?_
  have hb4 := hHB.1 r.toNat
  refine z_iadd (r := (((bt (t + 1) (taken ||| (2 ^ r.toNat))) + 1000) + (pr r.toNat))) hx hb rfl dX3_withRoom_25 ?_
  exact zr_iret hx hb hr hlocks hQ (by omega) dX3_withRoom_26
abbrev rm_X3_mostFrom : Room := { frames := 4, cells := 0, slots := 0, locals := 88 }
set_option maxHeartbeats 4000000 in
set_option maxRecDepth 100000 in
theorem c_X3_mostFrom (l : Launch) (D : va_G) (cy : Nat → ClassId) (ho : Nat → Nat) (hh : Nat → Int) (bt : Nat → Nat → Int) (h : Nat → Nat) (ro : Nat) (te : Nat) (ch : Nat) (pr : Nat → Int) (sl : Nat → Int) (mu : Nat → Int) (wi : Nat → Int) (ak : Nat → Int) (he : Nat → Nat) (li : Nat → Nat) (t : Nat) (taken : Nat) (ht0 : t < 6) (htk : taken < 64) (hro : ro ≤ 6) (hHB : HB pr sl mu wi ak he li) (hbt : ∀ t k, 0 ≤ bt t k ∧ bt t k ≤ 100000) : Met l yX3_mostFrom wsX3_mostFrom rm_X3_mostFrom (pR D cy [((ho 0), .inr (3, [.ref (ho 1), .ref (ho 2)])), ((ho 1), .inl (cy 0, 6, .inl (zA hh))), ((ho 2), .inl (cy 4, 7, .inr (.inr (.inr (.inr (fun j => if j < 7 then some (ho (3 + j)) else none)))))), ((ho 3), .inl (cy 0, 64, .inl (zA (bt 0)))), ((ho 4), .inl (cy 0, 64, .inl (zA (bt 1)))), ((ho 5), .inl (cy 0, 64, .inl (zA (bt 2)))), ((ho 6), .inl (cy 0, 64, .inl (zA (bt 3)))), ((ho 7), .inl (cy 0, 64, .inl (zA (bt 4)))), ((ho 8), .inl (cy 0, 64, .inl (zA (bt 5)))), ((ho 9), .inl (cy 0, 64, .inl (zA (bt 6)))), ((h 0), .inr (2, [.int (zI ((ro : Nat) : Int)), .int (zI ((te : Nat) : Int)), .int (zI ((ch : Nat) : Int)), .ref (h 1), .ref (h 2), .ref (h 3), .ref (h 4), .ref (h 5), .ref (h 6), .ref (h 7)])), ((h 1), .inl (cy 0, 6, .inl (zA pr))), ((h 2), .inl (cy 0, 6, .inl (zA sl))), ((h 3), .inl (cy 0, 6, .inl (zA mu))), ((h 4), .inl (cy 0, 6, .inl (zA wi))), ((h 5), .inl (cy 0, 6, .inl (zA ak))), ((h 6), .inl (cy 0, 6, .inl (zA (fun j => ((he j : Nat) : Int))))), ((h 7), .inl (cy 0, 5, .inl (zA (fun j => ((li j : Nat) : Int)))))] [.ref (ho 0), .ref (h 0), .int (zI ((t : Nat) : Int)), .int (zI ((taken : Nat) : Int))]) (qR (mfr (bt (t + 1)) pr sl mu t taken ro)) 0 0 (fun _ => False) := by
  refine met_R (cc := cX3_mostFrom) (maxL := 6) (ret := (some .int)) RX3 (by decide) rfl rfl (Nat.le_of_ble_eq_true rfl) ?_
  intro p e s m args below meth c ls Q hx hb hr hml hts hown hlocks hQ hP hK hl
  have hl : lv_has ls 6 [(0, .ref (ho 0)), (1, .ref (h 0)), (2, .int (zI ((t : Nat) : Int))), (3, .int (zI ((taken : Nat) : Int)))] := hl
  have hinX2 : ∀ w ∈ wsX20, w ∈ wsX3_mostFrom := (fun w h => List.mem_cons_of_mem _ (List.mem_append_right _ h))
  have hinX3 : ∀ w ∈ wsX30, w ∈ wsX3_mostFrom := (fun w h => List.mem_cons_of_mem _ (List.mem_append_left _ (List.mem_append_right _ h)))
  have rowat : ∀ (hh : Nat → Int) (bt : Nat → Nat → Int) (t : Nat), t < 7 → ([((ho 0), .inr (3, [.ref (ho 1), .ref (ho 2)])), ((ho 1), .inl (cy 0, 6, .inl (zA hh))), ((ho 2), .inl (cy 4, 7, .inr (.inr (.inr (.inr (fun j => if j < 7 then some (ho (3 + j)) else none)))))), ((ho 3), .inl (cy 0, 64, .inl (zA (bt 0)))), ((ho 4), .inl (cy 0, 64, .inl (zA (bt 1)))), ((ho 5), .inl (cy 0, 64, .inl (zA (bt 2)))), ((ho 6), .inl (cy 0, 64, .inl (zA (bt 3)))), ((ho 7), .inl (cy 0, 64, .inl (zA (bt 4)))), ((ho 8), .inl (cy 0, 64, .inl (zA (bt 5)))), ((ho 9), .inl (cy 0, 64, .inl (zA (bt 6)))), ((h 0), .inr (2, [.int (zI ((ro : Nat) : Int)), .int (zI ((te : Nat) : Int)), .int (zI ((ch : Nat) : Int)), .ref (h 1), .ref (h 2), .ref (h 3), .ref (h 4), .ref (h 5), .ref (h 6), .ref (h 7)])), ((h 1), .inl (cy 0, 6, .inl (zA pr))), ((h 2), .inl (cy 0, 6, .inl (zA sl))), ((h 3), .inl (cy 0, 6, .inl (zA mu))), ((h 4), .inl (cy 0, 6, .inl (zA wi))), ((h 5), .inl (cy 0, 6, .inl (zA ak))), ((h 6), .inl (cy 0, 6, .inl (zA (fun j => ((he j : Nat) : Int))))), ((h 7), .inl (cy 0, 5, .inl (zA (fun j => ((li j : Nat) : Int)))))] : va_W)[3 + t]? = some (ho (3 + t), .inl (cy 0, 64, .inl (zA (bt t)))) := by
    intro hh bt t ht; rcases (show t = 0 ∨ t = 1 ∨ t = 2 ∨ t = 3 ∨ t = 4 ∨ t = 5 ∨ t = 6 from by omega) with rfl | rfl | rfl | rfl | rfl | rfl | rfl <;> rfl
  refine lv_aload_n hx hb dX3_mostFrom_0 rfl (lv_at hl 0 rfl) ?_
  refine va_get (D := D) (ci := 3) (v := .ref (ho 2)) (C := RX3) (T := TX3) (N := 2) hx hb hts hinX3 hown hK hP 0 rfl rfl 1 (by decide) (hts (.fieldLink RX3 17 "SilentRent$Housing" "best" "[[I") (List.mem_of_getElem? (i := 1) rfl)) (fun _ h9 => h9) rfl dX3_mostFrom_1 ?_
  refine lv_iload_n hx hb dX3_mostFrom_4 rfl (lv_at hl 2 rfl) ?_
  refine lv_iconst (v := zI 1) hx hb dX3_mostFrom_5 rfl ?_
  refine z_iadd (r := ((t + 1 : Nat) : Int)) hx hb (by omega) dX3_mostFrom_6 ?_
  refine z_aald hx hb hK hP 2 4 (ty := .array .int) rfl (f := (fun j => if j < 7 then some (ho (3 + j)) else none)) rfl rfl (t + 1) rfl (by omega) (by decide) (r := (ho (3 + (t + 1)))) (if_pos (by omega)) dX3_mostFrom_7 ?_
  refine lv_iload_n hx hb dX3_mostFrom_8 rfl (lv_at hl 3 rfl) ?_
  refine z_iald hx hb hK hP (3 + (t + 1)) 0 (f := bt (t + 1)) (rowat _ _ (t + 1) (by omega)) rfl taken rfl (by omega) (by decide) dX3_mostFrom_9 ?_
  have hb1 := hbt (t + 1) taken
  refine lv_istore (lv' := [(4, .int (zI (bt (t + 1) taken))), (0, .ref (ho 0)), (1, .ref (h 0)), (2, .int (zI ((t : Nat) : Int))), (3, .int (zI ((taken : Nat) : Int)))]) hx hb dX3_mostFrom_10 hl (by decide) rfl (fun ls hl => ?_)
  refine lv_iconst (v := zI 0) hx hb dX3_mostFrom_12 rfl ?_
  refine lv_istore (lv' := [(5, .int (zI 0)), (4, .int (zI (bt (t + 1) taken))), (0, .ref (ho 0)), (1, .ref (h 0)), (2, .int (zI ((t : Nat) : Int))), (3, .int (zI ((taken : Nat) : Int)))]) hx hb dX3_mostFrom_13 hl (by decide) rfl (fun ls hl => ?_)
  have loop15 : ∀ (n9 : Nat) (i : Nat), ro - i < n9 → (i ≤ ro) → ∀ (x15_4 : Int), x15_4 = (mfr (bt (t + 1)) pr sl mu t taken i) → ∀ (x15_5 : Int), x15_5 = ((i : Nat) : Int) → ∀ ls : Array Slot, lv_has ls 6 [(0, .ref (ho 0)), (1, .ref (h 0)), (2, .int (zI ((t : Nat) : Int))), (3, .int (zI ((taken : Nat) : Int))), (4, .int (zI x15_4)), (5, .int (zI x15_5))] → W p l e rm_X3_mostFrom s m args below meth c s.heap [] 0 0 Q (F0 m 15 ls []) := by
    intro n9
    induction n9 with
    | zero => intro i h9; exact absurd h9 (Nat.not_lt_zero _)
    | succ n9 ih15 =>
      intro i hmu15 hi x15_4 ex15_4 x15_5 ex15_5 ls hl
      subst ex15_4
      subst ex15_5
      have hl : lv_has ls 6 [(0, .ref (ho 0)), (1, .ref (h 0)), (2, .int (zI ((t : Nat) : Int))), (3, .int (zI ((taken : Nat) : Int))), (4, .int (zI (mfr (bt (t + 1)) pr sl mu t taken i))), (5, .int (zI ((i : Nat) : Int)))] := hl
      have hz9 := mfr_in (sl := sl) (mu := mu) (t := t) (taken := taken) (hbt (t + 1)) hHB.1 i
      have hz8 := hbt (t + 1) (taken ||| 2 ^ i)
      have hz7 := hHB.1 i
      refine lv_iload hx hb dX3_mostFrom_15 (lv_at hl 5 rfl) ?_
      refine lv_aload_n hx hb dX3_mostFrom_17 rfl (lv_at hl 1 rfl) ?_
      refine va_get (D := D) (ci := 2) (v := .int (zI ((ro : Nat) : Int))) (C := RX2) (T := TX2) (N := 10) hx hb hts hinX2 hown hK hP 10 rfl rfl 0 (by decide) (hts (.fieldLink RX3 32 "SilentRent$House" "rooms" "I") (List.mem_of_getElem? (i := 2) rfl)) (fun _ h9 => h9) rfl dX3_mostFrom_18 ?_
      refine z_icmp_ge (tgt := 58) hx hb ⟨by omega, by omega⟩ ⟨by omega, by omega⟩ dX3_mostFrom_21 (by decide) (fun c2 => ?_) (fun c2 => ?_)
      · have c2 : (ro : Nat) ≤ (i : Nat) := by omega
        refine lv_iload hx hb dX3_mostFrom_58 (lv_at hl 4 rfl) ?_
        exact zr_iret hx hb hr hlocks hQ (by rw [show i = ro from by omega]) dX3_mostFrom_60
      · have c2 : ¬ ((ro : Nat) ≤ (i : Nat)) := by omega
        refine lv_aload_n hx hb dX3_mostFrom_24 rfl (lv_at hl 0 rfl) ?_
        refine lv_aload_n hx hb dX3_mostFrom_25 rfl (lv_at hl 1 rfl) ?_
        refine lv_iload_n hx hb dX3_mostFrom_26 rfl (lv_at hl 2 rfl) ?_
        refine lv_iload hx hb dX3_mostFrom_27 (lv_at hl 5 rfl) ?_
        refine lv_iload_n hx hb dX3_mostFrom_29 rfl (lv_at hl 3 rfl) ?_
        refine zr_callV (rest := []) (As := [.ref (h 0), .int (zI ((t : Nat) : Int)), .int (zI ((i : Nat) : Int)), .int (zI ((taken : Nat) : Int))]) (v := (if (taken >>> i) &&& 1 = 0 ∧ pr i ≤ 24 - sl t - mu t then 1 else 0)) ⟨hx, hb, hml, hown, hts⟩ (c_X3_canTake l D cy ho hh bt h ro te ch pr sl mu wi ak he li ((t : Nat) : Int) ((i : Nat) : Int) taken (by omega) (by omega) (by omega) hHB) (cwV 4 hts gX3_mostFrom_X3_canTake rfl rfl rfl (by decide +kernel) ⟨Nat.le_of_ble_eq_true rfl, Nat.le_of_ble_eq_true rfl⟩) hK hP 0 3 rfl rfl rfl hl.1 rfl (Nat.le_of_ble_eq_true rfl) dX3_mostFrom_30 ⟨Nat.zero_le _, Nat.zero_le _⟩ ?_
        have J5 : ∀ (z4 : Int), z4 = (if (taken >>> i) &&& 1 = 0 ∧ pr i ≤ 24 - sl t - mu t then (max (mfr (bt (t + 1)) pr sl mu t taken i) (bt (t + 1) (taken ||| 2 ^ i) + 1000 + pr i)) else (mfr (bt (t + 1)) pr sl mu t taken i)) → ∀ ls : Array Slot, lv_has ls 6 [(0, .ref (ho 0)), (1, .ref (h 0)), (2, .int (zI ((t : Nat) : Int))), (3, .int (zI ((taken : Nat) : Int))), (4, .int (zI z4)), (5, .int (zI ((i : Nat) : Int)))] → W p l e rm_X3_mostFrom s m args below meth c s.heap [] 0 0 Q (F0 m 52 ls []) := by
          intro z4 ez4 ls hl
          subst ez4
          refine z_iinc (r := ((i + 1 : Nat) : Int)) (lv' := [(5, .int (zI ((i + 1 : Nat) : Int))), (0, .ref (ho 0)), (1, .ref (h 0)), (2, .int (zI ((t : Nat) : Int))), (3, .int (zI ((taken : Nat) : Int))), (4, .int (zI (if (taken >>> i) &&& 1 = 0 ∧ pr i ≤ 24 - sl t - mu t then (max (mfr (bt (t + 1)) pr sl mu t taken i) (bt (t + 1) (taken ||| 2 ^ i) + 1000 + pr i)) else (mfr (bt (t + 1)) pr sl mu t taken i))))]) hx hb (by omega) dX3_mostFrom_52 hl (k := 5) rfl (by decide) rfl (fun ls hl => ?_)
          refine lv_goto (tgt := 15) hx hb dX3_mostFrom_55 (by decide) ?_
          exact ih15 (i + 1) (by omega) (by omega) (if (taken >>> i) &&& 1 = 0 ∧ pr i ≤ 24 - sl t - mu t then (max (mfr (bt (t + 1)) pr sl mu t taken i) (bt (t + 1) (taken ||| 2 ^ i) + 1000 + pr i)) else (mfr (bt (t + 1)) pr sl mu t taken i)) (by (simp only [mfr]) <;> (repeat' split) <;> first | rfl | omega) ((i + 1 : Nat) : Int) (by first | rfl | omega) ls (lv_sub hl [1, 2, 3, 4, 5, 0] rfl)
        refine z_if_eq (tgt := 52) hx hb bo_r dX3_mostFrom_33 (by decide) (fun c3 => ?_) (fun c3 => ?_)
        · have c3 := bo_f c3
          exact J5 (mfr (bt (t + 1)) pr sl mu t taken i) (by rw [if_neg c3]) ls (lv_sub hl [0, 1, 2, 3, 4, 5] rfl)
        · have c3 := bo_t c3
          refine lv_iload hx hb dX3_mostFrom_36 (lv_at hl 4 rfl) ?_
          refine lv_aload_n hx hb dX3_mostFrom_38 rfl (lv_at hl 0 rfl) ?_
          refine lv_aload_n hx hb dX3_mostFrom_39 rfl (lv_at hl 1 rfl) ?_
          refine lv_iload_n hx hb dX3_mostFrom_40 rfl (lv_at hl 2 rfl) ?_
          refine lv_iload hx hb dX3_mostFrom_41 (lv_at hl 5 rfl) ?_
          refine lv_iload_n hx hb dX3_mostFrom_43 rfl (lv_at hl 3 rfl) ?_
          refine zr_callV (rest := [.int (zI (mfr (bt (t + 1)) pr sl mu t taken i))]) (As := [.ref (h 0), .int (zI ((t : Nat) : Int)), .int (zI ((i : Nat) : Int)), .int (zI ((taken : Nat) : Int))]) (v := (bt (t + 1) (taken ||| 2 ^ i) + 1000 + pr i)) ⟨hx, hb, hml, hown, hts⟩ (c_X3_withRoom l D cy ho hh bt h ro te ch pr sl mu wi ak he li t ((i : Nat) : Int) taken (by omega) (by omega) (by omega) hHB hbt) (cwV 4 hts gX3_mostFrom_X3_withRoom rfl rfl rfl (by decide +kernel) ⟨Nat.le_of_ble_eq_true rfl, Nat.le_of_ble_eq_true rfl⟩) hK hP 0 3 rfl rfl rfl hl.1 rfl (Nat.le_of_ble_eq_true rfl) dX3_mostFrom_44 ⟨Nat.zero_le _, Nat.zero_le _⟩ ?_
          refine z_mmax (r := (max (mfr (bt (t + 1)) pr sl mu t taken i) (bt (t + 1) (taken ||| 2 ^ i) + 1000 + pr i))) hx hb (by rw [hml]; exact hl.1.symm) hown (hts (.methodLink RX3 57 Lib.Math.max.name) (List.mem_of_getElem? (i := 3) rfl)) (hts (.static Lib.Math.max.name) (List.mem_of_getElem? (i := 4) rfl)) (hts (.initialized "java/lang/Math") (List.mem_of_getElem? (i := 5) rfl)) (hts (.code Lib.Math.max.name Lib.Math.max.code 2 (some .int)) (List.mem_of_getElem? (i := 6) rfl)) (Nat.le_of_ble_eq_true rfl) (Nat.le_of_ble_eq_true rfl) (Nat.zero_le _) (Nat.zero_le _) ⟨by omega, by omega⟩ ⟨by omega, by omega⟩ (by omega) dX3_mostFrom_47 ?_
          refine lv_istore (lv' := [(4, .int (zI (max (mfr (bt (t + 1)) pr sl mu t taken i) (bt (t + 1) (taken ||| 2 ^ i) + 1000 + pr i)))), (0, .ref (ho 0)), (1, .ref (h 0)), (2, .int (zI ((t : Nat) : Int))), (3, .int (zI ((taken : Nat) : Int))), (5, .int (zI ((i : Nat) : Int)))]) hx hb dX3_mostFrom_50 hl (by decide) rfl (fun ls hl => ?_)
          exact J5 (max (mfr (bt (t + 1)) pr sl mu t taken i) (bt (t + 1) (taken ||| 2 ^ i) + 1000 + pr i)) (by rw [if_pos c3]) ls (lv_sub hl [1, 2, 3, 4, 0, 5] rfl)
  exact loop15 ((ro - 0) + 1) 0 (by omega) (by omega) (bt (t + 1) taken) (by first | rfl | omega | simp) 0 (by first | rfl | omega | simp) ls (lv_sub hl [2, 3, 4, 5, 1, 0] rfl)
abbrev rm_X3_firstOfBest : Room := { frames := 4, cells := 0, slots := 0, locals := 88 }
set_option maxHeartbeats 4000000 in
set_option maxRecDepth 100000 in
theorem c_X3_firstOfBest (l : Launch) (D : va_G) (cy : Nat → ClassId) (ho : Nat → Nat) (hh : Nat → Int) (bt : Nat → Nat → Int) (h : Nat → Nat) (ro : Nat) (te : Nat) (ch : Nat) (pr : Nat → Int) (sl : Nat → Int) (mu : Nat → Int) (wi : Nat → Int) (ak : Nat → Int) (he : Nat → Nat) (li : Nat → Nat) (t : Nat) (taken : Nat) (ht0 : t < 6) (htk : taken < 64) (hro : ro ≤ 6) (hHB : HB pr sl mu wi ak he li) (hbt : ∀ t k, 0 ≤ bt t k ∧ bt t k ≤ 100000) : Met l yX3_firstOfBest wsX3_firstOfBest rm_X3_firstOfBest (pR D cy [((ho 0), .inr (3, [.ref (ho 1), .ref (ho 2)])), ((ho 1), .inl (cy 0, 6, .inl (zA hh))), ((ho 2), .inl (cy 4, 7, .inr (.inr (.inr (.inr (fun j => if j < 7 then some (ho (3 + j)) else none)))))), ((ho 3), .inl (cy 0, 64, .inl (zA (bt 0)))), ((ho 4), .inl (cy 0, 64, .inl (zA (bt 1)))), ((ho 5), .inl (cy 0, 64, .inl (zA (bt 2)))), ((ho 6), .inl (cy 0, 64, .inl (zA (bt 3)))), ((ho 7), .inl (cy 0, 64, .inl (zA (bt 4)))), ((ho 8), .inl (cy 0, 64, .inl (zA (bt 5)))), ((ho 9), .inl (cy 0, 64, .inl (zA (bt 6)))), ((h 0), .inr (2, [.int (zI ((ro : Nat) : Int)), .int (zI ((te : Nat) : Int)), .int (zI ((ch : Nat) : Int)), .ref (h 1), .ref (h 2), .ref (h 3), .ref (h 4), .ref (h 5), .ref (h 6), .ref (h 7)])), ((h 1), .inl (cy 0, 6, .inl (zA pr))), ((h 2), .inl (cy 0, 6, .inl (zA sl))), ((h 3), .inl (cy 0, 6, .inl (zA mu))), ((h 4), .inl (cy 0, 6, .inl (zA wi))), ((h 5), .inl (cy 0, 6, .inl (zA ak))), ((h 6), .inl (cy 0, 6, .inl (zA (fun j => ((he j : Nat) : Int))))), ((h 7), .inl (cy 0, 5, .inl (zA (fun j => ((li j : Nat) : Int)))))] [.ref (ho 0), .ref (h 0), .int (zI ((t : Nat) : Int)), .int (zI ((taken : Nat) : Int))]) (qR (fob (bt (t + 1)) (bt t taken) pr sl mu t taken ro 0)) 0 0 (fun _ => False) := by
  refine met_R (cc := cX3_firstOfBest) (maxL := 5) (ret := (some .int)) RX3 (by decide) rfl rfl (Nat.le_of_ble_eq_true rfl) ?_
  intro p e s m args below meth c ls Q hx hb hr hml hts hown hlocks hQ hP hK hl
  have hl : lv_has ls 5 [(0, .ref (ho 0)), (1, .ref (h 0)), (2, .int (zI ((t : Nat) : Int))), (3, .int (zI ((taken : Nat) : Int)))] := hl
  have hinX2 : ∀ w ∈ wsX20, w ∈ wsX3_firstOfBest := (fun w h => List.mem_cons_of_mem _ (List.mem_append_left _ (List.mem_append_right _ h)))
  have hinX3 : ∀ w ∈ wsX30, w ∈ wsX3_firstOfBest := (fun w h => List.mem_cons_of_mem _ (List.mem_append_right _ h))
  have rowat : ∀ (hh : Nat → Int) (bt : Nat → Nat → Int) (t : Nat), t < 7 → ([((ho 0), .inr (3, [.ref (ho 1), .ref (ho 2)])), ((ho 1), .inl (cy 0, 6, .inl (zA hh))), ((ho 2), .inl (cy 4, 7, .inr (.inr (.inr (.inr (fun j => if j < 7 then some (ho (3 + j)) else none)))))), ((ho 3), .inl (cy 0, 64, .inl (zA (bt 0)))), ((ho 4), .inl (cy 0, 64, .inl (zA (bt 1)))), ((ho 5), .inl (cy 0, 64, .inl (zA (bt 2)))), ((ho 6), .inl (cy 0, 64, .inl (zA (bt 3)))), ((ho 7), .inl (cy 0, 64, .inl (zA (bt 4)))), ((ho 8), .inl (cy 0, 64, .inl (zA (bt 5)))), ((ho 9), .inl (cy 0, 64, .inl (zA (bt 6)))), ((h 0), .inr (2, [.int (zI ((ro : Nat) : Int)), .int (zI ((te : Nat) : Int)), .int (zI ((ch : Nat) : Int)), .ref (h 1), .ref (h 2), .ref (h 3), .ref (h 4), .ref (h 5), .ref (h 6), .ref (h 7)])), ((h 1), .inl (cy 0, 6, .inl (zA pr))), ((h 2), .inl (cy 0, 6, .inl (zA sl))), ((h 3), .inl (cy 0, 6, .inl (zA mu))), ((h 4), .inl (cy 0, 6, .inl (zA wi))), ((h 5), .inl (cy 0, 6, .inl (zA ak))), ((h 6), .inl (cy 0, 6, .inl (zA (fun j => ((he j : Nat) : Int))))), ((h 7), .inl (cy 0, 5, .inl (zA (fun j => ((li j : Nat) : Int)))))] : va_W)[3 + t]? = some (ho (3 + t), .inl (cy 0, 64, .inl (zA (bt t)))) := by
    intro hh bt t ht; rcases (show t = 0 ∨ t = 1 ∨ t = 2 ∨ t = 3 ∨ t = 4 ∨ t = 5 ∨ t = 6 from by omega) with rfl | rfl | rfl | rfl | rfl | rfl | rfl <;> rfl
  refine lv_iconst (v := zI 0) hx hb dX3_firstOfBest_0 rfl ?_
  refine lv_istore (lv' := [(4, .int (zI 0)), (0, .ref (ho 0)), (1, .ref (h 0)), (2, .int (zI ((t : Nat) : Int))), (3, .int (zI ((taken : Nat) : Int)))]) hx hb dX3_firstOfBest_1 hl (by decide) rfl (fun ls hl => ?_)
  have loop3 : ∀ (n9 : Nat) (i : Nat), ro - i < n9 → (i ≤ ro) → (fob (bt (t + 1)) (bt t taken) pr sl mu t taken ro 0 = fob (bt (t + 1)) (bt t taken) pr sl mu t taken (ro - i) i) → ∀ (x3_4 : Int), x3_4 = ((i : Nat) : Int) → ∀ ls : Array Slot, lv_has ls 5 [(0, .ref (ho 0)), (1, .ref (h 0)), (2, .int (zI ((t : Nat) : Int))), (3, .int (zI ((taken : Nat) : Int))), (4, .int (zI x3_4))] → W p l e rm_X3_firstOfBest s m args below meth c s.heap [] 0 0 Q (F0 m 3 ls []) := by
    intro n9
    induction n9 with
    | zero => intro i h9; exact absurd h9 (Nat.not_lt_zero _)
    | succ n9 ih3 =>
      intro i hmu3 hi hq x3_4 ex3_4 ls hl
      subst ex3_4
      have hl : lv_has ls 5 [(0, .ref (ho 0)), (1, .ref (h 0)), (2, .int (zI ((t : Nat) : Int))), (3, .int (zI ((taken : Nat) : Int))), (4, .int (zI ((i : Nat) : Int)))] := hl
      have hz8 := hbt (t + 1) (taken ||| 2 ^ i)
      have hz7 := hHB.1 i
      have hz6 := hbt t taken
      refine lv_iload hx hb dX3_firstOfBest_3 (lv_at hl 4 rfl) ?_
      refine lv_aload_n hx hb dX3_firstOfBest_5 rfl (lv_at hl 1 rfl) ?_
      refine va_get (D := D) (ci := 2) (v := .int (zI ((ro : Nat) : Int))) (C := RX2) (T := TX2) (N := 10) hx hb hts hinX2 hown hK hP 10 rfl rfl 0 (by decide) (hts (.fieldLink RX3 32 "SilentRent$House" "rooms" "I") (List.mem_of_getElem? (i := 1) rfl)) (fun _ h9 => h9) rfl dX3_firstOfBest_6 ?_
      refine z_icmp_ge (tgt := 53) hx hb ⟨by omega, by omega⟩ ⟨by omega, by omega⟩ dX3_firstOfBest_9 (by decide) (fun c1 => ?_) (fun c1 => ?_)
      · have c1 : (ro : Nat) ≤ (i : Nat) := by omega
        refine lv_bipush (v := zI (-9)) hx hb dX3_firstOfBest_53 (by decide) ?_
        exact zr_iret hx hb hr hlocks hQ (by rw [hq, show ro - i = 0 from by omega]; rfl) dX3_firstOfBest_55
      · have c1 : ¬ ((ro : Nat) ≤ (i : Nat)) := by omega
        refine lv_aload_n hx hb dX3_firstOfBest_12 rfl (lv_at hl 0 rfl) ?_
        refine lv_aload_n hx hb dX3_firstOfBest_13 rfl (lv_at hl 1 rfl) ?_
        refine lv_iload_n hx hb dX3_firstOfBest_14 rfl (lv_at hl 2 rfl) ?_
        refine lv_iload hx hb dX3_firstOfBest_15 (lv_at hl 4 rfl) ?_
        refine lv_iload_n hx hb dX3_firstOfBest_17 rfl (lv_at hl 3 rfl) ?_
        refine zr_callV (rest := []) (As := [.ref (h 0), .int (zI ((t : Nat) : Int)), .int (zI ((i : Nat) : Int)), .int (zI ((taken : Nat) : Int))]) (v := (if (taken >>> i) &&& 1 = 0 ∧ pr i ≤ 24 - sl t - mu t then 1 else 0)) ⟨hx, hb, hml, hown, hts⟩ (c_X3_canTake l D cy ho hh bt h ro te ch pr sl mu wi ak he li ((t : Nat) : Int) ((i : Nat) : Int) taken (by omega) (by omega) (by omega) hHB) (cwV 4 hts gX3_firstOfBest_X3_canTake rfl rfl rfl (by decide +kernel) ⟨Nat.le_of_ble_eq_true rfl, Nat.le_of_ble_eq_true rfl⟩) hK hP 0 3 rfl rfl rfl hl.1 rfl (Nat.le_of_ble_eq_true rfl) dX3_firstOfBest_18 ⟨Nat.zero_le _, Nat.zero_le _⟩ ?_
        have J6 : (((¬ ((taken >>> i) &&& 1 = 0 ∧ pr i ≤ 24 - sl t - mu t))) ∨ (((taken >>> i) &&& 1 = 0 ∧ pr i ≤ 24 - sl t - mu t) ∧ (¬ ((bt (t + 1) (taken ||| 2 ^ i) + 1000 + pr i) = (bt t taken))))) → ∀ ls : Array Slot, lv_has ls 5 [(0, .ref (ho 0)), (1, .ref (h 0)), (2, .int (zI ((t : Nat) : Int))), (3, .int (zI ((taken : Nat) : Int))), (4, .int (zI ((i : Nat) : Int)))] → W p l e rm_X3_firstOfBest s m args below meth c s.heap [] 0 0 Q (F0 m 47 ls []) := by
          intro  hj5 ls hl
          refine z_iinc (r := ((i + 1 : Nat) : Int)) (lv' := [(4, .int (zI ((i + 1 : Nat) : Int))), (0, .ref (ho 0)), (1, .ref (h 0)), (2, .int (zI ((t : Nat) : Int))), (3, .int (zI ((taken : Nat) : Int)))]) hx hb (by omega) dX3_firstOfBest_47 hl (k := 4) rfl (by decide) rfl (fun ls hl => ?_)
          refine lv_goto (tgt := 3) hx hb dX3_firstOfBest_50 (by decide) ?_
          exact ih3 (i + 1) (by omega) (by omega) (by rw [hq, show ro - i = (ro - (i + 1)) + 1 from by omega, fob_s, if_neg (by omega)]) ((i + 1 : Nat) : Int) (by first | rfl | omega) ls (lv_sub hl [1, 2, 3, 4, 0] rfl)
        refine z_if_eq (tgt := 47) hx hb bo_r dX3_firstOfBest_21 (by decide) (fun c2 => ?_) (fun c2 => ?_)
        · have c2 := bo_f c2
          exact J6 (Or.inl c2) ls (lv_sub hl [0, 1, 2, 3, 4] rfl)
        · have c2 := bo_t c2
          refine lv_aload_n hx hb dX3_firstOfBest_24 rfl (lv_at hl 0 rfl) ?_
          refine lv_aload_n hx hb dX3_firstOfBest_25 rfl (lv_at hl 1 rfl) ?_
          refine lv_iload_n hx hb dX3_firstOfBest_26 rfl (lv_at hl 2 rfl) ?_
          refine lv_iload hx hb dX3_firstOfBest_27 (lv_at hl 4 rfl) ?_
          refine lv_iload_n hx hb dX3_firstOfBest_29 rfl (lv_at hl 3 rfl) ?_
          refine zr_callV (rest := []) (As := [.ref (h 0), .int (zI ((t : Nat) : Int)), .int (zI ((i : Nat) : Int)), .int (zI ((taken : Nat) : Int))]) (v := (bt (t + 1) (taken ||| 2 ^ i) + 1000 + pr i)) ⟨hx, hb, hml, hown, hts⟩ (c_X3_withRoom l D cy ho hh bt h ro te ch pr sl mu wi ak he li t ((i : Nat) : Int) taken (by omega) (by omega) (by omega) hHB hbt) (cwV 4 hts gX3_firstOfBest_X3_withRoom rfl rfl rfl (by decide +kernel) ⟨Nat.le_of_ble_eq_true rfl, Nat.le_of_ble_eq_true rfl⟩) hK hP 0 3 rfl rfl rfl hl.1 rfl (Nat.le_of_ble_eq_true rfl) dX3_firstOfBest_30 ⟨Nat.zero_le _, Nat.zero_le _⟩ ?_
          refine lv_aload_n hx hb dX3_firstOfBest_33 rfl (lv_at hl 0 rfl) ?_
          refine va_get (D := D) (ci := 3) (v := .ref (ho 2)) (C := RX3) (T := TX3) (N := 2) hx hb hts hinX3 hown hK hP 0 rfl rfl 1 (by decide) (hts (.fieldLink RX3 17 "SilentRent$Housing" "best" "[[I") (List.mem_of_getElem? (i := 2) rfl)) (fun _ h9 => h9) rfl dX3_firstOfBest_34 ?_
          refine lv_iload_n hx hb dX3_firstOfBest_37 rfl (lv_at hl 2 rfl) ?_
          refine z_aald hx hb hK hP 2 4 (ty := .array .int) rfl (f := (fun j => if j < 7 then some (ho (3 + j)) else none)) rfl rfl t rfl (by omega) (by decide) (r := (ho (3 + t))) (if_pos (by omega)) dX3_firstOfBest_38 ?_
          refine lv_iload_n hx hb dX3_firstOfBest_39 rfl (lv_at hl 3 rfl) ?_
          refine z_iald hx hb hK hP (3 + t) 0 (f := bt t) (rowat _ _ t (by omega)) rfl taken rfl (by omega) (by decide) dX3_firstOfBest_40 ?_
          have hb3 := hbt t taken
          refine z_icmp_ne (tgt := 47) hx hb ⟨by omega, by omega⟩ ⟨by omega, by omega⟩ dX3_firstOfBest_41 (by decide) (fun c4 => ?_) (fun c4 => ?_)
          · exact J6 (Or.inr ⟨c2, c4⟩) ls (lv_sub hl [0, 1, 2, 3, 4] rfl)
          · refine lv_iload hx hb dX3_firstOfBest_44 (lv_at hl 4 rfl) ?_
            exact zr_iret hx hb hr hlocks hQ (by rw [hq, show ro - i = (ro - (i + 1)) + 1 from by omega, fob_s, if_pos (by omega)]) dX3_firstOfBest_46
  exact loop3 ((ro - 0) + 1) 0 (by omega) (by omega) rfl 0 (by first | rfl | omega | simp) ls (lv_sub hl [1, 2, 3, 4, 0] rfl)
abbrev rm_X3_howMany : Room := { frames := 0, cells := 0, slots := 0, locals := 0 }
set_option maxHeartbeats 4000000 in
set_option maxRecDepth 100000 in
theorem c_X3_howMany (l : Launch) (D : va_G) (cy : Nat → ClassId) (ho : Nat → Nat) (hh : Nat → Int) (bt : Nat → Nat → Int) (h : Nat → Nat) (ro : Nat) (te : Nat) (ch : Nat) (pr : Nat → Int) (sl : Nat → Int) (mu : Nat → Int) (wi : Nat → Int) (ak : Nat → Int) (he : Nat → Nat) (li : Nat → Nat) (hte : te ≤ 6) (hhh : ∀ t, -9 ≤ hh t ∧ hh t < 6) : Met l yX3_howMany wsX3_howMany rm_X3_howMany (pR D cy [((ho 0), .inr (3, [.ref (ho 1), .ref (ho 2)])), ((ho 1), .inl (cy 0, 6, .inl (zA hh))), ((ho 2), .inl (cy 4, 7, .inr (.inr (.inr (.inr (fun j => if j < 7 then some (ho (3 + j)) else none)))))), ((ho 3), .inl (cy 0, 64, .inl (zA (bt 0)))), ((ho 4), .inl (cy 0, 64, .inl (zA (bt 1)))), ((ho 5), .inl (cy 0, 64, .inl (zA (bt 2)))), ((ho 6), .inl (cy 0, 64, .inl (zA (bt 3)))), ((ho 7), .inl (cy 0, 64, .inl (zA (bt 4)))), ((ho 8), .inl (cy 0, 64, .inl (zA (bt 5)))), ((ho 9), .inl (cy 0, 64, .inl (zA (bt 6)))), ((h 0), .inr (2, [.int (zI ((ro : Nat) : Int)), .int (zI ((te : Nat) : Int)), .int (zI ((ch : Nat) : Int)), .ref (h 1), .ref (h 2), .ref (h 3), .ref (h 4), .ref (h 5), .ref (h 6), .ref (h 7)])), ((h 1), .inl (cy 0, 6, .inl (zA pr))), ((h 2), .inl (cy 0, 6, .inl (zA sl))), ((h 3), .inl (cy 0, 6, .inl (zA mu))), ((h 4), .inl (cy 0, 6, .inl (zA wi))), ((h 5), .inl (cy 0, 6, .inl (zA ak))), ((h 6), .inl (cy 0, 6, .inl (zA (fun j => ((he j : Nat) : Int))))), ((h 7), .inl (cy 0, 5, .inl (zA (fun j => ((li j : Nat) : Int)))))] [.ref (ho 0), .ref (h 0)]) (qR ((cnt (fun t => decide (¬ hh t = -9)) te : Nat) : Int)) 0 0 (fun _ => False) := by
  refine met_R (cc := cX3_howMany) (maxL := 4) (ret := (some .int)) RX3 (by decide) rfl rfl (Nat.le_of_ble_eq_true rfl) ?_
  intro p e s m args below meth c ls Q hx hb hr hml hts hown hlocks hQ hP hK hl
  have hl : lv_has ls 4 [(0, .ref (ho 0)), (1, .ref (h 0))] := hl
  have hinX2 : ∀ w ∈ wsX20, w ∈ wsX3_howMany := (fun w h => List.mem_cons_of_mem _ (List.mem_append_left _ (List.mem_append_right _ h)))
  have hinX3 : ∀ w ∈ wsX30, w ∈ wsX3_howMany := (fun w h => List.mem_cons_of_mem _ (List.mem_append_right _ h))
  have rowat : ∀ (hh : Nat → Int) (bt : Nat → Nat → Int) (t : Nat), t < 7 → ([((ho 0), .inr (3, [.ref (ho 1), .ref (ho 2)])), ((ho 1), .inl (cy 0, 6, .inl (zA hh))), ((ho 2), .inl (cy 4, 7, .inr (.inr (.inr (.inr (fun j => if j < 7 then some (ho (3 + j)) else none)))))), ((ho 3), .inl (cy 0, 64, .inl (zA (bt 0)))), ((ho 4), .inl (cy 0, 64, .inl (zA (bt 1)))), ((ho 5), .inl (cy 0, 64, .inl (zA (bt 2)))), ((ho 6), .inl (cy 0, 64, .inl (zA (bt 3)))), ((ho 7), .inl (cy 0, 64, .inl (zA (bt 4)))), ((ho 8), .inl (cy 0, 64, .inl (zA (bt 5)))), ((ho 9), .inl (cy 0, 64, .inl (zA (bt 6)))), ((h 0), .inr (2, [.int (zI ((ro : Nat) : Int)), .int (zI ((te : Nat) : Int)), .int (zI ((ch : Nat) : Int)), .ref (h 1), .ref (h 2), .ref (h 3), .ref (h 4), .ref (h 5), .ref (h 6), .ref (h 7)])), ((h 1), .inl (cy 0, 6, .inl (zA pr))), ((h 2), .inl (cy 0, 6, .inl (zA sl))), ((h 3), .inl (cy 0, 6, .inl (zA mu))), ((h 4), .inl (cy 0, 6, .inl (zA wi))), ((h 5), .inl (cy 0, 6, .inl (zA ak))), ((h 6), .inl (cy 0, 6, .inl (zA (fun j => ((he j : Nat) : Int))))), ((h 7), .inl (cy 0, 5, .inl (zA (fun j => ((li j : Nat) : Int)))))] : va_W)[3 + t]? = some (ho (3 + t), .inl (cy 0, 64, .inl (zA (bt t)))) := by
    intro hh bt t ht; rcases (show t = 0 ∨ t = 1 ∨ t = 2 ∨ t = 3 ∨ t = 4 ∨ t = 5 ∨ t = 6 from by omega) with rfl | rfl | rfl | rfl | rfl | rfl | rfl <;> rfl
  refine lv_iconst (v := zI 0) hx hb dX3_howMany_0 rfl ?_
  refine lv_istore_n (lv' := [(2, .int (zI 0)), (0, .ref (ho 0)), (1, .ref (h 0))]) hx hb dX3_howMany_1 rfl hl (by decide) rfl (fun ls hl => ?_)
  refine lv_iconst (v := zI 0) hx hb dX3_howMany_2 rfl ?_
  refine lv_istore_n (lv' := [(3, .int (zI 0)), (2, .int (zI 0)), (0, .ref (ho 0)), (1, .ref (h 0))]) hx hb dX3_howMany_3 rfl hl (by decide) rfl (fun ls hl => ?_)
  have loop4 : ∀ (n9 : Nat) (i : Nat), te - i < n9 → (i ≤ te) → ∀ (x4_2 : Int), x4_2 = ((cnt (fun t => decide (¬ hh t = -9)) i : Nat) : Int) → ∀ (x4_3 : Int), x4_3 = ((i : Nat) : Int) → ∀ ls : Array Slot, lv_has ls 4 [(0, .ref (ho 0)), (1, .ref (h 0)), (2, .int (zI x4_2)), (3, .int (zI x4_3))] → W p l e rm_X3_howMany s m args below meth c s.heap [] 0 0 Q (F0 m 4 ls []) := by
    intro n9
    induction n9 with
    | zero => intro i h9; exact absurd h9 (Nat.not_lt_zero _)
    | succ n9 ih4 =>
      intro i hmu4 hi x4_2 ex4_2 x4_3 ex4_3 ls hl
      subst ex4_2
      subst ex4_3
      have hl : lv_has ls 4 [(0, .ref (ho 0)), (1, .ref (h 0)), (2, .int (zI ((cnt (fun t => decide (¬ hh t = -9)) i : Nat) : Int))), (3, .int (zI ((i : Nat) : Int)))] := hl
      have hz9 := cnt_le (fun t => decide (¬ hh t = -9)) i
      refine lv_iload_n hx hb dX3_howMany_4 rfl (lv_at hl 3 rfl) ?_
      refine lv_aload_n hx hb dX3_howMany_5 rfl (lv_at hl 1 rfl) ?_
      refine va_get (D := D) (ci := 2) (v := .int (zI ((te : Nat) : Int))) (C := RX2) (T := TX2) (N := 10) hx hb hts hinX2 hown hK hP 10 rfl rfl 1 (by decide) (hts (.fieldLink RX3 20 "SilentRent$House" "tenants" "I") (List.mem_of_getElem? (i := 1) rfl)) (fun _ h9 => h9) rfl dX3_howMany_6 ?_
      refine z_icmp_ge (tgt := 32) hx hb ⟨by omega, by omega⟩ ⟨by omega, by omega⟩ dX3_howMany_9 (by decide) (fun c1 => ?_) (fun c1 => ?_)
      · have c1 : (te : Nat) ≤ (i : Nat) := by omega
        refine lv_iload_n hx hb dX3_howMany_32 rfl (lv_at hl 2 rfl) ?_
        exact zr_iret hx hb hr hlocks hQ (by rw [show i = te from by omega]) dX3_howMany_33
      · have c1 : ¬ ((te : Nat) ≤ (i : Nat)) := by omega
        refine lv_aload_n hx hb dX3_howMany_12 rfl (lv_at hl 0 rfl) ?_
        refine va_get (D := D) (ci := 3) (v := .ref (ho 1)) (C := RX3) (T := TX3) (N := 2) hx hb hts hinX3 hown hK hP 0 rfl rfl 0 (by decide) (hts (.fieldLink RX3 9 "SilentRent$Housing" "home" "[I") (List.mem_of_getElem? (i := 2) rfl)) (fun _ h9 => h9) rfl dX3_howMany_13 ?_
        refine lv_iload_n hx hb dX3_howMany_16 rfl (lv_at hl 3 rfl) ?_
        refine z_iald hx hb hK hP 1 0 (f := hh) rfl rfl i rfl (by omega) (by decide) dX3_howMany_17 ?_
        have hb2 := hhh i
        refine lv_bipush (v := zI (-9)) hx hb dX3_howMany_18 (by decide) ?_
        have J5 : ∀ (z4 : Nat), z4 = (if (hh i) = (-9) then (cnt (fun t => decide (¬ hh t = -9)) i) else ((cnt (fun t => decide (¬ hh t = -9)) i) + 1)) → ∀ ls : Array Slot, lv_has ls 4 [(0, .ref (ho 0)), (1, .ref (h 0)), (2, .int (zI ((z4 : Nat) : Int))), (3, .int (zI ((i : Nat) : Int)))] → W p l e rm_X3_howMany s m args below meth c s.heap [] 0 0 Q (F0 m 26 ls []) := by
          intro z4 ez4 ls hl
          subst ez4
          refine z_iinc (r := ((i + 1 : Nat) : Int)) (lv' := [(3, .int (zI ((i + 1 : Nat) : Int))), (0, .ref (ho 0)), (1, .ref (h 0)), (2, .int (zI (((if (hh i) = (-9) then (cnt (fun t => decide (¬ hh t = -9)) i) else ((cnt (fun t => decide (¬ hh t = -9)) i) + 1)) : Nat) : Int)))]) hx hb (by omega) dX3_howMany_26 hl (k := 3) rfl (by decide) rfl (fun ls hl => ?_)
          refine lv_goto (tgt := 4) hx hb dX3_howMany_29 (by decide) ?_
          exact ih4 (i + 1) (by omega) (by omega) (((if (hh i) = (-9) then (cnt (fun t => decide (¬ hh t = -9)) i) else ((cnt (fun t => decide (¬ hh t = -9)) i) + 1)) : Nat) : Int) (by (simp only [cnt, decide_eq_true_eq]) <;> (repeat' split) <;> first | rfl | omega) ((i + 1 : Nat) : Int) (by first | rfl | omega) ls (lv_sub hl [1, 2, 3, 0] rfl)
        refine z_icmp_eq (tgt := 26) hx hb ⟨by omega, by omega⟩ ⟨by omega, by omega⟩ dX3_howMany_20 (by decide) (fun c3 => ?_) (fun c3 => ?_)
        · exact J5 (cnt (fun t => decide (¬ hh t = -9)) i) (by rw [if_pos c3]) ls (lv_sub hl [0, 1, 2, 3] rfl)
        · refine z_iinc (r := (((cnt (fun t => decide (¬ hh t = -9)) i) + 1 : Nat) : Int)) (lv' := [(2, .int (zI (((cnt (fun t => decide (¬ hh t = -9)) i) + 1 : Nat) : Int))), (0, .ref (ho 0)), (1, .ref (h 0)), (3, .int (zI ((i : Nat) : Int)))]) hx hb (by omega) dX3_howMany_23 hl (k := 2) rfl (by decide) rfl (fun ls hl => ?_)
          exact J5 ((cnt (fun t => decide (¬ hh t = -9)) i) + 1) (by rw [if_neg c3]) ls (lv_sub hl [1, 2, 0, 3] rfl)
  exact loop4 ((te - 0) + 1) 0 (by omega) (by omega) 0 (by first | rfl | omega | simp) 0 (by first | rfl | omega | simp) ls (lv_sub hl [2, 3, 1, 0] rfl)
abbrev rm_X3_prices : Room := { frames := 1, cells := 0, slots := 0, locals := 21 }
set_option maxHeartbeats 4000000 in
set_option maxRecDepth 100000 in
theorem c_X3_prices (l : Launch) (D : va_G) (cy : Nat → ClassId) (ho : Nat → Nat) (hh : Nat → Int) (bt : Nat → Nat → Int) (h : Nat → Nat) (ro : Nat) (te : Nat) (ch : Nat) (pr : Nat → Int) (sl : Nat → Int) (mu : Nat → Int) (wi : Nat → Int) (ak : Nat → Int) (he : Nat → Nat) (li : Nat → Nat) (hro : ro ≤ 6) (hte : te ≤ 6) (hHB : HB pr sl mu wi ak he li) (hhh : ∀ t, -9 ≤ hh t ∧ hh t < 6) : Met l yX3_prices wsX3_prices rm_X3_prices (pR D cy [((ho 0), .inr (3, [.ref (ho 1), .ref (ho 2)])), ((ho 1), .inl (cy 0, 6, .inl (zA hh))), ((ho 2), .inl (cy 4, 7, .inr (.inr (.inr (.inr (fun j => if j < 7 then some (ho (3 + j)) else none)))))), ((ho 3), .inl (cy 0, 64, .inl (zA (bt 0)))), ((ho 4), .inl (cy 0, 64, .inl (zA (bt 1)))), ((ho 5), .inl (cy 0, 64, .inl (zA (bt 2)))), ((ho 6), .inl (cy 0, 64, .inl (zA (bt 3)))), ((ho 7), .inl (cy 0, 64, .inl (zA (bt 4)))), ((ho 8), .inl (cy 0, 64, .inl (zA (bt 5)))), ((ho 9), .inl (cy 0, 64, .inl (zA (bt 6)))), ((h 0), .inr (2, [.int (zI ((ro : Nat) : Int)), .int (zI ((te : Nat) : Int)), .int (zI ((ch : Nat) : Int)), .ref (h 1), .ref (h 2), .ref (h 3), .ref (h 4), .ref (h 5), .ref (h 6), .ref (h 7)])), ((h 1), .inl (cy 0, 6, .inl (zA pr))), ((h 2), .inl (cy 0, 6, .inl (zA sl))), ((h 3), .inl (cy 0, 6, .inl (zA mu))), ((h 4), .inl (cy 0, 6, .inl (zA wi))), ((h 5), .inl (cy 0, 6, .inl (zA ak))), ((h 6), .inl (cy 0, 6, .inl (zA (fun j => ((he j : Nat) : Int))))), ((h 7), .inl (cy 0, 5, .inl (zA (fun j => ((li j : Nat) : Int)))))] [.ref (ho 0), .ref (h 0)]) (qR (sumI (fun t => if 0 ≤ hh t ∧ hh t < (ro : Int) then pr (hh t).toNat else 0) te)) 0 0 (fun _ => False) := by
  refine met_R (cc := cX3_prices) (maxL := 4) (ret := (some .int)) RX3 (by decide) rfl rfl (Nat.le_of_ble_eq_true rfl) ?_
  intro p e s m args below meth c ls Q hx hb hr hml hts hown hlocks hQ hP hK hl
  have hl : lv_has ls 4 [(0, .ref (ho 0)), (1, .ref (h 0))] := hl
  have hinX2 : ∀ w ∈ wsX20, w ∈ wsX3_prices := (fun w h => List.mem_cons_of_mem _ (List.mem_append_left _ (List.mem_append_right _ h)))
  have hinX3 : ∀ w ∈ wsX30, w ∈ wsX3_prices := (fun w h => List.mem_cons_of_mem _ (List.mem_append_right _ h))
  have rowat : ∀ (hh : Nat → Int) (bt : Nat → Nat → Int) (t : Nat), t < 7 → ([((ho 0), .inr (3, [.ref (ho 1), .ref (ho 2)])), ((ho 1), .inl (cy 0, 6, .inl (zA hh))), ((ho 2), .inl (cy 4, 7, .inr (.inr (.inr (.inr (fun j => if j < 7 then some (ho (3 + j)) else none)))))), ((ho 3), .inl (cy 0, 64, .inl (zA (bt 0)))), ((ho 4), .inl (cy 0, 64, .inl (zA (bt 1)))), ((ho 5), .inl (cy 0, 64, .inl (zA (bt 2)))), ((ho 6), .inl (cy 0, 64, .inl (zA (bt 3)))), ((ho 7), .inl (cy 0, 64, .inl (zA (bt 4)))), ((ho 8), .inl (cy 0, 64, .inl (zA (bt 5)))), ((ho 9), .inl (cy 0, 64, .inl (zA (bt 6)))), ((h 0), .inr (2, [.int (zI ((ro : Nat) : Int)), .int (zI ((te : Nat) : Int)), .int (zI ((ch : Nat) : Int)), .ref (h 1), .ref (h 2), .ref (h 3), .ref (h 4), .ref (h 5), .ref (h 6), .ref (h 7)])), ((h 1), .inl (cy 0, 6, .inl (zA pr))), ((h 2), .inl (cy 0, 6, .inl (zA sl))), ((h 3), .inl (cy 0, 6, .inl (zA mu))), ((h 4), .inl (cy 0, 6, .inl (zA wi))), ((h 5), .inl (cy 0, 6, .inl (zA ak))), ((h 6), .inl (cy 0, 6, .inl (zA (fun j => ((he j : Nat) : Int))))), ((h 7), .inl (cy 0, 5, .inl (zA (fun j => ((li j : Nat) : Int)))))] : va_W)[3 + t]? = some (ho (3 + t), .inl (cy 0, 64, .inl (zA (bt t)))) := by
    intro hh bt t ht; rcases (show t = 0 ∨ t = 1 ∨ t = 2 ∨ t = 3 ∨ t = 4 ∨ t = 5 ∨ t = 6 from by omega) with rfl | rfl | rfl | rfl | rfl | rfl | rfl <;> rfl
  refine lv_iconst (v := zI 0) hx hb dX3_prices_0 rfl ?_
  refine lv_istore_n (lv' := [(2, .int (zI 0)), (0, .ref (ho 0)), (1, .ref (h 0))]) hx hb dX3_prices_1 rfl hl (by decide) rfl (fun ls hl => ?_)
  refine lv_iconst (v := zI 0) hx hb dX3_prices_2 rfl ?_
  refine lv_istore_n (lv' := [(3, .int (zI 0)), (2, .int (zI 0)), (0, .ref (ho 0)), (1, .ref (h 0))]) hx hb dX3_prices_3 rfl hl (by decide) rfl (fun ls hl => ?_)
  have loop4 : ∀ (n9 : Nat) (i : Nat), te - i < n9 → (i ≤ te) → ∀ (x4_2 : Int), x4_2 = (sumI (fun t => if 0 ≤ hh t ∧ hh t < (ro : Int) then pr (hh t).toNat else 0) i) → ∀ (x4_3 : Int), x4_3 = ((i : Nat) : Int) → ∀ ls : Array Slot, lv_has ls 4 [(0, .ref (ho 0)), (1, .ref (h 0)), (2, .int (zI x4_2)), (3, .int (zI x4_3))] → W p l e rm_X3_prices s m args below meth c s.heap [] 0 0 Q (F0 m 4 ls []) := by
    intro n9
    induction n9 with
    | zero => intro i h9; exact absurd h9 (Nat.not_lt_zero _)
    | succ n9 ih4 =>
      intro i hmu4 hi x4_2 ex4_2 x4_3 ex4_3 ls hl
      subst ex4_2
      subst ex4_3
      have hl : lv_has ls 4 [(0, .ref (ho 0)), (1, .ref (h 0)), (2, .int (zI (sumI (fun t => if 0 ≤ hh t ∧ hh t < (ro : Int) then pr (hh t).toNat else 0) i))), (3, .int (zI ((i : Nat) : Int)))] := hl
      refine lv_iload_n hx hb dX3_prices_4 rfl (lv_at hl 3 rfl) ?_
      refine lv_aload_n hx hb dX3_prices_5 rfl (lv_at hl 1 rfl) ?_
      refine va_get (D := D) (ci := 2) (v := .int (zI ((te : Nat) : Int))) (C := RX2) (T := TX2) (N := 10) hx hb hts hinX2 hown hK hP 10 rfl rfl 1 (by decide) (hts (.fieldLink RX3 20 "SilentRent$House" "tenants" "I") (List.mem_of_getElem? (i := 1) rfl)) (fun _ h9 => h9) rfl dX3_prices_6 ?_
      refine z_icmp_ge (tgt := 45) hx hb ⟨by omega, by omega⟩ ⟨by omega, by omega⟩ dX3_prices_9 (by decide) (fun c1 => ?_) (fun c1 => ?_)
      · have c1 : (te : Nat) ≤ (i : Nat) := by omega
        refine lv_iload_n hx hb dX3_prices_45 rfl (lv_at hl 2 rfl) ?_
        exact zr_iret hx hb hr hlocks hQ (by rw [show i = te from by omega]) dX3_prices_46
      · have c1 : ¬ ((te : Nat) ≤ (i : Nat)) := by omega
        refine lv_aload_n hx hb dX3_prices_12 rfl (lv_at hl 1 rfl) ?_
        refine lv_aload_n hx hb dX3_prices_13 rfl (lv_at hl 0 rfl) ?_
        refine va_get (D := D) (ci := 3) (v := .ref (ho 1)) (C := RX3) (T := TX3) (N := 2) hx hb hts hinX3 hown hK hP 0 rfl rfl 0 (by decide) (hts (.fieldLink RX3 9 "SilentRent$Housing" "home" "[I") (List.mem_of_getElem? (i := 2) rfl)) (fun _ h9 => h9) rfl dX3_prices_14 ?_
        refine lv_iload_n hx hb dX3_prices_17 rfl (lv_at hl 3 rfl) ?_
        refine z_iald hx hb hK hP 1 0 (f := hh) rfl rfl i rfl (by omega) (by decide) dX3_prices_18 ?_
        have hb2 := hhh i
        have hPc3 := hP.sub (ws' := [((h 0), .inr (2, [.int (zI ((ro : Nat) : Int)), .int (zI ((te : Nat) : Int)), .int (zI ((ch : Nat) : Int)), .ref (h 1), .ref (h 2), .ref (h 3), .ref (h 4), .ref (h 5), .ref (h 6), .ref (h 7)])), ((h 1), .inl (cy 0, 6, .inl (zA pr))), ((h 2), .inl (cy 0, 6, .inl (zA sl))), ((h 3), .inl (cy 0, 6, .inl (zA mu))), ((h 4), .inl (cy 0, 6, .inl (zA wi))), ((h 5), .inl (cy 0, 6, .inl (zA ak))), ((h 6), .inl (cy 0, 6, .inl (zA (fun j => ((he j : Nat) : Int))))), ((h 7), .inl (cy 0, 5, .inl (zA (fun j => ((li j : Nat) : Int)))))]) [10, 11, 12, 13, 14, 15, 16, 17] rfl
        refine zr_callV (rest := []) (As := [.int (zI (hh i))]) (v := (if 0 ≤ (hh i) ∧ (hh i) < ((ro : Nat) : Int) then 1 else 0)) ⟨hx, hb, hml, hown, hts⟩ (c_X2_hasRoom l D cy h ro te ch pr sl mu wi ak he li (hh i) (by omega) (by omega)) (cwV 1 hts gX3_prices_X2_hasRoom rfl rfl rfl (by decide +kernel) ⟨Nat.le_of_ble_eq_true rfl, Nat.le_of_ble_eq_true rfl⟩) hK hPc3 0 2 rfl rfl rfl hl.1 rfl (Nat.le_of_ble_eq_true rfl) dX3_prices_19 ⟨Nat.zero_le _, Nat.zero_le _⟩ ?_
        have J8 : ∀ (z7 : Int), z7 = (if 0 ≤ (hh i) ∧ (hh i) < ((ro : Nat) : Int) then ((sumI (fun t => if 0 ≤ hh t ∧ hh t < (ro : Int) then pr (hh t).toNat else 0) i) + (pr (hh i).toNat)) else (sumI (fun t => if 0 ≤ hh t ∧ hh t < (ro : Int) then pr (hh t).toNat else 0) i)) → ∀ ls : Array Slot, lv_has ls 4 [(0, .ref (ho 0)), (1, .ref (h 0)), (2, .int (zI z7)), (3, .int (zI ((i : Nat) : Int)))] → W p l e rm_X3_prices s m args below meth c s.heap [] 0 0 Q (F0 m 39 ls []) := by
          intro z7 ez7 ls hl
          subst ez7
          refine z_iinc (r := ((i + 1 : Nat) : Int)) (lv' := [(3, .int (zI ((i + 1 : Nat) : Int))), (0, .ref (ho 0)), (1, .ref (h 0)), (2, .int (zI (if 0 ≤ (hh i) ∧ (hh i) < ((ro : Nat) : Int) then ((sumI (fun t => if 0 ≤ hh t ∧ hh t < (ro : Int) then pr (hh t).toNat else 0) i) + (pr (hh i).toNat)) else (sumI (fun t => if 0 ≤ hh t ∧ hh t < (ro : Int) then pr (hh t).toNat else 0) i))))]) hx hb (by omega) dX3_prices_39 hl (k := 3) rfl (by decide) rfl (fun ls hl => ?_)
          refine lv_goto (tgt := 4) hx hb dX3_prices_42 (by decide) ?_
          exact ih4 (i + 1) (by omega) (by omega) (if 0 ≤ (hh i) ∧ (hh i) < ((ro : Nat) : Int) then ((sumI (fun t => if 0 ≤ hh t ∧ hh t < (ro : Int) then pr (hh t).toNat else 0) i) + (pr (hh i).toNat)) else (sumI (fun t => if 0 ≤ hh t ∧ hh t < (ro : Int) then pr (hh t).toNat else 0) i)) (by (simp only [sumI]) <;> (repeat' split) <;> omega) ((i + 1 : Nat) : Int) (by first | rfl | omega) ls (lv_sub hl [1, 2, 3, 0] rfl)
        refine z_if_eq (tgt := 39) hx hb bo_r dX3_prices_22 (by decide) (fun c4 => ?_) (fun c4 => ?_)
        · have c4 := bo_f c4
          exact J8 (sumI (fun t => if 0 ≤ hh t ∧ hh t < (ro : Int) then pr (hh t).toNat else 0) i) (by rw [if_neg c4]) ls (lv_sub hl [0, 1, 2, 3] rfl)
        · have c4 := bo_t c4
          refine lv_iload_n hx hb dX3_prices_25 rfl (lv_at hl 2 rfl) ?_
          refine lv_aload_n hx hb dX3_prices_26 rfl (lv_at hl 1 rfl) ?_
          refine va_get (D := D) (ci := 2) (v := .ref (h 1)) (C := RX2) (T := TX2) (N := 10) hx hb hts hinX2 hown hK hP 10 rfl rfl 3 (by decide) (hts (.fieldLink RX3 46 "SilentRent$House" "price" "[I") (List.mem_of_getElem? (i := 3) rfl)) (fun _ h9 => h9) rfl dX3_prices_27 ?_
          refine lv_aload_n hx hb dX3_prices_30 rfl (lv_at hl 0 rfl) ?_
          refine va_get (D := D) (ci := 3) (v := .ref (ho 1)) (C := RX3) (T := TX3) (N := 2) hx hb hts hinX3 hown hK hP 0 rfl rfl 0 (by decide) (hts (.fieldLink RX3 9 "SilentRent$Housing" "home" "[I") (List.mem_of_getElem? (i := 2) rfl)) (fun _ h9 => h9) rfl dX3_prices_31 ?_
          refine lv_iload_n hx hb dX3_prices_34 rfl (lv_at hl 3 rfl) ?_
          refine z_iald hx hb hK hP 1 0 (f := hh) rfl rfl i rfl (by omega) (by decide) dX3_prices_35 ?_
          have hb5 := hhh i
          refine z_iald hx hb hK hP 11 0 (f := pr) rfl rfl ((hh i).toNat) (by omega) (by omega) (by decide) dX3_prices_36 ?_
          have hb6 := hHB.1 ((hh i).toNat)
          refine z_iadd (r := ((sumI (fun t => if 0 ≤ hh t ∧ hh t < (ro : Int) then pr (hh t).toNat else 0) i) + (pr (hh i).toNat))) hx hb rfl dX3_prices_37 ?_
          refine lv_istore_n (lv' := [(2, .int (zI ((sumI (fun t => if 0 ≤ hh t ∧ hh t < (ro : Int) then pr (hh t).toNat else 0) i) + (pr (hh i).toNat)))), (0, .ref (ho 0)), (1, .ref (h 0)), (3, .int (zI ((i : Nat) : Int)))]) hx hb dX3_prices_38 rfl hl (by decide) rfl (fun ls hl => ?_)
          exact J8 ((sumI (fun t => if 0 ≤ hh t ∧ hh t < (ro : Int) then pr (hh t).toNat else 0) i) + (pr (hh i).toNat)) (by rw [if_pos c4]) ls (lv_sub hl [1, 2, 0, 3] rfl)
  exact loop4 ((te - 0) + 1) 0 (by omega) (by omega) 0 (by first | rfl | omega | simp) 0 (by first | rfl | omega | simp) ls (lv_sub hl [2, 3, 1, 0] rfl)
