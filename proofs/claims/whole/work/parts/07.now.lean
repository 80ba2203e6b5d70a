/-! Now, Book -/
/-- the first of n from i on with f .. = r, or -9 -/
def dwl (f : Nat → Int) (r : Int) : Nat → Nat → Int
  | 0, _ => -9
  | n + 1, i => if f i = r then (i : Int) else dwl f r n (i + 1)
theorem dwl_s (f : Nat → Int) (r : Int) (n i : Nat) : dwl f r (n + 1) i = if f i = r then (i : Int) else dwl f r n (i + 1) := rfl
theorem dwl_in (f : Nat → Int) (r : Int) : ∀ n i, -9 ≤ dwl f r n i ∧ dwl f r n i < (i + n : Nat) 
  | 0, i => ⟨by show (-9 : Int) ≤ -9; omega, by show (-9 : Int) < _; omega⟩
  | n + 1, i => by
    have ih := dwl_in f r n (i + 1)
    rw [dwl_s]
    split <;> omega
/-- does the book agree: of its first n lines those of t say lack -/
def agr (wh : Nat → Nat) (lk : Nat → Int) (t lack : Int) : Nat → Bool
  | 0 => true
  | n + 1 => agr wh lk t lack n && (decide (¬ ((wh n : Nat) : Int) = t) || decide (lk n = lack))
theorem agr_no {wh : Nat → Nat} {lk : Nat → Int} {t lack : Int} {i : Nat} (hw : ((wh i : Nat) : Int) = t) (hl : ¬ lk i = lack) : ∀ {n : Nat}, i < n → ¬ agr wh lk t lack n = true
  | 0, h => by omega
  | n + 1, h => by
    unfold agr
    by_cases e : i = n
    · subst e
      simp [hw, hl]
    · have := agr_no hw hl (show i < n by omega)
      simp [this]
abbrev rm_X5_dweller : Room := { frames := 0, cells := 0, slots := 0, locals := 0 }
set_option maxHeartbeats 4000000 in
set_option maxRecDepth 100000 in
theorem c_X5_dweller (l : Launch) (D : va_G) (cy : Nat → ClassId) (na : Nat → Nat) (day : Int) (hm : Nat → Int) (tk : Nat → Int) (py : Nat → Int) (db : Nat → Int) (r : Int) (hr0 : inR r) (hNB : NB hm tk py db) : Met l yX5_dweller wsX5_dweller rm_X5_dweller (pR D cy [((na 0), .inr (5, [.int (zI day), .ref (na 1), .ref (na 2), .ref (na 3), .ref (na 4)])), ((na 1), .inl (cy 0, 6, .inl (zA hm))), ((na 2), .inl (cy 0, 6, .inl (zA tk))), ((na 3), .inl (cy 0, 6, .inl (zA py))), ((na 4), .inl (cy 0, 6, .inl (zA db)))] [.ref (na 0), .int (zI r)]) (qR (dwl hm r 6 0)) 0 0 (fun _ => False) := by
  refine met_R (cc := cX5_dweller) (maxL := 3) (ret := (some .int)) RX5 (by decide) rfl rfl (Nat.le_of_ble_eq_true rfl) ?_
  intro p e s m args below meth c ls Q hx hb hr hml hts hown hlocks hQ hP hK hl
  have hl : lv_has ls 3 [(0, .ref (na 0)), (1, .int (zI r))] := hl
  have hinX5 : ∀ w ∈ wsX50, w ∈ wsX5_dweller := (fun w h => List.mem_cons_of_mem _ (List.mem_append_right _ h))
  refine lv_iconst (v := zI 0) hx hb dX5_dweller_0 rfl ?_
  refine lv_istore_n (lv' := [(2, .int (zI 0)), (0, .ref (na 0)), (1, .int (zI r))]) hx hb dX5_dweller_1 rfl hl (by decide) rfl (fun ls hl => ?_)
  have loop2 : ∀ (n9 : Nat) (i : Nat), 6 - i < n9 → (i ≤ 6) → (dwl hm r 6 0 = dwl hm r (6 - i) i) → ∀ (x2_2 : Int), x2_2 = ((i : Nat) : Int) → ∀ ls : Array Slot, lv_has ls 3 [(0, .ref (na 0)), (1, .int (zI r)), (2, .int (zI x2_2))] → W p l e rm_X5_dweller s m args below meth c s.heap [] 0 0 Q (F0 m 2 ls []) := by
    intro n9
    induction n9 with
    | zero => intro i h9; exact absurd h9 (Nat.not_lt_zero _)
    | succ n9 ih2 =>
      intro i hmu2 hi hq x2_2 ex2_2 ls hl
      subst ex2_2
      have hl : lv_has ls 3 [(0, .ref (na 0)), (1, .int (zI r)), (2, .int (zI ((i : Nat) : Int)))] := hl
      refine lv_iload_n hx hb dX5_dweller_2 rfl (lv_at hl 2 rfl) ?_
      refine lv_bipush (v := zI 6) hx hb dX5_dweller_3 (by decide) ?_
      refine z_icmp_ge (tgt := 26) hx hb ⟨by omega, by omega⟩ ⟨by omega, by omega⟩ dX5_dweller_5 (by decide) (fun c1 => ?_) (fun c1 => ?_)
      · have c1 : (6 : Nat) ≤ (i : Nat) := by omega
        refine lv_bipush (v := zI (-9)) hx hb dX5_dweller_26 (by decide) ?_
        exact zr_iret hx hb hr hlocks hQ (by rw [hq, show 6 - i = 0 from by omega]; rfl) dX5_dweller_28
      · have c1 : ¬ ((6 : Nat) ≤ (i : Nat)) := by omega
        refine lv_aload_n hx hb dX5_dweller_8 rfl (lv_at hl 0 rfl) ?_
        refine va_get (D := D) (ci := 5) (v := .ref (na 1)) (C := RX5) (T := TX5) (N := 5) hx hb hts hinX5 hown hK hP 0 rfl rfl 1 (by decide) (hts (.fieldLink RX5 9 "SilentRent$Now" "home" "[I") (List.mem_of_getElem? (i := 1) rfl)) (fun _ h9 => h9) rfl dX5_dweller_9 ?_
        refine lv_iload_n hx hb dX5_dweller_12 rfl (lv_at hl 2 rfl) ?_
        refine z_iald hx hb hK hP 1 0 (f := hm) rfl rfl i rfl (by omega) (by decide) dX5_dweller_13 ?_
        have hb2 := hNB.1 i
        refine lv_iload_n hx hb dX5_dweller_14 rfl (lv_at hl 1 rfl) ?_
        refine z_icmp_ne (tgt := 20) hx hb ⟨by omega, by omega⟩ ⟨by omega, by omega⟩ dX5_dweller_15 (by decide) (fun c3 => ?_) (fun c3 => ?_)
        · refine z_iinc (r := ((i + 1 : Nat) : Int)) (lv' := [(2, .int (zI ((i + 1 : Nat) : Int))), (0, .ref (na 0)), (1, .int (zI r))]) hx hb (by omega) dX5_dweller_20 hl (k := 2) rfl (by decide) rfl (fun ls hl => ?_)
          refine lv_goto (tgt := 2) hx hb dX5_dweller_23 (by decide) ?_
          exact ih2 (i + 1) (by omega) (by omega) (by rw [hq, show 6 - i = (6 - (i + 1)) + 1 from by omega, dwl_s, if_neg (by assumption)]) ((i + 1 : Nat) : Int) (by first | rfl | omega) ls (lv_sub hl [1, 2, 0] rfl)
        · refine lv_iload_n hx hb dX5_dweller_18 rfl (lv_at hl 2 rfl) ?_
          exact zr_iret hx hb hr hlocks hQ (by rw [hq, show 6 - i = (6 - (i + 1)) + 1 from by omega, dwl_s, if_pos (by assumption)]) dX5_dweller_19
  exact loop2 ((6 - 0) + 1) 0 (by omega) (by omega) rfl 0 (by first | rfl | omega | simp) ls (lv_sub hl [1, 2, 0] rfl)
abbrev rm_X5_allDebts : Room := { frames := 0, cells := 0, slots := 0, locals := 0 }
set_option maxHeartbeats 4000000 in
set_option maxRecDepth 100000 in
theorem c_X5_allDebts (l : Launch) (D : va_G) (cy : Nat → ClassId) (na : Nat → Nat) (day : Int) (hm : Nat → Int) (tk : Nat → Int) (py : Nat → Int) (db : Nat → Int) (hNB : NB hm tk py db) : Met l yX5_allDebts wsX5_allDebts rm_X5_allDebts (pR D cy [((na 0), .inr (5, [.int (zI day), .ref (na 1), .ref (na 2), .ref (na 3), .ref (na 4)])), ((na 1), .inl (cy 0, 6, .inl (zA hm))), ((na 2), .inl (cy 0, 6, .inl (zA tk))), ((na 3), .inl (cy 0, 6, .inl (zA py))), ((na 4), .inl (cy 0, 6, .inl (zA db)))] [.ref (na 0)]) (qR (sumI db 6)) 0 0 (fun _ => False) := by
  refine met_R (cc := cX5_allDebts) (maxL := 3) (ret := (some .int)) RX5 (by decide) rfl rfl (Nat.le_of_ble_eq_true rfl) ?_
  intro p e s m args below meth c ls Q hx hb hr hml hts hown hlocks hQ hP hK hl
  have hl : lv_has ls 3 [(0, .ref (na 0))] := hl
  have hinX5 : ∀ w ∈ wsX50, w ∈ wsX5_allDebts := (fun w h => List.mem_cons_of_mem _ (List.mem_append_right _ h))
  refine lv_iconst (v := zI 0) hx hb dX5_allDebts_0 rfl ?_
  refine lv_istore_n (lv' := [(1, .int (zI 0)), (0, .ref (na 0))]) hx hb dX5_allDebts_1 rfl hl (by decide) rfl (fun ls hl => ?_)
  refine lv_iconst (v := zI 0) hx hb dX5_allDebts_2 rfl ?_
  refine lv_istore_n (lv' := [(2, .int (zI 0)), (1, .int (zI 0)), (0, .ref (na 0))]) hx hb dX5_allDebts_3 rfl hl (by decide) rfl (fun ls hl => ?_)
  have loop4 : ∀ (n9 : Nat) (i : Nat), 6 - i < n9 → (i ≤ 6) → ∀ (x4_1 : Int), x4_1 = (sumI db i) → ∀ (x4_2 : Int), x4_2 = ((i : Nat) : Int) → ∀ ls : Array Slot, lv_has ls 3 [(0, .ref (na 0)), (1, .int (zI x4_1)), (2, .int (zI x4_2))] → W p l e rm_X5_allDebts s m args below meth c s.heap [] 0 0 Q (F0 m 4 ls []) := by
    intro n9
    induction n9 with
    | zero => intro i h9; exact absurd h9 (Nat.not_lt_zero _)
    | succ n9 ih4 =>
      intro i hmu4 hi x4_1 ex4_1 x4_2 ex4_2 ls hl
      subst ex4_1
      subst ex4_2
      have hl : lv_has ls 3 [(0, .ref (na 0)), (1, .int (zI (sumI db i))), (2, .int (zI ((i : Nat) : Int)))] := hl
      refine lv_iload_n hx hb dX5_allDebts_4 rfl (lv_at hl 2 rfl) ?_
      refine lv_bipush (v := zI 6) hx hb dX5_allDebts_5 (by decide) ?_
      refine z_icmp_ge (tgt := 25) hx hb ⟨by omega, by omega⟩ ⟨by omega, by omega⟩ dX5_allDebts_7 (by decide) (fun c1 => ?_) (fun c1 => ?_)
      · have c1 : (6 : Nat) ≤ (i : Nat) := by omega
        refine lv_iload_n hx hb dX5_allDebts_25 rfl (lv_at hl 1 rfl) ?_
        exact zr_iret hx hb hr hlocks hQ (by rw [show i = 6 from by omega]) dX5_allDebts_26
      · have c1 : ¬ ((6 : Nat) ≤ (i : Nat)) := by omega
        refine lv_iload_n hx hb dX5_allDebts_10 rfl (lv_at hl 1 rfl) ?_
        refine lv_aload_n hx hb dX5_allDebts_11 rfl (lv_at hl 0 rfl) ?_
        refine va_get (D := D) (ci := 5) (v := .ref (na 4)) (C := RX5) (T := TX5) (N := 5) hx hb hts hinX5 hown hK hP 0 rfl rfl 4 (by decide) (hts (.fieldLink RX5 21 "SilentRent$Now" "debt" "[I") (List.mem_of_getElem? (i := 1) rfl)) (fun _ h9 => h9) rfl dX5_allDebts_12 ?_
        refine lv_iload_n hx hb dX5_allDebts_15 rfl (lv_at hl 2 rfl) ?_
        refine z_iald hx hb hK hP 4 0 (f := db) rfl rfl i rfl (by omega) (by decide) dX5_allDebts_16 ?_
        have hb2 := hNB.2.2.2 i
        refine z_iadd (r := ((sumI db i) + (db i))) hx hb rfl dX5_allDebts_17 ?_
        refine lv_istore_n (lv' := [(1, .int (zI ((sumI db i) + (db i)))), (0, .ref (na 0)), (2, .int (zI ((i : Nat) : Int)))]) hx hb dX5_allDebts_18 rfl hl (by decide) rfl (fun ls hl => ?_)
        refine z_iinc (r := ((i + 1 : Nat) : Int)) (lv' := [(2, .int (zI ((i + 1 : Nat) : Int))), (1, .int (zI ((sumI db i) + (db i)))), (0, .ref (na 0))]) hx hb (by omega) dX5_allDebts_19 hl (k := 2) rfl (by decide) rfl (fun ls hl => ?_)
        refine lv_goto (tgt := 4) hx hb dX5_allDebts_22 (by decide) ?_
        exact ih4 (i + 1) (by omega) (by omega) ((sumI db i) + (db i)) rfl ((i + 1 : Nat) : Int) (by first | rfl | omega) ls (lv_sub hl [2, 1, 0] rfl)
  exact loop4 ((6 - 0) + 1) 0 (by omega) (by omega) 0 (by first | rfl | omega | simp) 0 (by first | rfl | omega | simp) ls (lv_sub hl [2, 1, 0] rfl)
abbrev rm_X5_begin : Room := { frames := 1, cells := 0, slots := 0, locals := 23 }
set_option maxHeartbeats 4000000 in
set_option maxRecDepth 100000 in
theorem c_X5_begin (l : Launch) (D : va_G) (cy : Nat → ClassId) (na : Nat → Nat) (day : Int) (hm : Nat → Int) (tk : Nat → Int) (py : Nat → Int) (db : Nat → Int)  : Met l yX5_begin wsX5_begin rm_X5_begin (pM D cy [((na 0), .inr (5, [.int (zI day), .ref (na 1), .ref (na 2), .ref (na 3), .ref (na 4)])), ((na 1), .inl (cy 0, 6, .inl (zA hm))), ((na 2), .inl (cy 0, 6, .inl (zA tk))), ((na 3), .inl (cy 0, 6, .inl (zA py))), ((na 4), .inl (cy 0, 6, .inl (zA db)))] [.ref (na 0)]) (qM D none [((na 0), .inr (5, [.int (zI day), .ref (na 1), .ref (na 2), .ref (na 3), .ref (na 4)])), ((na 1), .inl (cy 0, 6, .inl (zA hm))), ((na 2), .inl (cy 0, 6, .inl (zA tk))), ((na 3), .inl (cy 0, 6, .inl (zA py))), ((na 4), .inl (cy 0, 6, .inl (zA db)))] [((na 0), .inr (5, [.int (zI 0), .ref (na 1), .ref (na 2), .ref (na 3), .ref (na 4)])), ((na 1), .inl (cy 0, 6, .inl (zA (fun _ => (-9))))), ((na 2), .inl (cy 0, 6, .inl (zA (fun _ => 0)))), ((na 3), .inl (cy 0, 6, .inl (zA (fun _ => 0)))), ((na 4), .inl (cy 0, 6, .inl (zA (fun _ => 0))))]) 0 0 (inW [((na 0), .inr (5, [.int (zI day), .ref (na 1), .ref (na 2), .ref (na 3), .ref (na 4)])), ((na 1), .inl (cy 0, 6, .inl (zA hm))), ((na 2), .inl (cy 0, 6, .inl (zA tk))), ((na 3), .inl (cy 0, 6, .inl (zA py))), ((na 4), .inl (cy 0, 6, .inl (zA db)))]) := by
  refine met_M (cc := cX5_begin) (maxL := 1) (ret := none) RX5 (by decide) rfl rfl (Nat.le_of_ble_eq_true rfl) ?_
  intro p e s m args below meth c ls Q A0 hx hb hr hml hts hown hlocks hQ hA0 hP hK hD hS hl
  have hl : lv_has ls 1 [(0, .ref (na 0))] := hl
  have hP : va_P D vwCl [((na 0), .inr (5, [.int (zI day), .ref (na 1), .ref (na 2), .ref (na 3), .ref (na 4)])), ((na 1), .inl (cy 0, 6, .inl (zA hm))), ((na 2), .inl (cy 0, 6, .inl (zA tk))), ((na 3), .inl (cy 0, 6, .inl (zA py))), ((na 4), .inl (cy 0, 6, .inl (zA db)))] s.heap := hP
  have hinX5 : ∀ w ∈ wsX50, w ∈ wsX5_begin := (fun w h => List.mem_cons_of_mem _ (List.mem_append_right _ h))
  refine lv_aload_n hx hb dX5_begin_0 rfl (lv_at hl 0 rfl) ?_
  refine lv_iconst (v := zI 0) hx hb dX5_begin_1 rfl ?_
  refine va_put (D := D) (ci := 5) (v := .int (zI 0)) (ty := .int) (C := RX5) (T := TX5) (N := 5) hx hb hts hinX5 tyX5 tyX5_ok nmX5 hown hK hP hD hS 0 rfl rfl 0 (by decide) (hts (.fieldLink RX5 30 "SilentRent$Now" "day" "I") (List.mem_of_getElem? (i := 1) rfl)) (fun _ h9 => h9) rfl (by decide +kernel) rfl rfl (Nat.le_of_ble_eq_true rfl) dX5_begin_2 (fun H locs hP hD hS => ?_)
  have hP : va_P D vwCl [((na 0), .inr (5, [.int (zI 0), .ref (na 1), .ref (na 2), .ref (na 3), .ref (na 4)])), ((na 1), .inl (cy 0, 6, .inl (zA hm))), ((na 2), .inl (cy 0, 6, .inl (zA tk))), ((na 3), .inl (cy 0, 6, .inl (zA py))), ((na 4), .inl (cy 0, 6, .inl (zA db)))] H := hP
  have hD : va_D A0 [((na 0), .inr (5, [.int (zI 0), .ref (na 1), .ref (na 2), .ref (na 3), .ref (na 4)])), ((na 1), .inl (cy 0, 6, .inl (zA hm))), ((na 2), .inl (cy 0, 6, .inl (zA tk))), ((na 3), .inl (cy 0, 6, .inl (zA py))), ((na 4), .inl (cy 0, 6, .inl (zA db)))] := hD
  refine lv_aload_n hx hb dX5_begin_5 rfl (lv_at hl 0 rfl) ?_
  refine va_get (D := D) (ci := 5) (v := .ref (na 1)) (C := RX5) (T := TX5) (N := 5) hx hb hts hinX5 hown hK hP 0 rfl rfl 1 (by decide) (hts (.fieldLink RX5 9 "SilentRent$Now" "home" "[I") (List.mem_of_getElem? (i := 2) rfl)) (fun _ h9 => h9) rfl dX5_begin_6 ?_
  refine lv_bipush (v := zI (-9)) hx hb dX5_begin_9 (by decide) ?_
  refine zm_fillat (rest := []) (a := (na 1)) (n := 6) (f := hm) (v := (-9)) ⟨hx, hb, hml, hown, hts⟩ (by decide) (va_cwS 2 hts gX5_begin_J7_fill_53178 rfl rfl rfl (by decide +kernel) ⟨Nat.le_of_ble_eq_true rfl, Nat.le_of_ble_eq_true rfl⟩) hK hP hD hS 1 rfl hl.1 (Nat.le_of_ble_eq_true rfl) dX5_begin_11 ⟨Nat.zero_le _, Nat.zero_le _⟩ (fun H locs hP hD hS => ?_)
  have hP : va_P D vwCl [((na 0), .inr (5, [.int (zI 0), .ref (na 1), .ref (na 2), .ref (na 3), .ref (na 4)])), ((na 1), .inl (cy 0, 6, .inl (zA (fun _ => (-9))))), ((na 2), .inl (cy 0, 6, .inl (zA tk))), ((na 3), .inl (cy 0, 6, .inl (zA py))), ((na 4), .inl (cy 0, 6, .inl (zA db)))] H := hP
  have hD : va_D A0 [((na 0), .inr (5, [.int (zI 0), .ref (na 1), .ref (na 2), .ref (na 3), .ref (na 4)])), ((na 1), .inl (cy 0, 6, .inl (zA (fun _ => (-9))))), ((na 2), .inl (cy 0, 6, .inl (zA tk))), ((na 3), .inl (cy 0, 6, .inl (zA py))), ((na 4), .inl (cy 0, 6, .inl (zA db)))] := hD
  refine lv_aload_n hx hb dX5_begin_14 rfl (lv_at hl 0 rfl) ?_
  refine va_get (D := D) (ci := 5) (v := .ref (na 2)) (C := RX5) (T := TX5) (N := 5) hx hb hts hinX5 hown hK hP 0 rfl rfl 2 (by decide) (hts (.fieldLink RX5 15 "SilentRent$Now" "talked" "[I") (List.mem_of_getElem? (i := 3) rfl)) (fun _ h9 => h9) rfl dX5_begin_15 ?_
  refine lv_iconst (v := zI 0) hx hb dX5_begin_18 rfl ?_
  refine zm_fillat (rest := []) (a := (na 2)) (n := 6) (f := tk) (v := 0) ⟨hx, hb, hml, hown, hts⟩ (by decide) (va_cwS 2 hts gX5_begin_J7_fill_53178 rfl rfl rfl (by decide +kernel) ⟨Nat.le_of_ble_eq_true rfl, Nat.le_of_ble_eq_true rfl⟩) hK hP hD hS 2 rfl hl.1 (Nat.le_of_ble_eq_true rfl) dX5_begin_19 ⟨Nat.zero_le _, Nat.zero_le _⟩ (fun H locs hP hD hS => ?_)
  have hP : va_P D vwCl [((na 0), .inr (5, [.int (zI 0), .ref (na 1), .ref (na 2), .ref (na 3), .ref (na 4)])), ((na 1), .inl (cy 0, 6, .inl (zA (fun _ => (-9))))), ((na 2), .inl (cy 0, 6, .inl (zA (fun _ => 0)))), ((na 3), .inl (cy 0, 6, .inl (zA py))), ((na 4), .inl (cy 0, 6, .inl (zA db)))] H := hP
  have hD : va_D A0 [((na 0), .inr (5, [.int (zI 0), .ref (na 1), .ref (na 2), .ref (na 3), .ref (na 4)])), ((na 1), .inl (cy 0, 6, .inl (zA (fun _ => (-9))))), ((na 2), .inl (cy 0, 6, .inl (zA (fun _ => 0)))), ((na 3), .inl (cy 0, 6, .inl (zA py))), ((na 4), .inl (cy 0, 6, .inl (zA db)))] := hD
  refine lv_aload_n hx hb dX5_begin_22 rfl (lv_at hl 0 rfl) ?_
  refine va_get (D := D) (ci := 5) (v := .ref (na 3)) (C := RX5) (T := TX5) (N := 5) hx hb hts hinX5 hown hK hP 0 rfl rfl 3 (by decide) (hts (.fieldLink RX5 18 "SilentRent$Now" "pays" "[I") (List.mem_of_getElem? (i := 4) rfl)) (fun _ h9 => h9) rfl dX5_begin_23 ?_
  refine lv_iconst (v := zI 0) hx hb dX5_begin_26 rfl ?_
  refine zm_fillat (rest := []) (a := (na 3)) (n := 6) (f := py) (v := 0) ⟨hx, hb, hml, hown, hts⟩ (by decide) (va_cwS 2 hts gX5_begin_J7_fill_53178 rfl rfl rfl (by decide +kernel) ⟨Nat.le_of_ble_eq_true rfl, Nat.le_of_ble_eq_true rfl⟩) hK hP hD hS 3 rfl hl.1 (Nat.le_of_ble_eq_true rfl) dX5_begin_27 ⟨Nat.zero_le _, Nat.zero_le _⟩ (fun H locs hP hD hS => ?_)
  have hP : va_P D vwCl [((na 0), .inr (5, [.int (zI 0), .ref (na 1), .ref (na 2), .ref (na 3), .ref (na 4)])), ((na 1), .inl (cy 0, 6, .inl (zA (fun _ => (-9))))), ((na 2), .inl (cy 0, 6, .inl (zA (fun _ => 0)))), ((na 3), .inl (cy 0, 6, .inl (zA (fun _ => 0)))), ((na 4), .inl (cy 0, 6, .inl (zA db)))] H := hP
  have hD : va_D A0 [((na 0), .inr (5, [.int (zI 0), .ref (na 1), .ref (na 2), .ref (na 3), .ref (na 4)])), ((na 1), .inl (cy 0, 6, .inl (zA (fun _ => (-9))))), ((na 2), .inl (cy 0, 6, .inl (zA (fun _ => 0)))), ((na 3), .inl (cy 0, 6, .inl (zA (fun _ => 0)))), ((na 4), .inl (cy 0, 6, .inl (zA db)))] := hD
  refine lv_aload_n hx hb dX5_begin_30 rfl (lv_at hl 0 rfl) ?_
  refine va_get (D := D) (ci := 5) (v := .ref (na 4)) (C := RX5) (T := TX5) (N := 5) hx hb hts hinX5 hown hK hP 0 rfl rfl 4 (by decide) (hts (.fieldLink RX5 21 "SilentRent$Now" "debt" "[I") (List.mem_of_getElem? (i := 5) rfl)) (fun _ h9 => h9) rfl dX5_begin_31 ?_
  refine lv_iconst (v := zI 0) hx hb dX5_begin_34 rfl ?_
  refine zm_fillat (rest := []) (a := (na 4)) (n := 6) (f := db) (v := 0) ⟨hx, hb, hml, hown, hts⟩ (by decide) (va_cwS 2 hts gX5_begin_J7_fill_53178 rfl rfl rfl (by decide +kernel) ⟨Nat.le_of_ble_eq_true rfl, Nat.le_of_ble_eq_true rfl⟩) hK hP hD hS 4 rfl hl.1 (Nat.le_of_ble_eq_true rfl) dX5_begin_35 ⟨Nat.zero_le _, Nat.zero_le _⟩ (fun H locs hP hD hS => ?_)
  have hP : va_P D vwCl [((na 0), .inr (5, [.int (zI 0), .ref (na 1), .ref (na 2), .ref (na 3), .ref (na 4)])), ((na 1), .inl (cy 0, 6, .inl (zA (fun _ => (-9))))), ((na 2), .inl (cy 0, 6, .inl (zA (fun _ => 0)))), ((na 3), .inl (cy 0, 6, .inl (zA (fun _ => 0)))), ((na 4), .inl (cy 0, 6, .inl (zA (fun _ => 0))))] H := hP
  have hD : va_D A0 [((na 0), .inr (5, [.int (zI 0), .ref (na 1), .ref (na 2), .ref (na 3), .ref (na 4)])), ((na 1), .inl (cy 0, 6, .inl (zA (fun _ => (-9))))), ((na 2), .inl (cy 0, 6, .inl (zA (fun _ => 0)))), ((na 3), .inl (cy 0, 6, .inl (zA (fun _ => 0)))), ((na 4), .inl (cy 0, 6, .inl (zA (fun _ => 0))))] := hD
  have hw1 : (0 : Int) = 0 := by rfl
  have hP : va_P D vwCl [((na 0), .inr (5, [.int (zI 0), .ref (na 1), .ref (na 2), .ref (na 3), .ref (na 4)])), ((na 1), .inl (cy 0, 6, .inl (zA (fun _ => (-9))))), ((na 2), .inl (cy 0, 6, .inl (zA (fun _ => 0)))), ((na 3), .inl (cy 0, 6, .inl (zA (fun _ => 0)))), ((na 4), .inl (cy 0, 6, .inl (zA (fun _ => 0))))] H := by rw [← hw1]; exact hP
  exact zm_vret hx hb hr hlocks hQ hA0 hP hS dX5_begin_38
abbrev rm_X5_copyFrom : Room := { frames := 1, cells := 0, slots := 0, locals := 40 }
set_option maxHeartbeats 4000000 in
set_option maxRecDepth 100000 in
theorem c_X5_copyFrom (l : Launch) (D : va_G) (cy : Nat → ClassId) (na : Nat → Nat) (day : Int) (hm : Nat → Int) (tk : Nat → Int) (py : Nat → Int) (db : Nat → Int) (na2 : Nat → Nat) (day2 : Int) (hm2 : Nat → Int) (tk2 : Nat → Int) (py2 : Nat → Int) (db2 : Nat → Int)  : Met l yX5_copyFrom wsX5_copyFrom rm_X5_copyFrom (pM D cy [((na 0), .inr (5, [.int (zI day), .ref (na 1), .ref (na 2), .ref (na 3), .ref (na 4)])), ((na 1), .inl (cy 0, 6, .inl (zA hm))), ((na 2), .inl (cy 0, 6, .inl (zA tk))), ((na 3), .inl (cy 0, 6, .inl (zA py))), ((na 4), .inl (cy 0, 6, .inl (zA db))), ((na2 0), .inr (5, [.int (zI day2), .ref (na2 1), .ref (na2 2), .ref (na2 3), .ref (na2 4)])), ((na2 1), .inl (cy 0, 6, .inl (zA hm2))), ((na2 2), .inl (cy 0, 6, .inl (zA tk2))), ((na2 3), .inl (cy 0, 6, .inl (zA py2))), ((na2 4), .inl (cy 0, 6, .inl (zA db2)))] [.ref (na 0), .ref (na2 0)]) (qM D none [((na 0), .inr (5, [.int (zI day), .ref (na 1), .ref (na 2), .ref (na 3), .ref (na 4)])), ((na 1), .inl (cy 0, 6, .inl (zA hm))), ((na 2), .inl (cy 0, 6, .inl (zA tk))), ((na 3), .inl (cy 0, 6, .inl (zA py))), ((na 4), .inl (cy 0, 6, .inl (zA db))), ((na2 0), .inr (5, [.int (zI day2), .ref (na2 1), .ref (na2 2), .ref (na2 3), .ref (na2 4)])), ((na2 1), .inl (cy 0, 6, .inl (zA hm2))), ((na2 2), .inl (cy 0, 6, .inl (zA tk2))), ((na2 3), .inl (cy 0, 6, .inl (zA py2))), ((na2 4), .inl (cy 0, 6, .inl (zA db2)))] [((na 0), .inr (5, [.int (zI day2), .ref (na 1), .ref (na 2), .ref (na 3), .ref (na 4)])), ((na 1), .inl (cy 0, 6, .inl (zA hm2))), ((na 2), .inl (cy 0, 6, .inl (zA tk2))), ((na 3), .inl (cy 0, 6, .inl (zA py2))), ((na 4), .inl (cy 0, 6, .inl (zA db2))), ((na2 0), .inr (5, [.int (zI day2), .ref (na2 1), .ref (na2 2), .ref (na2 3), .ref (na2 4)])), ((na2 1), .inl (cy 0, 6, .inl (zA hm2))), ((na2 2), .inl (cy 0, 6, .inl (zA tk2))), ((na2 3), .inl (cy 0, 6, .inl (zA py2))), ((na2 4), .inl (cy 0, 6, .inl (zA db2)))]) 0 0 (inW [((na 0), .inr (5, [.int (zI day), .ref (na 1), .ref (na 2), .ref (na 3), .ref (na 4)])), ((na 1), .inl (cy 0, 6, .inl (zA hm))), ((na 2), .inl (cy 0, 6, .inl (zA tk))), ((na 3), .inl (cy 0, 6, .inl (zA py))), ((na 4), .inl (cy 0, 6, .inl (zA db))), ((na2 0), .inr (5, [.int (zI day2), .ref (na2 1), .ref (na2 2), .ref (na2 3), .ref (na2 4)])), ((na2 1), .inl (cy 0, 6, .inl (zA hm2))), ((na2 2), .inl (cy 0, 6, .inl (zA tk2))), ((na2 3), .inl (cy 0, 6, .inl (zA py2))), ((na2 4), .inl (cy 0, 6, .inl (zA db2)))]) := by
  refine met_M (cc := cX5_copyFrom) (maxL := 2) (ret := none) RX5 (by decide) rfl rfl (Nat.le_of_ble_eq_true rfl) ?_
  intro p e s m args below meth c ls Q A0 hx hb hr hml hts hown hlocks hQ hA0 hP hK hD hS hl
  have hl : lv_has ls 2 [(0, .ref (na 0)), (1, .ref (na2 0))] := hl
  have hP : va_P D vwCl [((na 0), .inr (5, [.int (zI day), .ref (na 1), .ref (na 2), .ref (na 3), .ref (na 4)])), ((na 1), .inl (cy 0, 6, .inl (zA hm))), ((na 2), .inl (cy 0, 6, .inl (zA tk))), ((na 3), .inl (cy 0, 6, .inl (zA py))), ((na 4), .inl (cy 0, 6, .inl (zA db))), ((na2 0), .inr (5, [.int (zI day2), .ref (na2 1), .ref (na2 2), .ref (na2 3), .ref (na2 4)])), ((na2 1), .inl (cy 0, 6, .inl (zA hm2))), ((na2 2), .inl (cy 0, 6, .inl (zA tk2))), ((na2 3), .inl (cy 0, 6, .inl (zA py2))), ((na2 4), .inl (cy 0, 6, .inl (zA db2)))] s.heap := hP
  have hinX5 : ∀ w ∈ wsX50, w ∈ wsX5_copyFrom := (fun w h => List.mem_cons_of_mem _ (List.mem_append_right _ h))
  refine lv_aload_n hx hb dX5_copyFrom_0 rfl (lv_at hl 0 rfl) ?_
  refine lv_aload_n hx hb dX5_copyFrom_1 rfl (lv_at hl 1 rfl) ?_
  refine va_get (D := D) (ci := 5) (v := .int (zI day2)) (C := RX5) (T := TX5) (N := 5) hx hb hts hinX5 hown hK hP 5 rfl rfl 0 (by decide) (hts (.fieldLink RX5 30 "SilentRent$Now" "day" "I") (List.mem_of_getElem? (i := 1) rfl)) (fun _ h9 => h9) rfl dX5_copyFrom_2 ?_
  refine va_put (D := D) (ci := 5) (v := .int (zI day2)) (ty := .int) (C := RX5) (T := TX5) (N := 5) hx hb hts hinX5 tyX5 tyX5_ok nmX5 hown hK hP hD hS 0 rfl rfl 0 (by decide) (hts (.fieldLink RX5 30 "SilentRent$Now" "day" "I") (List.mem_of_getElem? (i := 1) rfl)) (fun _ h9 => h9) rfl (by decide +kernel) rfl rfl (Nat.le_of_ble_eq_true rfl) dX5_copyFrom_5 (fun H locs hP hD hS => ?_)
  have hP : va_P D vwCl [((na 0), .inr (5, [.int (zI day2), .ref (na 1), .ref (na 2), .ref (na 3), .ref (na 4)])), ((na 1), .inl (cy 0, 6, .inl (zA hm))), ((na 2), .inl (cy 0, 6, .inl (zA tk))), ((na 3), .inl (cy 0, 6, .inl (zA py))), ((na 4), .inl (cy 0, 6, .inl (zA db))), ((na2 0), .inr (5, [.int (zI day2), .ref (na2 1), .ref (na2 2), .ref (na2 3), .ref (na2 4)])), ((na2 1), .inl (cy 0, 6, .inl (zA hm2))), ((na2 2), .inl (cy 0, 6, .inl (zA tk2))), ((na2 3), .inl (cy 0, 6, .inl (zA py2))), ((na2 4), .inl (cy 0, 6, .inl (zA db2)))] H := hP
  have hD : va_D A0 [((na 0), .inr (5, [.int (zI day2), .ref (na 1), .ref (na 2), .ref (na 3), .ref (na 4)])), ((na 1), .inl (cy 0, 6, .inl (zA hm))), ((na 2), .inl (cy 0, 6, .inl (zA tk))), ((na 3), .inl (cy 0, 6, .inl (zA py))), ((na 4), .inl (cy 0, 6, .inl (zA db))), ((na2 0), .inr (5, [.int (zI day2), .ref (na2 1), .ref (na2 2), .ref (na2 3), .ref (na2 4)])), ((na2 1), .inl (cy 0, 6, .inl (zA hm2))), ((na2 2), .inl (cy 0, 6, .inl (zA tk2))), ((na2 3), .inl (cy 0, 6, .inl (zA py2))), ((na2 4), .inl (cy 0, 6, .inl (zA db2)))] := hD
  refine lv_aload_n hx hb dX5_copyFrom_8 rfl (lv_at hl 1 rfl) ?_
  refine va_get (D := D) (ci := 5) (v := .ref (na2 1)) (C := RX5) (T := TX5) (N := 5) hx hb hts hinX5 hown hK hP 5 rfl rfl 1 (by decide) (hts (.fieldLink RX5 9 "SilentRent$Now" "home" "[I") (List.mem_of_getElem? (i := 2) rfl)) (fun _ h9 => h9) rfl dX5_copyFrom_9 ?_
  refine lv_iconst (v := zI 0) hx hb dX5_copyFrom_12 rfl ?_
  refine lv_aload_n hx hb dX5_copyFrom_13 rfl (lv_at hl 0 rfl) ?_
  refine va_get (D := D) (ci := 5) (v := .ref (na 1)) (C := RX5) (T := TX5) (N := 5) hx hb hts hinX5 hown hK hP 0 rfl rfl 1 (by decide) (hts (.fieldLink RX5 9 "SilentRent$Now" "home" "[I") (List.mem_of_getElem? (i := 2) rfl)) (fun _ h9 => h9) rfl dX5_copyFrom_14 ?_
  refine lv_iconst (v := zI 0) hx hb dX5_copyFrom_17 rfl ?_
  refine lv_bipush (v := zI 6) hx hb dX5_copyFrom_18 (by decide) ?_
  refine z_copy6 hx hb (by rw [hml]; exact hl.1.symm) hown (hts (.methodLink RX5 34 arraycopyName) (List.mem_of_getElem? (i := 3) rfl)) (hts (.native arraycopyName) (List.mem_of_getElem? (i := 4) rfl)) (hts (.static arraycopyName) (List.mem_of_getElem? (i := 5) rfl)) (hts (.initialized "java/lang/System") (List.mem_of_getElem? (i := 6) rfl)) hK hP hD hS 6 1 0 (f := hm2) (g := hm) rfl rfl rfl (Nat.le_of_ble_eq_true rfl) (Nat.le_of_ble_eq_true rfl) dX5_copyFrom_20 (fun H locs hP hD hS => ?_)
  have hP : va_P D vwCl [((na 0), .inr (5, [.int (zI day2), .ref (na 1), .ref (na 2), .ref (na 3), .ref (na 4)])), ((na 1), .inl (cy 0, 6, .inl (zA hm2))), ((na 2), .inl (cy 0, 6, .inl (zA tk))), ((na 3), .inl (cy 0, 6, .inl (zA py))), ((na 4), .inl (cy 0, 6, .inl (zA db))), ((na2 0), .inr (5, [.int (zI day2), .ref (na2 1), .ref (na2 2), .ref (na2 3), .ref (na2 4)])), ((na2 1), .inl (cy 0, 6, .inl (zA hm2))), ((na2 2), .inl (cy 0, 6, .inl (zA tk2))), ((na2 3), .inl (cy 0, 6, .inl (zA py2))), ((na2 4), .inl (cy 0, 6, .inl (zA db2)))] H := hP
  have hD : va_D A0 [((na 0), .inr (5, [.int (zI day2), .ref (na 1), .ref (na 2), .ref (na 3), .ref (na 4)])), ((na 1), .inl (cy 0, 6, .inl (zA hm2))), ((na 2), .inl (cy 0, 6, .inl (zA tk))), ((na 3), .inl (cy 0, 6, .inl (zA py))), ((na 4), .inl (cy 0, 6, .inl (zA db))), ((na2 0), .inr (5, [.int (zI day2), .ref (na2 1), .ref (na2 2), .ref (na2 3), .ref (na2 4)])), ((na2 1), .inl (cy 0, 6, .inl (zA hm2))), ((na2 2), .inl (cy 0, 6, .inl (zA tk2))), ((na2 3), .inl (cy 0, 6, .inl (zA py2))), ((na2 4), .inl (cy 0, 6, .inl (zA db2)))] := hD
  refine lv_aload_n hx hb dX5_copyFrom_23 rfl (lv_at hl 1 rfl) ?_
  refine va_get (D := D) (ci := 5) (v := .ref (na2 2)) (C := RX5) (T := TX5) (N := 5) hx hb hts hinX5 hown hK hP 5 rfl rfl 2 (by decide) (hts (.fieldLink RX5 15 "SilentRent$Now" "talked" "[I") (List.mem_of_getElem? (i := 7) rfl)) (fun _ h9 => h9) rfl dX5_copyFrom_24 ?_
  refine lv_iconst (v := zI 0) hx hb dX5_copyFrom_27 rfl ?_
  refine lv_aload_n hx hb dX5_copyFrom_28 rfl (lv_at hl 0 rfl) ?_
  refine va_get (D := D) (ci := 5) (v := .ref (na 2)) (C := RX5) (T := TX5) (N := 5) hx hb hts hinX5 hown hK hP 0 rfl rfl 2 (by decide) (hts (.fieldLink RX5 15 "SilentRent$Now" "talked" "[I") (List.mem_of_getElem? (i := 7) rfl)) (fun _ h9 => h9) rfl dX5_copyFrom_29 ?_
  refine lv_iconst (v := zI 0) hx hb dX5_copyFrom_32 rfl ?_
  refine lv_bipush (v := zI 6) hx hb dX5_copyFrom_33 (by decide) ?_
  refine z_copy6 hx hb (by rw [hml]; exact hl.1.symm) hown (hts (.methodLink RX5 34 arraycopyName) (List.mem_of_getElem? (i := 3) rfl)) (hts (.native arraycopyName) (List.mem_of_getElem? (i := 4) rfl)) (hts (.static arraycopyName) (List.mem_of_getElem? (i := 5) rfl)) (hts (.initialized "java/lang/System") (List.mem_of_getElem? (i := 6) rfl)) hK hP hD hS 7 2 0 (f := tk2) (g := tk) rfl rfl rfl (Nat.le_of_ble_eq_true rfl) (Nat.le_of_ble_eq_true rfl) dX5_copyFrom_35 (fun H locs hP hD hS => ?_)
  have hP : va_P D vwCl [((na 0), .inr (5, [.int (zI day2), .ref (na 1), .ref (na 2), .ref (na 3), .ref (na 4)])), ((na 1), .inl (cy 0, 6, .inl (zA hm2))), ((na 2), .inl (cy 0, 6, .inl (zA tk2))), ((na 3), .inl (cy 0, 6, .inl (zA py))), ((na 4), .inl (cy 0, 6, .inl (zA db))), ((na2 0), .inr (5, [.int (zI day2), .ref (na2 1), .ref (na2 2), .ref (na2 3), .ref (na2 4)])), ((na2 1), .inl (cy 0, 6, .inl (zA hm2))), ((na2 2), .inl (cy 0, 6, .inl (zA tk2))), ((na2 3), .inl (cy 0, 6, .inl (zA py2))), ((na2 4), .inl (cy 0, 6, .inl (zA db2)))] H := hP
  have hD : va_D A0 [((na 0), .inr (5, [.int (zI day2), .ref (na 1), .ref (na 2), .ref (na 3), .ref (na 4)])), ((na 1), .inl (cy 0, 6, .inl (zA hm2))), ((na 2), .inl (cy 0, 6, .inl (zA tk2))), ((na 3), .inl (cy 0, 6, .inl (zA py))), ((na 4), .inl (cy 0, 6, .inl (zA db))), ((na2 0), .inr (5, [.int (zI day2), .ref (na2 1), .ref (na2 2), .ref (na2 3), .ref (na2 4)])), ((na2 1), .inl (cy 0, 6, .inl (zA hm2))), ((na2 2), .inl (cy 0, 6, .inl (zA tk2))), ((na2 3), .inl (cy 0, 6, .inl (zA py2))), ((na2 4), .inl (cy 0, 6, .inl (zA db2)))] := hD
  refine lv_aload_n hx hb dX5_copyFrom_38 rfl (lv_at hl 1 rfl) ?_
  refine va_get (D := D) (ci := 5) (v := .ref (na2 3)) (C := RX5) (T := TX5) (N := 5) hx hb hts hinX5 hown hK hP 5 rfl rfl 3 (by decide) (hts (.fieldLink RX5 18 "SilentRent$Now" "pays" "[I") (List.mem_of_getElem? (i := 8) rfl)) (fun _ h9 => h9) rfl dX5_copyFrom_39 ?_
  refine lv_iconst (v := zI 0) hx hb dX5_copyFrom_42 rfl ?_
  refine lv_aload_n hx hb dX5_copyFrom_43 rfl (lv_at hl 0 rfl) ?_
  refine va_get (D := D) (ci := 5) (v := .ref (na 3)) (C := RX5) (T := TX5) (N := 5) hx hb hts hinX5 hown hK hP 0 rfl rfl 3 (by decide) (hts (.fieldLink RX5 18 "SilentRent$Now" "pays" "[I") (List.mem_of_getElem? (i := 8) rfl)) (fun _ h9 => h9) rfl dX5_copyFrom_44 ?_
  refine lv_iconst (v := zI 0) hx hb dX5_copyFrom_47 rfl ?_
  refine lv_bipush (v := zI 6) hx hb dX5_copyFrom_48 (by decide) ?_
  refine z_copy6 hx hb (by rw [hml]; exact hl.1.symm) hown (hts (.methodLink RX5 34 arraycopyName) (List.mem_of_getElem? (i := 3) rfl)) (hts (.native arraycopyName) (List.mem_of_getElem? (i := 4) rfl)) (hts (.static arraycopyName) (List.mem_of_getElem? (i := 5) rfl)) (hts (.initialized "java/lang/System") (List.mem_of_getElem? (i := 6) rfl)) hK hP hD hS 8 3 0 (f := py2) (g := py) rfl rfl rfl (Nat.le_of_ble_eq_true rfl) (Nat.le_of_ble_eq_true rfl) dX5_copyFrom_50 (fun H locs hP hD hS => ?_)
  have hP : va_P D vwCl [((na 0), .inr (5, [.int (zI day2), .ref (na 1), .ref (na 2), .ref (na 3), .ref (na 4)])), ((na 1), .inl (cy 0, 6, .inl (zA hm2))), ((na 2), .inl (cy 0, 6, .inl (zA tk2))), ((na 3), .inl (cy 0, 6, .inl (zA py2))), ((na 4), .inl (cy 0, 6, .inl (zA db))), ((na2 0), .inr (5, [.int (zI day2), .ref (na2 1), .ref (na2 2), .ref (na2 3), .ref (na2 4)])), ((na2 1), .inl (cy 0, 6, .inl (zA hm2))), ((na2 2), .inl (cy 0, 6, .inl (zA tk2))), ((na2 3), .inl (cy 0, 6, .inl (zA py2))), ((na2 4), .inl (cy 0, 6, .inl (zA db2)))] H := hP
  have hD : va_D A0 [((na 0), .inr (5, [.int (zI day2), .ref (na 1), .ref (na 2), .ref (na 3), .ref (na 4)])), ((na 1), .inl (cy 0, 6, .inl (zA hm2))), ((na 2), .inl (cy 0, 6, .inl (zA tk2))), ((na 3), .inl (cy 0, 6, .inl (zA py2))), ((na 4), .inl (cy 0, 6, .inl (zA db))), ((na2 0), .inr (5, [.int (zI day2), .ref (na2 1), .ref (na2 2), .ref (na2 3), .ref (na2 4)])), ((na2 1), .inl (cy 0, 6, .inl (zA hm2))), ((na2 2), .inl (cy 0, 6, .inl (zA tk2))), ((na2 3), .inl (cy 0, 6, .inl (zA py2))), ((na2 4), .inl (cy 0, 6, .inl (zA db2)))] := hD
  refine lv_aload_n hx hb dX5_copyFrom_53 rfl (lv_at hl 1 rfl) ?_
  refine va_get (D := D) (ci := 5) (v := .ref (na2 4)) (C := RX5) (T := TX5) (N := 5) hx hb hts hinX5 hown hK hP 5 rfl rfl 4 (by decide) (hts (.fieldLink RX5 21 "SilentRent$Now" "debt" "[I") (List.mem_of_getElem? (i := 9) rfl)) (fun _ h9 => h9) rfl dX5_copyFrom_54 ?_
  refine lv_iconst (v := zI 0) hx hb dX5_copyFrom_57 rfl ?_
  refine lv_aload_n hx hb dX5_copyFrom_58 rfl (lv_at hl 0 rfl) ?_
  refine va_get (D := D) (ci := 5) (v := .ref (na 4)) (C := RX5) (T := TX5) (N := 5) hx hb hts hinX5 hown hK hP 0 rfl rfl 4 (by decide) (hts (.fieldLink RX5 21 "SilentRent$Now" "debt" "[I") (List.mem_of_getElem? (i := 9) rfl)) (fun _ h9 => h9) rfl dX5_copyFrom_59 ?_
  refine lv_iconst (v := zI 0) hx hb dX5_copyFrom_62 rfl ?_
  refine lv_bipush (v := zI 6) hx hb dX5_copyFrom_63 (by decide) ?_
  refine z_copy6 hx hb (by rw [hml]; exact hl.1.symm) hown (hts (.methodLink RX5 34 arraycopyName) (List.mem_of_getElem? (i := 3) rfl)) (hts (.native arraycopyName) (List.mem_of_getElem? (i := 4) rfl)) (hts (.static arraycopyName) (List.mem_of_getElem? (i := 5) rfl)) (hts (.initialized "java/lang/System") (List.mem_of_getElem? (i := 6) rfl)) hK hP hD hS 9 4 0 (f := db2) (g := db) rfl rfl rfl (Nat.le_of_ble_eq_true rfl) (Nat.le_of_ble_eq_true rfl) dX5_copyFrom_65 (fun H locs hP hD hS => ?_)
  have hP : va_P D vwCl [((na 0), .inr (5, [.int (zI day2), .ref (na 1), .ref (na 2), .ref (na 3), .ref (na 4)])), ((na 1), .inl (cy 0, 6, .inl (zA hm2))), ((na 2), .inl (cy 0, 6, .inl (zA tk2))), ((na 3), .inl (cy 0, 6, .inl (zA py2))), ((na 4), .inl (cy 0, 6, .inl (zA db2))), ((na2 0), .inr (5, [.int (zI day2), .ref (na2 1), .ref (na2 2), .ref (na2 3), .ref (na2 4)])), ((na2 1), .inl (cy 0, 6, .inl (zA hm2))), ((na2 2), .inl (cy 0, 6, .inl (zA tk2))), ((na2 3), .inl (cy 0, 6, .inl (zA py2))), ((na2 4), .inl (cy 0, 6, .inl (zA db2)))] H := hP
  have hD : va_D A0 [((na 0), .inr (5, [.int (zI day2), .ref (na 1), .ref (na 2), .ref (na 3), .ref (na 4)])), ((na 1), .inl (cy 0, 6, .inl (zA hm2))), ((na 2), .inl (cy 0, 6, .inl (zA tk2))), ((na 3), .inl (cy 0, 6, .inl (zA py2))), ((na 4), .inl (cy 0, 6, .inl (zA db2))), ((na2 0), .inr (5, [.int (zI day2), .ref (na2 1), .ref (na2 2), .ref (na2 3), .ref (na2 4)])), ((na2 1), .inl (cy 0, 6, .inl (zA hm2))), ((na2 2), .inl (cy 0, 6, .inl (zA tk2))), ((na2 3), .inl (cy 0, 6, .inl (zA py2))), ((na2 4), .inl (cy 0, 6, .inl (zA db2)))] := hD
  have hP : va_P D vwCl [((na 0), .inr (5, [.int (zI day2), .ref (na 1), .ref (na 2), .ref (na 3), .ref (na 4)])), ((na 1), .inl (cy 0, 6, .inl (zA hm2))), ((na 2), .inl (cy 0, 6, .inl (zA tk2))), ((na 3), .inl (cy 0, 6, .inl (zA py2))), ((na 4), .inl (cy 0, 6, .inl (zA db2))), ((na2 0), .inr (5, [.int (zI day2), .ref (na2 1), .ref (na2 2), .ref (na2 3), .ref (na2 4)])), ((na2 1), .inl (cy 0, 6, .inl (zA hm2))), ((na2 2), .inl (cy 0, 6, .inl (zA tk2))), ((na2 3), .inl (cy 0, 6, .inl (zA py2))), ((na2 4), .inl (cy 0, 6, .inl (zA db2)))] H := hP
  exact zm_vret hx hb hr hlocks hQ hA0 hP hS dX5_copyFrom_68
abbrev rm_X0_agrees : Room := { frames := 0, cells := 0, slots := 0, locals := 0 }
set_option maxHeartbeats 4000000 in
set_option maxRecDepth 100000 in
theorem c_X0_agrees (l : Launch) (D : va_G) (cy : Nat → ClassId) (ba : Nat → Nat) (ln : Nat) (wh : Nat → Nat) (lk : Nat → Int) (t : Int) (lack : Int) (ht0 : inR t) (hl0 : inR lack) (hln : ln ≤ 6) (hwh : ∀ i, wh i < 6) (hlk : ∀ i, 0 ≤ lk i ∧ lk i ≤ 24) : Met l yX0_agrees wsX0_agrees rm_X0_agrees (pR D cy [((ba 0), .inr (0, [.int (zI ((ln : Nat) : Int)), .ref (ba 1), .ref (ba 2)])), ((ba 1), .inl (cy 0, 6, .inl (zA (fun j => ((wh j : Nat) : Int))))), ((ba 2), .inl (cy 0, 6, .inl (zA lk)))] [.ref (ba 0), .int (zI t), .int (zI lack)]) (qR (if agr wh lk t lack ln = true then 1 else 0)) 0 0 (fun _ => False) := by
  refine met_R (cc := cX0_agrees) (maxL := 4) (ret := (some .boolean)) RX0 (by decide) rfl rfl (Nat.le_of_ble_eq_true rfl) ?_
  intro p e s m args below meth c ls Q hx hb hr hml hts hown hlocks hQ hP hK hl
  have hl : lv_has ls 4 [(0, .ref (ba 0)), (1, .int (zI t)), (2, .int (zI lack))] := hl
  have hinX0 : ∀ w ∈ wsX00, w ∈ wsX0_agrees := (fun w h => List.mem_cons_of_mem _ (List.mem_append_right _ h))
  refine lv_iconst (v := zI 0) hx hb dX0_agrees_0 rfl ?_
  refine lv_istore_n (lv' := [(3, .int (zI 0)), (0, .ref (ba 0)), (1, .int (zI t)), (2, .int (zI lack))]) hx hb dX0_agrees_1 rfl hl (by decide) rfl (fun ls hl => ?_)
  have loop2 : ∀ (n9 : Nat) (i : Nat), ln - i < n9 → (i ≤ ln) → (agr wh lk t lack i = true) → ∀ (x2_3 : Int), x2_3 = ((i : Nat) : Int) → ∀ ls : Array Slot, lv_has ls 4 [(0, .ref (ba 0)), (1, .int (zI t)), (2, .int (zI lack)), (3, .int (zI x2_3))] → W p l e rm_X0_agrees s m args below meth c s.heap [] 0 0 Q (F0 m 2 ls []) := by
    intro n9
    induction n9 with
    | zero => intro i h9; exact absurd h9 (Nat.not_lt_zero _)
    | succ n9 ih2 =>
      intro i hmu2 hi hq x2_3 ex2_3 ls hl
      subst ex2_3
      have hl : lv_has ls 4 [(0, .ref (ba 0)), (1, .int (zI t)), (2, .int (zI lack)), (3, .int (zI ((i : Nat) : Int)))] := hl
      have hw1 := hwh i
      refine lv_iload_n hx hb dX0_agrees_2 rfl (lv_at hl 3 rfl) ?_
      refine lv_aload_n hx hb dX0_agrees_3 rfl (lv_at hl 0 rfl) ?_
      refine va_get (D := D) (ci := 0) (v := .int (zI ((ln : Nat) : Int))) (C := RX0) (T := TX0) (N := 3) hx hb hts hinX0 hown hK hP 0 rfl rfl 0 (by decide) (hts (.fieldLink RX0 41 "SilentRent$Book" "length" "I") (List.mem_of_getElem? (i := 1) rfl)) (fun _ h9 => h9) rfl dX0_agrees_4 ?_
      refine z_icmp_ge (tgt := 38) hx hb ⟨by omega, by omega⟩ ⟨by omega, by omega⟩ dX0_agrees_7 (by decide) (fun c1 => ?_) (fun c1 => ?_)
      · have c1 : (ln : Nat) ≤ (i : Nat) := by omega
        refine lv_iconst (v := zI 1) hx hb dX0_agrees_38 rfl ?_
        exact zr_zret hx hb hr hlocks hQ (by rw [if_pos (by rw [show ln = i from by omega]; exact hq)]) (by first | omega | (split <;> omega)) dX0_agrees_39
      · have c1 : ¬ ((ln : Nat) ≤ (i : Nat)) := by omega
        refine lv_aload_n hx hb dX0_agrees_10 rfl (lv_at hl 0 rfl) ?_
        refine va_get (D := D) (ci := 0) (v := .ref (ba 1)) (C := RX0) (T := TX0) (N := 3) hx hb hts hinX0 hown hK hP 0 rfl rfl 1 (by decide) (hts (.fieldLink RX0 9 "SilentRent$Book" "who" "[I") (List.mem_of_getElem? (i := 2) rfl)) (fun _ h9 => h9) rfl dX0_agrees_11 ?_
        refine lv_iload_n hx hb dX0_agrees_14 rfl (lv_at hl 3 rfl) ?_
        refine z_iald hx hb hK hP 1 0 (f := (fun j => ((wh j : Nat) : Int))) rfl rfl i rfl (by omega) (by decide) dX0_agrees_15 ?_
        refine lv_iload_n hx hb dX0_agrees_16 rfl (lv_at hl 1 rfl) ?_
        have J6 : (((¬ (((wh i : Nat) : Int) = t))) ∨ ((((wh i : Nat) : Int) = t) ∧ ((lk i) = lack))) → ∀ ls : Array Slot, lv_has ls 4 [(0, .ref (ba 0)), (1, .int (zI t)), (2, .int (zI lack)), (3, .int (zI ((i : Nat) : Int)))] → W p l e rm_X0_agrees s m args below meth c s.heap [] 0 0 Q (F0 m 32 ls []) := by
          intro  hj5 ls hl
          refine z_iinc (r := ((i + 1 : Nat) : Int)) (lv' := [(3, .int (zI ((i + 1 : Nat) : Int))), (0, .ref (ba 0)), (1, .int (zI t)), (2, .int (zI lack))]) hx hb (by omega) dX0_agrees_32 hl (k := 3) rfl (by decide) rfl (fun ls hl => ?_)
          refine lv_goto (tgt := 2) hx hb dX0_agrees_35 (by decide) ?_
          exact ih2 (i + 1) (by omega) (by omega) (by unfold agr; rw [hq]; simp; omega) ((i + 1 : Nat) : Int) (by first | rfl | omega) ls (lv_sub hl [1, 2, 3, 0] rfl)
        refine z_icmp_ne (tgt := 32) hx hb ⟨by omega, by omega⟩ ⟨by omega, by omega⟩ dX0_agrees_17 (by decide) (fun c2 => ?_) (fun c2 => ?_)
        · exact J6 (Or.inl c2) ls (lv_sub hl [0, 1, 2, 3] rfl)
        · refine lv_aload_n hx hb dX0_agrees_20 rfl (lv_at hl 0 rfl) ?_
          refine va_get (D := D) (ci := 0) (v := .ref (ba 2)) (C := RX0) (T := TX0) (N := 3) hx hb hts hinX0 hown hK hP 0 rfl rfl 2 (by decide) (hts (.fieldLink RX0 15 "SilentRent$Book" "lacks" "[I") (List.mem_of_getElem? (i := 3) rfl)) (fun _ h9 => h9) rfl dX0_agrees_21 ?_
          refine lv_iload_n hx hb dX0_agrees_24 rfl (lv_at hl 3 rfl) ?_
          refine z_iald hx hb hK hP 2 0 (f := lk) rfl rfl i rfl (by omega) (by decide) dX0_agrees_25 ?_
          have hb3 := hlk i
          refine lv_iload_n hx hb dX0_agrees_26 rfl (lv_at hl 2 rfl) ?_
          refine z_icmp_eq (tgt := 32) hx hb ⟨by omega, by omega⟩ ⟨by omega, by omega⟩ dX0_agrees_27 (by decide) (fun c4 => ?_) (fun c4 => ?_)
          · exact J6 (Or.inr ⟨c2, c4⟩) ls (lv_sub hl [0, 1, 2, 3] rfl)
          · refine lv_iconst (v := zI 0) hx hb dX0_agrees_30 rfl ?_
            exact zr_zret hx hb hr hlocks hQ (by rw [if_neg (agr_no (i := i) (by assumption) (by assumption) (by omega))]) (by first | omega | (split <;> omega)) dX0_agrees_31
  exact loop2 ((ln - 0) + 1) 0 (by omega) (by omega) rfl 0 (by first | rfl | omega | simp) ls (lv_sub hl [1, 2, 3, 0] rfl)
abbrev rm_X0_roomsThatAgree : Room := { frames := 2, cells := 0, slots := 0, locals := 42 }
set_option maxHeartbeats 4000000 in
set_option maxRecDepth 100000 in
theorem c_X0_roomsThatAgree (l : Launch) (D : va_G) (cy : Nat → ClassId) (ba : Nat → Nat) (ln : Nat) (wh : Nat → Nat) (lk : Nat → Int) (h : Nat → Nat) (ro : Nat) (te : Nat) (ch : Nat) (pr : Nat → Int) (sl : Nat → Int) (mu : Nat → Int) (wi : Nat → Int) (ak : Nat → Int) (he : Nat → Nat) (li : Nat → Nat) (t : Int) (ht0 : 0 ≤ t ∧ t < 6) (hro : ro ≤ 6) (hln : ln ≤ 6) (hwh : ∀ i, wh i < 6) (hlk : ∀ i, 0 ≤ lk i ∧ lk i ≤ 24) (hHB : HB pr sl mu wi ak he li) : Met l yX0_roomsThatAgree wsX0_roomsThatAgree rm_X0_roomsThatAgree (pR D cy [((ba 0), .inr (0, [.int (zI ((ln : Nat) : Int)), .ref (ba 1), .ref (ba 2)])), ((ba 1), .inl (cy 0, 6, .inl (zA (fun j => ((wh j : Nat) : Int))))), ((ba 2), .inl (cy 0, 6, .inl (zA lk))), ((h 0), .inr (2, [.int (zI ((ro : Nat) : Int)), .int (zI ((te : Nat) : Int)), .int (zI ((ch : Nat) : Int)), .ref (h 1), .ref (h 2), .ref (h 3), .ref (h 4), .ref (h 5), .ref (h 6), .ref (h 7)])), ((h 1), .inl (cy 0, 6, .inl (zA pr))), ((h 2), .inl (cy 0, 6, .inl (zA sl))), ((h 3), .inl (cy 0, 6, .inl (zA mu))), ((h 4), .inl (cy 0, 6, .inl (zA wi))), ((h 5), .inl (cy 0, 6, .inl (zA ak))), ((h 6), .inl (cy 0, 6, .inl (zA (fun j => ((he j : Nat) : Int))))), ((h 7), .inl (cy 0, 5, .inl (zA (fun j => ((li j : Nat) : Int)))))] [.ref (ba 0), .ref (h 0), .int (zI t)]) (qR ((bits (fun r => agr wh lk t (max 0 (pr r - (24 - sl t.toNat - mu t.toNat))) ln) ro : Nat) : Int)) 0 0 (fun _ => False) := by
  refine met_R (cc := cX0_roomsThatAgree) (maxL := 5) (ret := (some .int)) RX0 (by decide) rfl rfl (Nat.le_of_ble_eq_true rfl) ?_
  intro p e s m args below meth c ls Q hx hb hr hml hts hown hlocks hQ hP hK hl
  have hl : lv_has ls 5 [(0, .ref (ba 0)), (1, .ref (h 0)), (2, .int (zI t))] := hl
  have hinX2 : ∀ w ∈ wsX20, w ∈ wsX0_roomsThatAgree := (fun w h => List.mem_cons_of_mem _ (List.mem_append_left _ (List.mem_append_right _ h)))
  refine lv_iconst (v := zI 0) hx hb dX0_roomsThatAgree_0 rfl ?_
  refine lv_istore_n (lv' := [(3, .int (zI 0)), (0, .ref (ba 0)), (1, .ref (h 0)), (2, .int (zI t))]) hx hb dX0_roomsThatAgree_1 rfl hl (by decide) rfl (fun ls hl => ?_)
  refine lv_iconst (v := zI 0) hx hb dX0_roomsThatAgree_2 rfl ?_
  refine lv_istore (lv' := [(4, .int (zI 0)), (3, .int (zI 0)), (0, .ref (ba 0)), (1, .ref (h 0)), (2, .int (zI t))]) hx hb dX0_roomsThatAgree_3 hl (by decide) rfl (fun ls hl => ?_)
  have loop5 : ∀ (n9 : Nat) (i : Nat), ro - i < n9 → (i ≤ ro) → ∀ (x5_3 : Int), x5_3 = ((bits (fun r => agr wh lk t (max 0 (pr r - (24 - sl t.toNat - mu t.toNat))) ln) i : Nat) : Int) → ∀ (x5_4 : Int), x5_4 = ((i : Nat) : Int) → ∀ ls : Array Slot, lv_has ls 5 [(0, .ref (ba 0)), (1, .ref (h 0)), (2, .int (zI t)), (3, .int (zI x5_3)), (4, .int (zI x5_4))] → W p l e rm_X0_roomsThatAgree s m args below meth c s.heap [] 0 0 Q (F0 m 5 ls []) := by
    intro n9
    induction n9 with
    | zero => intro i h9; exact absurd h9 (Nat.not_lt_zero _)
    | succ n9 ih5 =>
      intro i hmu5 hi x5_3 ex5_3 x5_4 ex5_4 ls hl
      subst ex5_3
      subst ex5_4
      have hl : lv_has ls 5 [(0, .ref (ba 0)), (1, .ref (h 0)), (2, .int (zI t)), (3, .int (zI ((bits (fun r => agr wh lk t (max 0 (pr r - (24 - sl t.toNat - mu t.toNat))) ln) i : Nat) : Int))), (4, .int (zI ((i : Nat) : Int)))] := hl
      have hf1 := bits_lt64 (fun r => agr wh lk t (max 0 (pr r - (24 - sl t.toNat - mu t.toNat))) ln) i (by omega)
      have hs9 := hHB.2.1 t.toNat
      have hm9 := hHB.2.2.1 t.toNat
      refine lv_iload hx hb dX0_roomsThatAgree_5 (lv_at hl 4 rfl) ?_
      refine lv_aload_n hx hb dX0_roomsThatAgree_7 rfl (lv_at hl 1 rfl) ?_
      refine va_get (D := D) (ci := 2) (v := .int (zI ((ro : Nat) : Int))) (C := RX2) (T := TX2) (N := 10) hx hb hts hinX2 hown hK hP 3 rfl rfl 0 (by decide) (hts (.fieldLink RX0 18 "SilentRent$House" "rooms" "I") (List.mem_of_getElem? (i := 1) rfl)) (fun _ h9 => h9) rfl dX0_roomsThatAgree_8 ?_
      refine z_icmp_ge (tgt := 52) hx hb ⟨by omega, by omega⟩ ⟨by omega, by omega⟩ dX0_roomsThatAgree_11 (by decide) (fun c1 => ?_) (fun c1 => ?_)
      · have c1 : (ro : Nat) ≤ (i : Nat) := by omega
        refine lv_iload_n hx hb dX0_roomsThatAgree_52 rfl (lv_at hl 3 rfl) ?_
        exact zr_iret hx hb hr hlocks hQ (by rw [show i = ro from by omega]) dX0_roomsThatAgree_53
      · have c1 : ¬ ((ro : Nat) ≤ (i : Nat)) := by omega
        refine lv_aload_n hx hb dX0_roomsThatAgree_14 rfl (lv_at hl 0 rfl) ?_
        refine lv_iload_n hx hb dX0_roomsThatAgree_15 rfl (lv_at hl 2 rfl) ?_
        refine lv_iconst (v := zI 0) hx hb dX0_roomsThatAgree_16 rfl ?_
        refine lv_aload_n hx hb dX0_roomsThatAgree_17 rfl (lv_at hl 1 rfl) ?_
        refine va_get (D := D) (ci := 2) (v := .ref (h 1)) (C := RX2) (T := TX2) (N := 10) hx hb hts hinX2 hown hK hP 3 rfl rfl 3 (by decide) (hts (.fieldLink RX0 24 "SilentRent$House" "price" "[I") (List.mem_of_getElem? (i := 2) rfl)) (fun _ h9 => h9) rfl dX0_roomsThatAgree_18 ?_
        refine lv_iload hx hb dX0_roomsThatAgree_21 (lv_at hl 4 rfl) ?_
        refine z_iald hx hb hK hP 4 0 (f := pr) rfl rfl i rfl (by omega) (by decide) dX0_roomsThatAgree_23 ?_
        have hb2 := hHB.1 i
        refine lv_aload_n hx hb dX0_roomsThatAgree_24 rfl (lv_at hl 1 rfl) ?_
        refine lv_iload_n hx hb dX0_roomsThatAgree_25 rfl (lv_at hl 2 rfl) ?_
        have hPc3 := hP.sub (ws' := [((h 0), .inr (2, [.int (zI ((ro : Nat) : Int)), .int (zI ((te : Nat) : Int)), .int (zI ((ch : Nat) : Int)), .ref (h 1), .ref (h 2), .ref (h 3), .ref (h 4), .ref (h 5), .ref (h 6), .ref (h 7)])), ((h 1), .inl (cy 0, 6, .inl (zA pr))), ((h 2), .inl (cy 0, 6, .inl (zA sl))), ((h 3), .inl (cy 0, 6, .inl (zA mu))), ((h 4), .inl (cy 0, 6, .inl (zA wi))), ((h 5), .inl (cy 0, 6, .inl (zA ak))), ((h 6), .inl (cy 0, 6, .inl (zA (fun j => ((he j : Nat) : Int))))), ((h 7), .inl (cy 0, 5, .inl (zA (fun j => ((li j : Nat) : Int)))))]) [3, 4, 5, 6, 7, 8, 9, 10] rfl
        refine zr_callV (rest := [.int (zI (pr i)), .int (zI 0), .int (zI t), .ref (ba 0)]) (As := [.int (zI t)]) (v := (24 - sl t.toNat - mu t.toNat)) ⟨hx, hb, hml, hown, hts⟩ (c_X2_keepsSilent l D cy h ro te ch pr sl mu wi ak he li t (by omega) hHB) (cwV 1 hts gX0_roomsThatAgree_X2_keepsSilent rfl rfl rfl (by decide +kernel) ⟨Nat.le_of_ble_eq_true rfl, Nat.le_of_ble_eq_true rfl⟩) hK hPc3 0 2 rfl rfl rfl hl.1 rfl (Nat.le_of_ble_eq_true rfl) dX0_roomsThatAgree_26 ⟨Nat.zero_le _, Nat.zero_le _⟩ ?_
        refine z_isub (r := ((pr i) - (24 - sl t.toNat - mu t.toNat))) hx hb rfl dX0_roomsThatAgree_29 ?_
        refine z_mmax (r := (max 0 ((pr i) - (24 - sl t.toNat - mu t.toNat)))) hx hb (by rw [hml]; exact hl.1.symm) hown (hts (.methodLink RX0 31 Lib.Math.max.name) (List.mem_of_getElem? (i := 3) rfl)) (hts (.static Lib.Math.max.name) (List.mem_of_getElem? (i := 4) rfl)) (hts (.initialized "java/lang/Math") (List.mem_of_getElem? (i := 5) rfl)) (hts (.code Lib.Math.max.name Lib.Math.max.code 2 (some .int)) (List.mem_of_getElem? (i := 6) rfl)) (Nat.le_of_ble_eq_true rfl) (Nat.le_of_ble_eq_true rfl) (Nat.zero_le _) (Nat.zero_le _) ⟨by omega, by omega⟩ ⟨by omega, by omega⟩ (by omega) dX0_roomsThatAgree_30 ?_
        have hPc4 := hP.sub (ws' := [((ba 0), .inr (0, [.int (zI ((ln : Nat) : Int)), .ref (ba 1), .ref (ba 2)])), ((ba 1), .inl (cy 0, 6, .inl (zA (fun j => ((wh j : Nat) : Int))))), ((ba 2), .inl (cy 0, 6, .inl (zA lk)))]) [0, 1, 2] rfl
        refine zr_callV (rest := []) (As := [.int (zI t), .int (zI (max 0 ((pr i) - (24 - sl t.toNat - mu t.toNat))))]) (v := (if agr wh lk t (max 0 ((pr i) - (24 - sl t.toNat - mu t.toNat))) ln = true then 1 else 0)) ⟨hx, hb, hml, hown, hts⟩ (c_X0_agrees l D cy ba ln wh lk t (max 0 ((pr i) - (24 - sl t.toNat - mu t.toNat))) (by omega) (by omega) (by omega) hwh hlk) (cwV 2 hts gX0_roomsThatAgree_X0_agrees rfl rfl rfl (by decide +kernel) ⟨Nat.le_of_ble_eq_true rfl, Nat.le_of_ble_eq_true rfl⟩) hK hPc4 0 0 rfl rfl rfl hl.1 rfl (Nat.le_of_ble_eq_true rfl) dX0_roomsThatAgree_33 ⟨Nat.zero_le _, Nat.zero_le _⟩ ?_
        have J9 : ∀ (z8 : Nat), z8 = (if agr wh lk t (max 0 ((pr i) - (24 - sl t.toNat - mu t.toNat))) ln = true then ((bits (fun r => agr wh lk t (max 0 (pr r - (24 - sl t.toNat - mu t.toNat))) ln) i) ||| (2 ^ i)) else (bits (fun r => agr wh lk t (max 0 (pr r - (24 - sl t.toNat - mu t.toNat))) ln) i)) → ∀ ls : Array Slot, lv_has ls 5 [(0, .ref (ba 0)), (1, .ref (h 0)), (2, .int (zI t)), (3, .int (zI ((z8 : Nat) : Int))), (4, .int (zI ((i : Nat) : Int)))] → W p l e rm_X0_roomsThatAgree s m args below meth c s.heap [] 0 0 Q (F0 m 46 ls []) := by
          intro z8 ez8 ls hl
          subst ez8
          refine z_iinc (r := ((i + 1 : Nat) : Int)) (lv' := [(4, .int (zI ((i + 1 : Nat) : Int))), (0, .ref (ba 0)), (1, .ref (h 0)), (2, .int (zI t)), (3, .int (zI (((if agr wh lk t (max 0 ((pr i) - (24 - sl t.toNat - mu t.toNat))) ln = true then ((bits (fun r => agr wh lk t (max 0 (pr r - (24 - sl t.toNat - mu t.toNat))) ln) i) ||| (2 ^ i)) else (bits (fun r => agr wh lk t (max 0 (pr r - (24 - sl t.toNat - mu t.toNat))) ln) i)) : Nat) : Int)))]) hx hb (by omega) dX0_roomsThatAgree_46 hl (k := 4) rfl (by decide) rfl (fun ls hl => ?_)
          refine lv_goto (tgt := 5) hx hb dX0_roomsThatAgree_49 (by decide) ?_
          exact ih5 (i + 1) (by omega) (by omega) (((if agr wh lk t (max 0 ((pr i) - (24 - sl t.toNat - mu t.toNat))) ln = true then ((bits (fun r => agr wh lk t (max 0 (pr r - (24 - sl t.toNat - mu t.toNat))) ln) i) ||| (2 ^ i)) else (bits (fun r => agr wh lk t (max 0 (pr r - (24 - sl t.toNat - mu t.toNat))) ln) i)) : Nat) : Int) (by simp only [bits]) ((i + 1 : Nat) : Int) (by first | rfl | omega) ls (lv_sub hl [1, 2, 3, 4, 0] rfl)
        refine z_if_eq (tgt := 46) hx hb bo_r dX0_roomsThatAgree_36 (by decide) (fun c5 => ?_) (fun c5 => ?_)
        · have c5 := bo_f c5
          exact J9 (bits (fun r => agr wh lk t (max 0 (pr r - (24 - sl t.toNat - mu t.toNat))) ln) i) (by rw [if_neg c5]) ls (lv_sub hl [0, 1, 2, 3, 4] rfl)
        · have c5 := bo_t c5
          refine lv_iload_n hx hb dX0_roomsThatAgree_39 rfl (lv_at hl 3 rfl) ?_
          refine lv_iconst (v := zI 1) hx hb dX0_roomsThatAgree_40 rfl ?_
          refine lv_iload hx hb dX0_roomsThatAgree_41 (lv_at hl 4 rfl) ?_
          have hp6 := pow_le3 i (by omega)
          refine z_ishl (r := ((2 ^ i : Nat) : Int)) hx hb (zI_shl1 i (by omega)) dX0_roomsThatAgree_43 ?_
          have hq7 := or_lt64 (a := (bits (fun r => agr wh lk t (max 0 (pr r - (24 - sl t.toNat - mu t.toNat))) ln) i)) (b := (2 ^ i)) (by omega) (by omega)
          refine z_ior (r := (((bits (fun r => agr wh lk t (max 0 (pr r - (24 - sl t.toNat - mu t.toNat))) ln) i) ||| (2 ^ i) : Nat) : Int)) hx hb (zI_or (a := bits (fun r => agr wh lk t (max 0 (pr r - (24 - sl t.toNat - mu t.toNat))) ln) i) (b := 2 ^ i) (by omega) (by omega)) dX0_roomsThatAgree_44 ?_
          refine lv_istore_n (lv' := [(3, .int (zI (((bits (fun r => agr wh lk t (max 0 (pr r - (24 - sl t.toNat - mu t.toNat))) ln) i) ||| (2 ^ i) : Nat) : Int))), (0, .ref (ba 0)), (1, .ref (h 0)), (2, .int (zI t)), (4, .int (zI ((i : Nat) : Int)))]) hx hb dX0_roomsThatAgree_45 rfl hl (by decide) rfl (fun ls hl => ?_)
          exact J9 ((bits (fun r => agr wh lk t (max 0 (pr r - (24 - sl t.toNat - mu t.toNat))) ln) i) ||| (2 ^ i)) (by rw [if_pos c5]) ls (lv_sub hl [1, 2, 3, 0, 4] rfl)
  exact loop5 ((ro - 0) + 1) 0 (by omega) (by omega) 0 (by first | rfl | omega | simp) 0 (by first | rfl | omega | simp) ls (lv_sub hl [2, 3, 4, 1, 0] rfl)
