/-! the model: does the book have it so -/
theorem agr_s {wh : Nat → Nat} {lk : Nat → Int} {t lack : Int} {i : Nat} : agr wh lk t lack (i + 1) = true ↔ (agr wh lk t lack i = true ∧ (¬ ((wh i : Nat) : Int) = t ∨ lk i = lack)) := by
  show (agr wh lk t lack i && (decide (¬ ((wh i : Nat) : Int) = t) || decide (lk i = lack))) = true ↔ _
  rw [Bool.and_eq_true, Bool.or_eq_true, decide_eq_true_eq, decide_eq_true_eq]
abbrev rm_X9_isSo : Room := { frames := 2, cells := 0, slots := 0, locals := 43 }
set_option maxHeartbeats 4000000 in
set_option maxRecDepth 100000 in
theorem c_X9_isSo (l : Launch) (D : va_G) (cy : Nat → ClassId) (ma : Nat → Nat) (xt : Nat → Int) (xl : Nat) (at0 : Nat) (bg : Nat) (tk0 : Int) (td : Int) (rd : Nat → Int) (hs : Nat → Int) (day : Int) (hm : Nat → Int) (tk : Nat → Int) (py : Nat → Int) (db : Nat → Int) (un : Nat → Int) (ud : Nat) (rs : Nat → Int) (be : Int) (bp : Int) (gp : Nat → Int) (ln : Nat) (wh : Nat → Nat) (lk : Nat → Int) (wa : Int) (so : Nat → Nat) (tr : Int) (kp : Nat → Int) (t : Int) (r : Int) (ro : Nat) (te : Nat) (ch : Nat) (pr : Nat → Int) (sl : Nat → Int) (mu : Nat → Int) (wi : Nat → Int) (ak : Nat → Int) (he : Nat → Nat) (li : Nat → Nat) (ht0 : 0 ≤ t ∧ t < (te : Int)) (hr0 : 0 ≤ r ∧ r < (ro : Int)) (hro : ro ≤ 6) (hte : te ≤ 6) (hch : ch ≤ 5) (hHB : HB pr sl mu wi ak he li) (hHS : HS hs ro te ch pr sl mu wi ak he li) (hln : ln ≤ 6) (hwh : ∀ i, wh i < 6) (hlk : ∀ i, 0 ≤ lk i ∧ lk i ≤ 24) : Met l yX9_isSo wsX9_isSo rm_X9_isSo (pR D cy [((ma 0), .inr (9, [.ref (ma 1), .int (zI ((xl : Nat) : Int)), .int (zI ((at0 : Nat) : Int)), .int (zI ((bg : Nat) : Int)), .int (zI tk0), .int (zI td), .ref (ma 2), .ref (ma 3), .ref (ma 4), .ref (ma 5), .int (zI ((ud : Nat) : Int)), .ref (ma 6), .int (zI be), .int (zI bp), .ref (ma 7), .int (zI ((ln : Nat) : Int)), .ref (ma 8), .ref (ma 9), .int (zI wa), .ref (ma 10), .long (zL tr), .ref (ma 11)])), ((ma 1), .inl (cy 0, 200, .inl (zA xt))), ((ma 2), .inl (cy 0, 44, .inl (zA rd))), ((ma 3), .inl (cy 0, 44, .inl (zA hs))), ((ma 4), .inl (cy 0, 25, .inl (zA (enc day hm tk py db)))), ((ma 5), .inl (cy 0, 250, .inl (zA un))), ((ma 6), .inl (cy 0, 6, .inl (zA rs))), ((ma 7), .inl (cy 0, 64, .inl (zA gp))), ((ma 8), .inl (cy 0, 6, .inl (zA (fun j => ((wh j : Nat) : Int))))), ((ma 9), .inl (cy 0, 6, .inl (zA lk))), ((ma 10), .inl (cy 0, 6, .inl (zA (fun j => ((so j : Nat) : Int))))), ((ma 11), .inl (cy 0, 554, .inl (zA kp)))] [.ref (ma 0), .int (zI t), .int (zI r)]) (qR (if agr wh lk t (max 0 (pr r.toNat - (24 - sl t.toNat - mu t.toNat))) ln = true then 1 else 0)) 0 0 (fun _ => False) := by
  refine met_R (cc := cX9_isSo) (maxL := 6) (ret := (some .boolean)) RX9 (by decide) rfl rfl (Nat.le_of_ble_eq_true rfl) ?_
  intro p e s m args below meth c ls Q hx hb hr hml hts hown hlocks hQ hP hK hl
  have hl : lv_has ls 6 [(0, .ref (ma 0)), (1, .int (zI t)), (2, .int (zI r))] := hl
  have hinX9 : ∀ w ∈ wsX90, w ∈ wsX9_isSo := (fun w h => List.mem_cons_of_mem _ (List.mem_append_right _ h))
  have hb1 := hHB.1 r.toNat
  have hb2 := hHB.2.1 t.toNat
  have hb3 := hHB.2.2.1 t.toNat
  refine lv_aload_n hx hb dX9_isSo_0 rfl (lv_at hl 0 rfl) ?_
  refine lv_iload_n hx hb dX9_isSo_1 rfl (lv_at hl 1 rfl) ?_
  refine lv_iload_n hx hb dX9_isSo_2 rfl (lv_at hl 2 rfl) ?_
  refine zr_callV (rest := []) (As := [.int (zI t), .int (zI r)]) (v := (24 - sl t.toNat - mu t.toNat - pr r.toNat)) ⟨hx, hb, hml, hown, hts⟩ (c_X9_more l D cy ma xt xl at0 bg tk0 td rd hs day hm tk py db un ud rs be bp gp ln wh lk wa so tr kp t r ro te ch pr sl mu wi ak he li (by omega) (by omega) (by omega) (by omega) (by omega) hHB hHS) (cwV 2 hts gX9_isSo_X9_more rfl rfl rfl (by decide +kernel) ⟨Nat.le_of_ble_eq_true rfl, Nat.le_of_ble_eq_true rfl⟩) hK hP 0 9 rfl rfl rfl hl.1 rfl (Nat.le_of_ble_eq_true rfl) dX9_isSo_3 ⟨Nat.zero_le _, Nat.zero_le _⟩ ?_
  have J3 : ∀ (z2 : Int), z2 = (if 0 ≤ (24 - sl t.toNat - mu t.toNat - pr r.toNat) then 0 else (-(24 - sl t.toNat - mu t.toNat - pr r.toNat))) → ∀ ls : Array Slot, lv_has ls 6 [(0, .ref (ma 0)), (1, .int (zI t)), (2, .int (zI r))] → W p l e rm_X9_isSo s m args below meth c s.heap [] 0 0 Q (F0 m 20 ls [.int (zI z2)]) := by
    intro z2 ez2 ls hl
    subst ez2
    refine lv_istore_n (lv' := [(3, .int (zI (if 0 ≤ (24 - sl t.toNat - mu t.toNat - pr r.toNat) then 0 else (-(24 - sl t.toNat - mu t.toNat - pr r.toNat))))), (0, .ref (ma 0)), (1, .int (zI t)), (2, .int (zI r))]) hx hb dX9_isSo_20 rfl hl (by decide) rfl (fun ls hl => ?_)
    have hr4 : (if 0 ≤ (24 - sl t.toNat - mu t.toNat - pr r.toNat) then 0 else (-(24 - sl t.toNat - mu t.toNat - pr r.toNat))) = (max 0 (pr r.toNat - (24 - sl t.toNat - mu t.toNat))) := by split <;> omega
    rw [hr4] at hl
    have hl : lv_has ls 6 [(3, .int (zI (max 0 (pr r.toNat - (24 - sl t.toNat - mu t.toNat))))), (0, .ref (ma 0)), (1, .int (zI t)), (2, .int (zI r))] := hl
    refine lv_iconst (v := zI 1) hx hb dX9_isSo_21 rfl ?_
    refine lv_istore (lv' := [(4, .int (zI 1)), (3, .int (zI (max 0 (pr r.toNat - (24 - sl t.toNat - mu t.toNat))))), (0, .ref (ma 0)), (1, .int (zI t)), (2, .int (zI r))]) hx hb dX9_isSo_22 hl (by decide) rfl (fun ls hl => ?_)
    refine lv_iconst (v := zI 0) hx hb dX9_isSo_24 rfl ?_
    refine lv_istore (lv' := [(5, .int (zI 0)), (4, .int (zI 1)), (3, .int (zI (max 0 (pr r.toNat - (24 - sl t.toNat - mu t.toNat))))), (0, .ref (ma 0)), (1, .int (zI t)), (2, .int (zI r))]) hx hb dX9_isSo_25 hl (by decide) rfl (fun ls hl => ?_)
    have loop27 : ∀ (n9 : Nat) (i : Nat), ln - i < n9 → (i ≤ ln) → ∀ (x27_4 : Int), x27_4 = (if agr wh lk t (max 0 (pr r.toNat - (24 - sl t.toNat - mu t.toNat))) i = true then 1 else 0) → ∀ (x27_5 : Int), x27_5 = ((i : Nat) : Int) → ∀ ls : Array Slot, lv_has ls 6 [(0, .ref (ma 0)), (1, .int (zI t)), (2, .int (zI r)), (3, .int (zI (max 0 (pr r.toNat - (24 - sl t.toNat - mu t.toNat))))), (4, .int (zI x27_4)), (5, .int (zI x27_5))] → W p l e rm_X9_isSo s m args below meth c s.heap [] 0 0 Q (F0 m 27 ls []) := by
      intro n9
      induction n9 with
      | zero => intro i h9; exact absurd h9 (Nat.not_lt_zero _)
      | succ n9 ih27 =>
        intro i hmu27 hi x27_4 ex27_4 x27_5 ex27_5 ls hl
        subst ex27_4
        subst ex27_5
        have hl : lv_has ls 6 [(0, .ref (ma 0)), (1, .int (zI t)), (2, .int (zI r)), (3, .int (zI (max 0 (pr r.toNat - (24 - sl t.toNat - mu t.toNat))))), (4, .int (zI (if agr wh lk t (max 0 (pr r.toNat - (24 - sl t.toNat - mu t.toNat))) i = true then 1 else 0))), (5, .int (zI ((i : Nat) : Int)))] := hl
        have hag := @agr_s wh lk t (max 0 (pr r.toNat - (24 - sl t.toNat - mu t.toNat))) i
        have hwi := hwh i
        have hki := hlk i
        refine lv_iload hx hb dX9_isSo_27 (lv_at hl 5 rfl) ?_
        refine lv_aload_n hx hb dX9_isSo_29 rfl (lv_at hl 0 rfl) ?_
        refine va_get (D := D) (ci := 9) (v := .int (zI ((ln : Nat) : Int))) (C := RX9) (T := TX9) (N := 22) hx hb hts hinX9 hown hK hP 0 rfl rfl 15 (by decide) (hts (.fieldLink RX9 109 "SilentRentModel" "lines" "I") (List.mem_of_getElem? (i := 1) rfl)) (fun _ h9 => h9) rfl dX9_isSo_30 ?_
        refine z_icmp_ge (tgt := 76) hx hb ⟨by omega, by omega⟩ ⟨by omega, by omega⟩ dX9_isSo_33 (by decide) (fun c5 => ?_) (fun c5 => ?_)
        · have c5 : (ln : Nat) ≤ (i : Nat) := by omega
          refine lv_iload hx hb dX9_isSo_76 (lv_at hl 4 rfl) ?_
          exact zr_zret hx hb hr hlocks hQ (by rw [show i = ln from by omega]) (by first | omega | (split <;> omega)) dX9_isSo_78
        · have c5 : ¬ ((ln : Nat) ≤ (i : Nat)) := by omega
          refine lv_iload hx hb dX9_isSo_36 (lv_at hl 4 rfl) ?_
          refine z_if_eq (tgt := 67) hx hb bo_r dX9_isSo_38 (by decide) (fun c6 => ?_) (fun c6 => ?_)
          · have c6 := bo_f c6
            refine lv_iconst (v := zI 0) hx hb dX9_isSo_67 rfl ?_
            refine lv_istore (lv' := [(4, .int (zI 0)), (0, .ref (ma 0)), (1, .int (zI t)), (2, .int (zI r)), (3, .int (zI (max 0 (pr r.toNat - (24 - sl t.toNat - mu t.toNat))))), (5, .int (zI ((i : Nat) : Int)))]) hx hb dX9_isSo_68 hl (by decide) rfl (fun ls hl => ?_)
            refine z_iinc (r := ((i + 1 : Nat) : Int)) (lv' := [(5, .int (zI ((i + 1 : Nat) : Int))), (4, .int (zI 0)), (0, .ref (ma 0)), (1, .int (zI t)), (2, .int (zI r)), (3, .int (zI (max 0 (pr r.toNat - (24 - sl t.toNat - mu t.toNat)))))]) hx hb (by omega) dX9_isSo_70 hl (k := 5) rfl (by decide) rfl (fun ls hl => ?_)
            refine lv_goto (tgt := 27) hx hb dX9_isSo_73 (by decide) ?_
            exact ih27 (i + 1) (by omega) (by omega) 0 (by first | exact (if_pos (hag.mpr ⟨by assumption, by omega⟩)).symm | exact (if_neg (fun h => by have h1 := hag.mp h; first | exact absurd h1.1 (by assumption) | (have h2 := h1.2; omega))).symm) ((i + 1 : Nat) : Int) (by first | rfl | omega) ls (lv_sub hl [2, 3, 4, 5, 1, 0] rfl)
          · have c6 := bo_t c6
            refine lv_aload_n hx hb dX9_isSo_41 rfl (lv_at hl 0 rfl) ?_
            refine va_get (D := D) (ci := 9) (v := .ref (ma 8)) (C := RX9) (T := TX9) (N := 22) hx hb hts hinX9 hown hK hP 0 rfl rfl 16 (by decide) (hts (.fieldLink RX9 31 "SilentRentModel" "who" "[I") (List.mem_of_getElem? (i := 2) rfl)) (fun _ h9 => h9) rfl dX9_isSo_42 ?_
            refine lv_iload hx hb dX9_isSo_45 (lv_at hl 5 rfl) ?_
            refine z_iald hx hb hK hP 8 0 (f := (fun j => ((wh j : Nat) : Int))) rfl rfl i rfl (by omega) (by decide) dX9_isSo_47 ?_
            refine lv_iload_n hx hb dX9_isSo_48 rfl (lv_at hl 1 rfl) ?_
            refine z_icmp_ne (tgt := 63) hx hb ⟨by omega, by omega⟩ ⟨by omega, by omega⟩ dX9_isSo_49 (by decide) (fun c7 => ?_) (fun c7 => ?_)
            · refine lv_iconst (v := zI 1) hx hb dX9_isSo_63 rfl ?_
              refine lv_goto (tgt := 68) hx hb dX9_isSo_64 (by decide) ?_
              refine lv_istore (lv' := [(4, .int (zI 1)), (0, .ref (ma 0)), (1, .int (zI t)), (2, .int (zI r)), (3, .int (zI (max 0 (pr r.toNat - (24 - sl t.toNat - mu t.toNat))))), (5, .int (zI ((i : Nat) : Int)))]) hx hb dX9_isSo_68 hl (by decide) rfl (fun ls hl => ?_)
              refine z_iinc (r := ((i + 1 : Nat) : Int)) (lv' := [(5, .int (zI ((i + 1 : Nat) : Int))), (4, .int (zI 1)), (0, .ref (ma 0)), (1, .int (zI t)), (2, .int (zI r)), (3, .int (zI (max 0 (pr r.toNat - (24 - sl t.toNat - mu t.toNat)))))]) hx hb (by omega) dX9_isSo_70 hl (k := 5) rfl (by decide) rfl (fun ls hl => ?_)
              refine lv_goto (tgt := 27) hx hb dX9_isSo_73 (by decide) ?_
              exact ih27 (i + 1) (by omega) (by omega) 1 (by first | exact (if_pos (hag.mpr ⟨by assumption, by omega⟩)).symm | exact (if_neg (fun h => by have h1 := hag.mp h; first | exact absurd h1.1 (by assumption) | (have h2 := h1.2; omega))).symm) ((i + 1 : Nat) : Int) (by first | rfl | omega) ls (lv_sub hl [2, 3, 4, 5, 1, 0] rfl)
            · refine lv_aload_n hx hb dX9_isSo_52 rfl (lv_at hl 0 rfl) ?_
              refine va_get (D := D) (ci := 9) (v := .ref (ma 9)) (C := RX9) (T := TX9) (N := 22) hx hb hts hinX9 hown hK hP 0 rfl rfl 17 (by decide) (hts (.fieldLink RX9 34 "SilentRentModel" "lacked" "[I") (List.mem_of_getElem? (i := 3) rfl)) (fun _ h9 => h9) rfl dX9_isSo_53 ?_
              refine lv_iload hx hb dX9_isSo_56 (lv_at hl 5 rfl) ?_
              refine z_iald hx hb hK hP 9 0 (f := lk) rfl rfl i rfl (by omega) (by decide) dX9_isSo_58 ?_
              have hb8 := hlk i
              refine lv_iload_n hx hb dX9_isSo_59 rfl (lv_at hl 3 rfl) ?_
              refine z_icmp_ne (tgt := 67) hx hb ⟨by omega, by omega⟩ ⟨by omega, by omega⟩ dX9_isSo_60 (by decide) (fun c9 => ?_) (fun c9 => ?_)
              · refine lv_iconst (v := zI 0) hx hb dX9_isSo_67 rfl ?_
                refine lv_istore (lv' := [(4, .int (zI 0)), (0, .ref (ma 0)), (1, .int (zI t)), (2, .int (zI r)), (3, .int (zI (max 0 (pr r.toNat - (24 - sl t.toNat - mu t.toNat))))), (5, .int (zI ((i : Nat) : Int)))]) hx hb dX9_isSo_68 hl (by decide) rfl (fun ls hl => ?_)
                refine z_iinc (r := ((i + 1 : Nat) : Int)) (lv' := [(5, .int (zI ((i + 1 : Nat) : Int))), (4, .int (zI 0)), (0, .ref (ma 0)), (1, .int (zI t)), (2, .int (zI r)), (3, .int (zI (max 0 (pr r.toNat - (24 - sl t.toNat - mu t.toNat)))))]) hx hb (by omega) dX9_isSo_70 hl (k := 5) rfl (by decide) rfl (fun ls hl => ?_)
                refine lv_goto (tgt := 27) hx hb dX9_isSo_73 (by decide) ?_
                exact ih27 (i + 1) (by omega) (by omega) 0 (by first | exact (if_pos (hag.mpr ⟨by assumption, by omega⟩)).symm | exact (if_neg (fun h => by have h1 := hag.mp h; first | exact absurd h1.1 (by assumption) | (have h2 := h1.2; omega))).symm) ((i + 1 : Nat) : Int) (by first | rfl | omega) ls (lv_sub hl [2, 3, 4, 5, 1, 0] rfl)
              · refine lv_iconst (v := zI 1) hx hb dX9_isSo_63 rfl ?_
                refine lv_goto (tgt := 68) hx hb dX9_isSo_64 (by decide) ?_
                refine lv_istore (lv' := [(4, .int (zI 1)), (0, .ref (ma 0)), (1, .int (zI t)), (2, .int (zI r)), (3, .int (zI (max 0 (pr r.toNat - (24 - sl t.toNat - mu t.toNat))))), (5, .int (zI ((i : Nat) : Int)))]) hx hb dX9_isSo_68 hl (by decide) rfl (fun ls hl => ?_)
                refine z_iinc (r := ((i + 1 : Nat) : Int)) (lv' := [(5, .int (zI ((i + 1 : Nat) : Int))), (4, .int (zI 1)), (0, .ref (ma 0)), (1, .int (zI t)), (2, .int (zI r)), (3, .int (zI (max 0 (pr r.toNat - (24 - sl t.toNat - mu t.toNat)))))]) hx hb (by omega) dX9_isSo_70 hl (k := 5) rfl (by decide) rfl (fun ls hl => ?_)
                refine lv_goto (tgt := 27) hx hb dX9_isSo_73 (by decide) ?_
                exact ih27 (i + 1) (by omega) (by omega) 1 (by first | exact (if_pos (hag.mpr ⟨by assumption, by omega⟩)).symm | exact (if_neg (fun h => by have h1 := hag.mp h; first | exact absurd h1.1 (by assumption) | (have h2 := h1.2; omega))).symm) ((i + 1 : Nat) : Int) (by first | rfl | omega) ls (lv_sub hl [2, 3, 4, 5, 1, 0] rfl)
    exact loop27 ((ln - 0) + 1) 0 (by omega) (by omega) 1 rfl 0 (by first | rfl | omega | simp) ls (lv_sub hl [3, 4, 5, 2, 1, 0] rfl)
  refine z_if_ge (tgt := 19) hx hb ⟨by omega, by omega⟩ dX9_isSo_6 (by decide) (fun c1 => ?_) (fun c1 => ?_)
  · refine lv_iconst (v := zI 0) hx hb dX9_isSo_19 rfl ?_
    exact J3 0 (by rw [if_pos c1]) ls (lv_sub hl [0, 1, 2] rfl)
  · refine lv_aload_n hx hb dX9_isSo_9 rfl (lv_at hl 0 rfl) ?_
    refine lv_iload_n hx hb dX9_isSo_10 rfl (lv_at hl 1 rfl) ?_
    refine lv_iload_n hx hb dX9_isSo_11 rfl (lv_at hl 2 rfl) ?_
    refine zr_callV (rest := []) (As := [.int (zI t), .int (zI r)]) (v := (24 - sl t.toNat - mu t.toNat - pr r.toNat)) ⟨hx, hb, hml, hown, hts⟩ (c_X9_more l D cy ma xt xl at0 bg tk0 td rd hs day hm tk py db un ud rs be bp gp ln wh lk wa so tr kp t r ro te ch pr sl mu wi ak he li (by omega) (by omega) (by omega) (by omega) (by omega) hHB hHS) (cwV 2 hts gX9_isSo_X9_more rfl rfl rfl (by decide +kernel) ⟨Nat.le_of_ble_eq_true rfl, Nat.le_of_ble_eq_true rfl⟩) hK hP 0 9 rfl rfl rfl hl.1 rfl (Nat.le_of_ble_eq_true rfl) dX9_isSo_12 ⟨Nat.zero_le _, Nat.zero_le _⟩ ?_
    refine z_ineg (r := (-(24 - sl t.toNat - mu t.toNat - pr r.toNat))) hx hb rfl dX9_isSo_15 ?_
    refine lv_goto (tgt := 20) hx hb dX9_isSo_16 (by decide) ?_
    exact J3 (-(24 - sl t.toNat - mu t.toNat - pr r.toNat)) (by rw [if_neg c1]) ls (lv_sub hl [0, 1, 2] rfl)
