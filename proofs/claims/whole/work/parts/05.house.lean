abbrev rm_X2_hasRoom : Room := { frames := 0, cells := 0, slots := 0, locals := 0 }
set_option maxHeartbeats 4000000 in
set_option maxRecDepth 100000 in
theorem c_X2_hasRoom (l : Launch) (D : va_G) (cy : Nat → ClassId) (h : Nat → Nat) (ro : Nat) (te : Nat) (ch : Nat) (pr : Nat → Int) (sl : Nat → Int) (mu : Nat → Int) (wi : Nat → Int) (ak : Nat → Int) (he : Nat → Nat) (li : Nat → Nat) (r : Int) (hr0 : inR r) (hro : ro ≤ 6) : Met l yX2_hasRoom wsX2_hasRoom rm_X2_hasRoom (pR D cy [((h 0), .inr (2, [.int (zI ((ro : Nat) : Int)), .int (zI ((te : Nat) : Int)), .int (zI ((ch : Nat) : Int)), .ref (h 1), .ref (h 2), .ref (h 3), .ref (h 4), .ref (h 5), .ref (h 6), .ref (h 7)])), ((h 1), .inl (cy 0, 6, .inl (zA pr))), ((h 2), .inl (cy 0, 6, .inl (zA sl))), ((h 3), .inl (cy 0, 6, .inl (zA mu))), ((h 4), .inl (cy 0, 6, .inl (zA wi))), ((h 5), .inl (cy 0, 6, .inl (zA ak))), ((h 6), .inl (cy 0, 6, .inl (zA (fun j => ((he j : Nat) : Int))))), ((h 7), .inl (cy 0, 5, .inl (zA (fun j => ((li j : Nat) : Int)))))] [.ref (h 0), .int (zI r)]) (qR (if 0 ≤ r ∧ r < ((ro : Nat) : Int) then 1 else 0)) 0 0 (fun _ => False) := by
  refine met_R (cc := cX2_hasRoom) (maxL := 2) (ret := (some .boolean)) RX2 (by decide) rfl rfl (Nat.le_of_ble_eq_true rfl) ?_
  intro p e s m args below meth c ls Q hx hb hr hml hts hown hlocks hQ hP hK hl
  have hl : lv_has ls 2 [(0, .ref (h 0)), (1, .int (zI r))] := hl
  have hinX2 : ∀ w ∈ wsX20, w ∈ wsX2_hasRoom := (fun w h => List.mem_cons_of_mem _ (List.mem_append_right _ h))
  refine lv_iload_n hx hb dX2_hasRoom_0 rfl (lv_at hl 1 rfl) ?_
  refine z_if_lt (tgt := 16) hx hb ⟨by omega, by omega⟩ dX2_hasRoom_1 (by decide) (fun c1 => ?_) (fun c1 => ?_)
  · refine lv_iconst (v := zI 0) hx hb dX2_hasRoom_16 rfl ?_
    exact zr_zret hx hb hr hlocks hQ (by first | (rw [if_pos (by omega)]) | (rw [if_neg (by omega)])) (by first | omega | (split <;> omega)) dX2_hasRoom_17
  · refine lv_iload_n hx hb dX2_hasRoom_4 rfl (lv_at hl 1 rfl) ?_
    refine lv_aload_n hx hb dX2_hasRoom_5 rfl (lv_at hl 0 rfl) ?_
    refine va_get (D := D) (ci := 2) (v := .int (zI ((ro : Nat) : Int))) (C := RX2) (T := TX2) (N := 10) hx hb hts hinX2 hown hK hP 0 rfl rfl 0 (by decide) (hts (.fieldLink RX2 33 "SilentRent$House" "rooms" "I") (List.mem_of_getElem? (i := 1) rfl)) (fun _ h9 => h9) rfl dX2_hasRoom_6 ?_
    refine z_icmp_ge (tgt := 16) hx hb ⟨by omega, by omega⟩ ⟨by omega, by omega⟩ dX2_hasRoom_9 (by decide) (fun c2 => ?_) (fun c2 => ?_)
    · refine lv_iconst (v := zI 0) hx hb dX2_hasRoom_16 rfl ?_
      exact zr_zret hx hb hr hlocks hQ (by first | (rw [if_pos (by omega)]) | (rw [if_neg (by omega)])) (by first | omega | (split <;> omega)) dX2_hasRoom_17
    · refine lv_iconst (v := zI 1) hx hb dX2_hasRoom_12 rfl ?_
      refine lv_goto (tgt := 17) hx hb dX2_hasRoom_13 (by decide) ?_
      exact zr_zret hx hb hr hlocks hQ (by first | (rw [if_pos (by omega)]) | (rw [if_neg (by omega)])) (by first | omega | (split <;> omega)) dX2_hasRoom_17
abbrev rm_X2_hasTenant : Room := { frames := 0, cells := 0, slots := 0, locals := 0 }
set_option maxHeartbeats 4000000 in
set_option maxRecDepth 100000 in
theorem c_X2_hasTenant (l : Launch) (D : va_G) (cy : Nat → ClassId) (h : Nat → Nat) (ro : Nat) (te : Nat) (ch : Nat) (pr : Nat → Int) (sl : Nat → Int) (mu : Nat → Int) (wi : Nat → Int) (ak : Nat → Int) (he : Nat → Nat) (li : Nat → Nat) (t : Int) (ht0 : inR t) (hte : te ≤ 6) : Met l yX2_hasTenant wsX2_hasTenant rm_X2_hasTenant (pR D cy [((h 0), .inr (2, [.int (zI ((ro : Nat) : Int)), .int (zI ((te : Nat) : Int)), .int (zI ((ch : Nat) : Int)), .ref (h 1), .ref (h 2), .ref (h 3), .ref (h 4), .ref (h 5), .ref (h 6), .ref (h 7)])), ((h 1), .inl (cy 0, 6, .inl (zA pr))), ((h 2), .inl (cy 0, 6, .inl (zA sl))), ((h 3), .inl (cy 0, 6, .inl (zA mu))), ((h 4), .inl (cy 0, 6, .inl (zA wi))), ((h 5), .inl (cy 0, 6, .inl (zA ak))), ((h 6), .inl (cy 0, 6, .inl (zA (fun j => ((he j : Nat) : Int))))), ((h 7), .inl (cy 0, 5, .inl (zA (fun j => ((li j : Nat) : Int)))))] [.ref (h 0), .int (zI t)]) (qR (if 0 ≤ t ∧ t < ((te : Nat) : Int) then 1 else 0)) 0 0 (fun _ => False) := by
  refine met_R (cc := cX2_hasTenant) (maxL := 2) (ret := (some .boolean)) RX2 (by decide) rfl rfl (Nat.le_of_ble_eq_true rfl) ?_
  intro p e s m args below meth c ls Q hx hb hr hml hts hown hlocks hQ hP hK hl
  have hl : lv_has ls 2 [(0, .ref (h 0)), (1, .int (zI t))] := hl
  have hinX2 : ∀ w ∈ wsX20, w ∈ wsX2_hasTenant := (fun w h => List.mem_cons_of_mem _ (List.mem_append_right _ h))
  refine lv_iload_n hx hb dX2_hasTenant_0 rfl (lv_at hl 1 rfl) ?_
  refine z_if_lt (tgt := 16) hx hb ⟨by omega, by omega⟩ dX2_hasTenant_1 (by decide) (fun c1 => ?_) (fun c1 => ?_)
  · refine lv_iconst (v := zI 0) hx hb dX2_hasTenant_16 rfl ?_
    exact zr_zret hx hb hr hlocks hQ (by first | (rw [if_pos (by omega)]) | (rw [if_neg (by omega)])) (by first | omega | (split <;> omega)) dX2_hasTenant_17
  · refine lv_iload_n hx hb dX2_hasTenant_4 rfl (lv_at hl 1 rfl) ?_
    refine lv_aload_n hx hb dX2_hasTenant_5 rfl (lv_at hl 0 rfl) ?_
    refine va_get (D := D) (ci := 2) (v := .int (zI ((te : Nat) : Int))) (C := RX2) (T := TX2) (N := 10) hx hb hts hinX2 hown hK hP 0 rfl rfl 1 (by decide) (hts (.fieldLink RX2 37 "SilentRent$House" "tenants" "I") (List.mem_of_getElem? (i := 1) rfl)) (fun _ h9 => h9) rfl dX2_hasTenant_6 ?_
    refine z_icmp_ge (tgt := 16) hx hb ⟨by omega, by omega⟩ ⟨by omega, by omega⟩ dX2_hasTenant_9 (by decide) (fun c2 => ?_) (fun c2 => ?_)
    · refine lv_iconst (v := zI 0) hx hb dX2_hasTenant_16 rfl ?_
      exact zr_zret hx hb hr hlocks hQ (by first | (rw [if_pos (by omega)]) | (rw [if_neg (by omega)])) (by first | omega | (split <;> omega)) dX2_hasTenant_17
    · refine lv_iconst (v := zI 1) hx hb dX2_hasTenant_12 rfl ?_
      refine lv_goto (tgt := 17) hx hb dX2_hasTenant_13 (by decide) ?_
      exact zr_zret hx hb hr hlocks hQ (by first | (rw [if_pos (by omega)]) | (rw [if_neg (by omega)])) (by first | omega | (split <;> omega)) dX2_hasTenant_17
abbrev rm_X2_hasChair : Room := { frames := 0, cells := 0, slots := 0, locals := 0 }
set_option maxHeartbeats 4000000 in
set_option maxRecDepth 100000 in
theorem c_X2_hasChair (l : Launch) (D : va_G) (cy : Nat → ClassId) (h : Nat → Nat) (ro : Nat) (te : Nat) (ch : Nat) (pr : Nat → Int) (sl : Nat → Int) (mu : Nat → Int) (wi : Nat → Int) (ak : Nat → Int) (he : Nat → Nat) (li : Nat → Nat) (k0 : Int) (hc0 : inR k0) (hch : ch ≤ 5) : Met l yX2_hasChair wsX2_hasChair rm_X2_hasChair (pR D cy [((h 0), .inr (2, [.int (zI ((ro : Nat) : Int)), .int (zI ((te : Nat) : Int)), .int (zI ((ch : Nat) : Int)), .ref (h 1), .ref (h 2), .ref (h 3), .ref (h 4), .ref (h 5), .ref (h 6), .ref (h 7)])), ((h 1), .inl (cy 0, 6, .inl (zA pr))), ((h 2), .inl (cy 0, 6, .inl (zA sl))), ((h 3), .inl (cy 0, 6, .inl (zA mu))), ((h 4), .inl (cy 0, 6, .inl (zA wi))), ((h 5), .inl (cy 0, 6, .inl (zA ak))), ((h 6), .inl (cy 0, 6, .inl (zA (fun j => ((he j : Nat) : Int))))), ((h 7), .inl (cy 0, 5, .inl (zA (fun j => ((li j : Nat) : Int)))))] [.ref (h 0), .int (zI k0)]) (qR (if 0 ≤ k0 ∧ k0 < ((ch : Nat) : Int) then 1 else 0)) 0 0 (fun _ => False) := by
  refine met_R (cc := cX2_hasChair) (maxL := 2) (ret := (some .boolean)) RX2 (by decide) rfl rfl (Nat.le_of_ble_eq_true rfl) ?_
  intro p e s m args below meth c ls Q hx hb hr hml hts hown hlocks hQ hP hK hl
  have hl : lv_has ls 2 [(0, .ref (h 0)), (1, .int (zI k0))] := hl
  have hinX2 : ∀ w ∈ wsX20, w ∈ wsX2_hasChair := (fun w h => List.mem_cons_of_mem _ (List.mem_append_right _ h))
  refine lv_iload_n hx hb dX2_hasChair_0 rfl (lv_at hl 1 rfl) ?_
  refine z_if_lt (tgt := 16) hx hb ⟨by omega, by omega⟩ dX2_hasChair_1 (by decide) (fun c1 => ?_) (fun c1 => ?_)
  · refine lv_iconst (v := zI 0) hx hb dX2_hasChair_16 rfl ?_
    exact zr_zret hx hb hr hlocks hQ (by first | (rw [if_pos (by omega)]) | (rw [if_neg (by omega)])) (by first | omega | (split <;> omega)) dX2_hasChair_17
  · refine lv_iload_n hx hb dX2_hasChair_4 rfl (lv_at hl 1 rfl) ?_
    refine lv_aload_n hx hb dX2_hasChair_5 rfl (lv_at hl 0 rfl) ?_
    refine va_get (D := D) (ci := 2) (v := .int (zI ((ch : Nat) : Int))) (C := RX2) (T := TX2) (N := 10) hx hb hts hinX2 hown hK hP 0 rfl rfl 2 (by decide) (hts (.fieldLink RX2 40 "SilentRent$House" "chairs" "I") (List.mem_of_getElem? (i := 1) rfl)) (fun _ h9 => h9) rfl dX2_hasChair_6 ?_
    refine z_icmp_ge (tgt := 16) hx hb ⟨by omega, by omega⟩ ⟨by omega, by omega⟩ dX2_hasChair_9 (by decide) (fun c2 => ?_) (fun c2 => ?_)
    · refine lv_iconst (v := zI 0) hx hb dX2_hasChair_16 rfl ?_
      exact zr_zret hx hb hr hlocks hQ (by first | (rw [if_pos (by omega)]) | (rw [if_neg (by omega)])) (by first | omega | (split <;> omega)) dX2_hasChair_17
    · refine lv_iconst (v := zI 1) hx hb dX2_hasChair_12 rfl ?_
      refine lv_goto (tgt := 17) hx hb dX2_hasChair_13 (by decide) ?_
      exact zr_zret hx hb hr hlocks hQ (by first | (rw [if_pos (by omega)]) | (rw [if_neg (by omega)])) (by first | omega | (split <;> omega)) dX2_hasChair_17
abbrev rm_X2_everybody : Room := { frames := 0, cells := 0, slots := 0, locals := 0 }
set_option maxHeartbeats 4000000 in
set_option maxRecDepth 100000 in
theorem c_X2_everybody (l : Launch) (D : va_G) (cy : Nat → ClassId) (h : Nat → Nat) (ro : Nat) (te : Nat) (ch : Nat) (pr : Nat → Int) (sl : Nat → Int) (mu : Nat → Int) (wi : Nat → Int) (ak : Nat → Int) (he : Nat → Nat) (li : Nat → Nat) (hte : te ≤ 6) : Met l yX2_everybody wsX2_everybody rm_X2_everybody (pR D cy [((h 0), .inr (2, [.int (zI ((ro : Nat) : Int)), .int (zI ((te : Nat) : Int)), .int (zI ((ch : Nat) : Int)), .ref (h 1), .ref (h 2), .ref (h 3), .ref (h 4), .ref (h 5), .ref (h 6), .ref (h 7)])), ((h 1), .inl (cy 0, 6, .inl (zA pr))), ((h 2), .inl (cy 0, 6, .inl (zA sl))), ((h 3), .inl (cy 0, 6, .inl (zA mu))), ((h 4), .inl (cy 0, 6, .inl (zA wi))), ((h 5), .inl (cy 0, 6, .inl (zA ak))), ((h 6), .inl (cy 0, 6, .inl (zA (fun j => ((he j : Nat) : Int))))), ((h 7), .inl (cy 0, 5, .inl (zA (fun j => ((li j : Nat) : Int)))))] [.ref (h 0)]) (qR ((2 ^ te - 1 : Nat) : Int)) 0 0 (fun _ => False) := by
  refine met_R (cc := cX2_everybody) (maxL := 1) (ret := (some .int)) RX2 (by decide) rfl rfl (Nat.le_of_ble_eq_true rfl) ?_
  intro p e s m args below meth c ls Q hx hb hr hml hts hown hlocks hQ hP hK hl
  have hl : lv_has ls 1 [(0, .ref (h 0))] := hl
  have hinX2 : ∀ w ∈ wsX20, w ∈ wsX2_everybody := (fun w h => List.mem_cons_of_mem _ (List.mem_append_right _ h))
  refine lv_iconst (v := zI 1) hx hb dX2_everybody_0 rfl ?_
  refine lv_aload_n hx hb dX2_everybody_1 rfl (lv_at hl 0 rfl) ?_
  refine va_get (D := D) (ci := 2) (v := .int (zI ((te : Nat) : Int))) (C := RX2) (T := TX2) (N := 10) hx hb hts hinX2 hown hK hP 0 rfl rfl 1 (by decide) (hts (.fieldLink RX2 37 "SilentRent$House" "tenants" "I") (List.mem_of_getElem? (i := 1) rfl)) (fun _ h9 => h9) rfl dX2_everybody_2 ?_
  have hp1 := pow_le3 te (by omega)
  refine z_ishl (r := ((2 ^ te : Nat) : Int)) hx hb (zI_shl1 te (by omega)) dX2_everybody_5 ?_
  refine lv_iconst (v := zI 1) hx hb dX2_everybody_6 rfl ?_
  refine z_isub (r := (((2 ^ te : Nat) : Int) - 1)) hx hb rfl dX2_everybody_7 ?_
  exact zr_iret hx hb hr hlocks hQ (by omega) dX2_everybody_8
abbrev rm_X2_freeHours : Room := { frames := 0, cells := 0, slots := 0, locals := 0 }
set_option maxHeartbeats 4000000 in
set_option maxRecDepth 100000 in
theorem c_X2_freeHours (l : Launch) (D : va_G) (cy : Nat → ClassId) (h : Nat → Nat) (ro : Nat) (te : Nat) (ch : Nat) (pr : Nat → Int) (sl : Nat → Int) (mu : Nat → Int) (wi : Nat → Int) (ak : Nat → Int) (he : Nat → Nat) (li : Nat → Nat) (t : Int) (ht0 : 0 ≤ t ∧ t < 6) (hHB : HB pr sl mu wi ak he li) : Met l yX2_freeHours wsX2_freeHours rm_X2_freeHours (pR D cy [((h 0), .inr (2, [.int (zI ((ro : Nat) : Int)), .int (zI ((te : Nat) : Int)), .int (zI ((ch : Nat) : Int)), .ref (h 1), .ref (h 2), .ref (h 3), .ref (h 4), .ref (h 5), .ref (h 6), .ref (h 7)])), ((h 1), .inl (cy 0, 6, .inl (zA pr))), ((h 2), .inl (cy 0, 6, .inl (zA sl))), ((h 3), .inl (cy 0, 6, .inl (zA mu))), ((h 4), .inl (cy 0, 6, .inl (zA wi))), ((h 5), .inl (cy 0, 6, .inl (zA ak))), ((h 6), .inl (cy 0, 6, .inl (zA (fun j => ((he j : Nat) : Int))))), ((h 7), .inl (cy 0, 5, .inl (zA (fun j => ((li j : Nat) : Int)))))] [.ref (h 0), .int (zI t)]) (qR (24 - sl t.toNat)) 0 0 (fun _ => False) := by
  refine met_R (cc := cX2_freeHours) (maxL := 2) (ret := (some .int)) RX2 (by decide) rfl rfl (Nat.le_of_ble_eq_true rfl) ?_
  intro p e s m args below meth c ls Q hx hb hr hml hts hown hlocks hQ hP hK hl
  have hl : lv_has ls 2 [(0, .ref (h 0)), (1, .int (zI t))] := hl
  have hinX2 : ∀ w ∈ wsX20, w ∈ wsX2_freeHours := (fun w h => List.mem_cons_of_mem _ (List.mem_append_right _ h))
  refine lv_bipush (v := zI 24) hx hb dX2_freeHours_0 (by decide) ?_
  refine lv_aload_n hx hb dX2_freeHours_2 rfl (lv_at hl 0 rfl) ?_
  refine va_get (D := D) (ci := 2) (v := .ref (h 2)) (C := RX2) (T := TX2) (N := 10) hx hb hts hinX2 hown hK hP 0 rfl rfl 4 (by decide) (hts (.fieldLink RX2 15 "SilentRent$House" "sleep" "[I") (List.mem_of_getElem? (i := 1) rfl)) (fun _ h9 => h9) rfl dX2_freeHours_3 ?_
  refine lv_iload_n hx hb dX2_freeHours_6 rfl (lv_at hl 1 rfl) ?_
  refine z_iald hx hb hK hP 2 0 (f := sl) rfl rfl t.toNat (by omega) (by omega) (by decide) dX2_freeHours_7 ?_
  have hb1 := hHB.2.1 t.toNat
  refine z_isub (r := (24 - (sl t.toNat))) hx hb rfl dX2_freeHours_8 ?_
  exact zr_iret hx hb hr hlocks hQ (by omega) dX2_freeHours_9
abbrev rm_X2_keepsSilent : Room := { frames := 1, cells := 0, slots := 0, locals := 21 }
set_option maxHeartbeats 4000000 in
set_option maxRecDepth 100000 in
theorem c_X2_keepsSilent (l : Launch) (D : va_G) (cy : Nat → ClassId) (h : Nat → Nat) (ro : Nat) (te : Nat) (ch : Nat) (pr : Nat → Int) (sl : Nat → Int) (mu : Nat → Int) (wi : Nat → Int) (ak : Nat → Int) (he : Nat → Nat) (li : Nat → Nat) (t : Int) (ht0 : 0 ≤ t ∧ t < 6) (hHB : HB pr sl mu wi ak he li) : Met l yX2_keepsSilent wsX2_keepsSilent rm_X2_keepsSilent (pR D cy [((h 0), .inr (2, [.int (zI ((ro : Nat) : Int)), .int (zI ((te : Nat) : Int)), .int (zI ((ch : Nat) : Int)), .ref (h 1), .ref (h 2), .ref (h 3), .ref (h 4), .ref (h 5), .ref (h 6), .ref (h 7)])), ((h 1), .inl (cy 0, 6, .inl (zA pr))), ((h 2), .inl (cy 0, 6, .inl (zA sl))), ((h 3), .inl (cy 0, 6, .inl (zA mu))), ((h 4), .inl (cy 0, 6, .inl (zA wi))), ((h 5), .inl (cy 0, 6, .inl (zA ak))), ((h 6), .inl (cy 0, 6, .inl (zA (fun j => ((he j : Nat) : Int))))), ((h 7), .inl (cy 0, 5, .inl (zA (fun j => ((li j : Nat) : Int)))))] [.ref (h 0), .int (zI t)]) (qR (24 - sl t.toNat - mu t.toNat)) 0 0 (fun _ => False) := by
  refine met_R (cc := cX2_keepsSilent) (maxL := 2) (ret := (some .int)) RX2 (by decide) rfl rfl (Nat.le_of_ble_eq_true rfl) ?_
  intro p e s m args below meth c ls Q hx hb hr hml hts hown hlocks hQ hP hK hl
  have hl : lv_has ls 2 [(0, .ref (h 0)), (1, .int (zI t))] := hl
  have hinX2 : ∀ w ∈ wsX20, w ∈ wsX2_keepsSilent := (fun w h => List.mem_cons_of_mem _ (List.mem_append_right _ h))
  refine lv_aload_n hx hb dX2_keepsSilent_0 rfl (lv_at hl 0 rfl) ?_
  refine lv_iload_n hx hb dX2_keepsSilent_1 rfl (lv_at hl 1 rfl) ?_
  refine zr_callV (rest := []) (As := [.int (zI t)]) (v := (24 - sl t.toNat)) ⟨hx, hb, hml, hown, hts⟩ (c_X2_freeHours l D cy h ro te ch pr sl mu wi ak he li t (by omega) hHB) (cwV 1 hts gX2_keepsSilent_X2_freeHours rfl rfl rfl (by decide +kernel) ⟨Nat.le_of_ble_eq_true rfl, Nat.le_of_ble_eq_true rfl⟩) hK hP 0 2 rfl rfl rfl hl.1 rfl (Nat.le_of_ble_eq_true rfl) dX2_keepsSilent_2 ⟨Nat.zero_le _, Nat.zero_le _⟩ ?_
  refine lv_aload_n hx hb dX2_keepsSilent_5 rfl (lv_at hl 0 rfl) ?_
  refine va_get (D := D) (ci := 2) (v := .ref (h 3)) (C := RX2) (T := TX2) (N := 10) hx hb hts hinX2 hown hK hP 0 rfl rfl 5 (by decide) (hts (.fieldLink RX2 18 "SilentRent$House" "must" "[I") (List.mem_of_getElem? (i := 1) rfl)) (fun _ h9 => h9) rfl dX2_keepsSilent_6 ?_
  refine lv_iload_n hx hb dX2_keepsSilent_9 rfl (lv_at hl 1 rfl) ?_
  refine z_iald hx hb hK hP 3 0 (f := mu) rfl rfl t.toNat (by omega) (by omega) (by decide) dX2_keepsSilent_10 ?_
  have hb1 := hHB.2.2.1 t.toNat
  refine z_isub (r := ((24 - sl t.toNat) - (mu t.toNat))) hx hb rfl dX2_keepsSilent_11 ?_
  exact zr_iret hx hb hr hlocks hQ (by omega) dX2_keepsSilent_12
abbrev rm_X2_meets : Room := { frames := 2, cells := 0, slots := 0, locals := 42 }
set_option maxHeartbeats 4000000 in
set_option maxRecDepth 100000 in
theorem c_X2_meets (l : Launch) (D : va_G) (cy : Nat → ClassId) (h : Nat → Nat) (ro : Nat) (te : Nat) (ch : Nat) (pr : Nat → Int) (sl : Nat → Int) (mu : Nat → Int) (wi : Nat → Int) (ak : Nat → Int) (he : Nat → Nat) (li : Nat → Nat) (t : Int) (r : Int) (ht0 : 0 ≤ t ∧ t < 6) (hr0 : 0 ≤ r ∧ r < 6) (hHB : HB pr sl mu wi ak he li) : Met l yX2_meets wsX2_meets rm_X2_meets (pR D cy [((h 0), .inr (2, [.int (zI ((ro : Nat) : Int)), .int (zI ((te : Nat) : Int)), .int (zI ((ch : Nat) : Int)), .ref (h 1), .ref (h 2), .ref (h 3), .ref (h 4), .ref (h 5), .ref (h 6), .ref (h 7)])), ((h 1), .inl (cy 0, 6, .inl (zA pr))), ((h 2), .inl (cy 0, 6, .inl (zA sl))), ((h 3), .inl (cy 0, 6, .inl (zA mu))), ((h 4), .inl (cy 0, 6, .inl (zA wi))), ((h 5), .inl (cy 0, 6, .inl (zA ak))), ((h 6), .inl (cy 0, 6, .inl (zA (fun j => ((he j : Nat) : Int))))), ((h 7), .inl (cy 0, 5, .inl (zA (fun j => ((li j : Nat) : Int)))))] [.ref (h 0), .int (zI t), .int (zI r)]) (qR (if pr r.toNat ≤ 24 - sl t.toNat - mu t.toNat then 1 else 0)) 0 0 (fun _ => False) := by
  refine met_R (cc := cX2_meets) (maxL := 3) (ret := (some .boolean)) RX2 (by decide) rfl rfl (Nat.le_of_ble_eq_true rfl) ?_
  intro p e s m args below meth c ls Q hx hb hr hml hts hown hlocks hQ hP hK hl
  have hl : lv_has ls 3 [(0, .ref (h 0)), (1, .int (zI t)), (2, .int (zI r))] := hl
  have hinX2 : ∀ w ∈ wsX20, w ∈ wsX2_meets := (fun w h => List.mem_cons_of_mem _ (List.mem_append_right _ h))
  have hs9 := hHB.2.1 t.toNat
  have hm9 := hHB.2.2.1 t.toNat
  refine lv_aload_n hx hb dX2_meets_0 rfl (lv_at hl 0 rfl) ?_
  refine lv_iload_n hx hb dX2_meets_1 rfl (lv_at hl 1 rfl) ?_
  refine zr_callV (rest := []) (As := [.int (zI t)]) (v := (24 - sl t.toNat - mu t.toNat)) ⟨hx, hb, hml, hown, hts⟩ (c_X2_keepsSilent l D cy h ro te ch pr sl mu wi ak he li t (by omega) hHB) (cwV 1 hts gX2_meets_X2_keepsSilent rfl rfl rfl (by decide +kernel) ⟨Nat.le_of_ble_eq_true rfl, Nat.le_of_ble_eq_true rfl⟩) hK hP 0 2 rfl rfl rfl hl.1 rfl (Nat.le_of_ble_eq_true rfl) dX2_meets_2 ⟨Nat.zero_le _, Nat.zero_le _⟩ ?_
  refine lv_aload_n hx hb dX2_meets_5 rfl (lv_at hl 0 rfl) ?_
  refine va_get (D := D) (ci := 2) (v := .ref (h 1)) (C := RX2) (T := TX2) (N := 10) hx hb hts hinX2 hown hK hP 0 rfl rfl 3 (by decide) (hts (.fieldLink RX2 9 "SilentRent$House" "price" "[I") (List.mem_of_getElem? (i := 1) rfl)) (fun _ h9 => h9) rfl dX2_meets_6 ?_
  refine lv_iload_n hx hb dX2_meets_9 rfl (lv_at hl 2 rfl) ?_
  refine z_iald hx hb hK hP 1 0 (f := pr) rfl rfl r.toNat (by omega) (by omega) (by decide) dX2_meets_10 ?_
  have hb1 := hHB.1 r.toNat
  refine z_icmp_lt (tgt := 18) hx hb ⟨by omega, by omega⟩ ⟨by omega, by omega⟩ dX2_meets_11 (by decide) (fun c2 => ?_) (fun c2 => ?_)
  · refine lv_iconst (v := zI 0) hx hb dX2_meets_18 rfl ?_
    exact zr_zret hx hb hr hlocks hQ (by first | (rw [if_pos (by omega)]) | (rw [if_neg (by omega)])) (by first | omega | (split <;> omega)) dX2_meets_19
  · refine lv_iconst (v := zI 1) hx hb dX2_meets_14 rfl ?_
    refine lv_goto (tgt := 19) hx hb dX2_meets_15 (by decide) ?_
    exact zr_zret hx hb hr hlocks hQ (by first | (rw [if_pos (by omega)]) | (rw [if_neg (by omega)])) (by first | omega | (split <;> omega)) dX2_meets_19
abbrev rm_X2_whoMeets : Room := { frames := 3, cells := 0, slots := 0, locals := 64 }
set_option maxHeartbeats 4000000 in
set_option maxRecDepth 100000 in
theorem c_X2_whoMeets (l : Launch) (D : va_G) (cy : Nat → ClassId) (h : Nat → Nat) (ro : Nat) (te : Nat) (ch : Nat) (pr : Nat → Int) (sl : Nat → Int) (mu : Nat → Int) (wi : Nat → Int) (ak : Nat → Int) (he : Nat → Nat) (li : Nat → Nat) (r : Int) (hr0 : 0 ≤ r ∧ r < 6) (hte : te ≤ 6) (hHB : HB pr sl mu wi ak he li) : Met l yX2_whoMeets wsX2_whoMeets rm_X2_whoMeets (pR D cy [((h 0), .inr (2, [.int (zI ((ro : Nat) : Int)), .int (zI ((te : Nat) : Int)), .int (zI ((ch : Nat) : Int)), .ref (h 1), .ref (h 2), .ref (h 3), .ref (h 4), .ref (h 5), .ref (h 6), .ref (h 7)])), ((h 1), .inl (cy 0, 6, .inl (zA pr))), ((h 2), .inl (cy 0, 6, .inl (zA sl))), ((h 3), .inl (cy 0, 6, .inl (zA mu))), ((h 4), .inl (cy 0, 6, .inl (zA wi))), ((h 5), .inl (cy 0, 6, .inl (zA ak))), ((h 6), .inl (cy 0, 6, .inl (zA (fun j => ((he j : Nat) : Int))))), ((h 7), .inl (cy 0, 5, .inl (zA (fun j => ((li j : Nat) : Int)))))] [.ref (h 0), .int (zI r)]) (qR ((whm pr sl mu te r.toNat : Nat) : Int)) 0 0 (fun _ => False) := by
  refine met_R (cc := cX2_whoMeets) (maxL := 4) (ret := (some .int)) RX2 (by decide) rfl rfl (Nat.le_of_ble_eq_true rfl) ?_
  intro p e s m args below meth c ls Q hx hb hr hml hts hown hlocks hQ hP hK hl
  have hl : lv_has ls 4 [(0, .ref (h 0)), (1, .int (zI r))] := hl
  have hinX2 : ∀ w ∈ wsX20, w ∈ wsX2_whoMeets := (fun w h => List.mem_cons_of_mem _ (List.mem_append_right _ h))
  refine lv_iconst (v := zI 0) hx hb dX2_whoMeets_0 rfl ?_
  refine lv_istore_n (lv' := [(2, .int (zI 0)), (0, .ref (h 0)), (1, .int (zI r))]) hx hb dX2_whoMeets_1 rfl hl (by decide) rfl (fun ls hl => ?_)
  refine lv_iconst (v := zI 0) hx hb dX2_whoMeets_2 rfl ?_
  refine lv_istore_n (lv' := [(3, .int (zI 0)), (2, .int (zI 0)), (0, .ref (h 0)), (1, .int (zI r))]) hx hb dX2_whoMeets_3 rfl hl (by decide) rfl (fun ls hl => ?_)
  have loop4 : ∀ (n9 : Nat) (i : Nat), te - i < n9 → (i ≤ te) → ∀ (x4_2 : Int), x4_2 = ((bits (fun t => decide (pr r.toNat ≤ 24 - sl t - mu t)) i : Nat) : Int) → ∀ (x4_3 : Int), x4_3 = ((i : Nat) : Int) → ∀ ls : Array Slot, lv_has ls 4 [(0, .ref (h 0)), (1, .int (zI r)), (2, .int (zI x4_2)), (3, .int (zI x4_3))] → W p l e rm_X2_whoMeets s m args below meth c s.heap [] 0 0 Q (F0 m 4 ls []) := by
    intro n9
    induction n9 with
    | zero => intro i h9; exact absurd h9 (Nat.not_lt_zero _)
    | succ n9 ih4 =>
      intro i hmu4 hi x4_2 ex4_2 x4_3 ex4_3 ls hl
      subst ex4_2
      subst ex4_3
      have hl : lv_has ls 4 [(0, .ref (h 0)), (1, .int (zI r)), (2, .int (zI ((bits (fun t => decide (pr r.toNat ≤ 24 - sl t - mu t)) i : Nat) : Int))), (3, .int (zI ((i : Nat) : Int)))] := hl
      have hf1 := bits_lt64 (fun t => decide (pr r.toNat ≤ 24 - sl t - mu t)) i (by omega)
      refine lv_iload_n hx hb dX2_whoMeets_4 rfl (lv_at hl 3 rfl) ?_
      refine lv_aload_n hx hb dX2_whoMeets_5 rfl (lv_at hl 0 rfl) ?_
      refine va_get (D := D) (ci := 2) (v := .int (zI ((te : Nat) : Int))) (C := RX2) (T := TX2) (N := 10) hx hb hts hinX2 hown hK hP 0 rfl rfl 1 (by decide) (hts (.fieldLink RX2 37 "SilentRent$House" "tenants" "I") (List.mem_of_getElem? (i := 1) rfl)) (fun _ h9 => h9) rfl dX2_whoMeets_6 ?_
      refine z_icmp_ge (tgt := 33) hx hb ⟨by omega, by omega⟩ ⟨by omega, by omega⟩ dX2_whoMeets_9 (by decide) (fun c1 => ?_) (fun c1 => ?_)
      · have c1 : (te : Nat) ≤ (i : Nat) := by omega
        refine lv_iload_n hx hb dX2_whoMeets_33 rfl (lv_at hl 2 rfl) ?_
        exact zr_iret hx hb hr hlocks hQ (by rw [show i = te from by omega]; rfl) dX2_whoMeets_34
      · have c1 : ¬ ((te : Nat) ≤ (i : Nat)) := by omega
        refine lv_aload_n hx hb dX2_whoMeets_12 rfl (lv_at hl 0 rfl) ?_
        refine lv_iload_n hx hb dX2_whoMeets_13 rfl (lv_at hl 3 rfl) ?_
        refine lv_iload_n hx hb dX2_whoMeets_14 rfl (lv_at hl 1 rfl) ?_
        refine zr_callV (rest := []) (As := [.int (zI ((i : Nat) : Int)), .int (zI r)]) (v := (if pr r.toNat ≤ 24 - sl i - mu i then 1 else 0)) ⟨hx, hb, hml, hown, hts⟩ (c_X2_meets l D cy h ro te ch pr sl mu wi ak he li ((i : Nat) : Int) r (by omega) (by omega) hHB) (cwV 2 hts gX2_whoMeets_X2_meets rfl rfl rfl (by decide +kernel) ⟨Nat.le_of_ble_eq_true rfl, Nat.le_of_ble_eq_true rfl⟩) hK hP 0 2 rfl rfl rfl hl.1 rfl (Nat.le_of_ble_eq_true rfl) dX2_whoMeets_15 ⟨Nat.zero_le _, Nat.zero_le _⟩ ?_
        have J6 : ∀ (z5 : Nat), z5 = (if pr r.toNat ≤ 24 - sl i - mu i then ((bits (fun t => decide (pr r.toNat ≤ 24 - sl t - mu t)) i) ||| (2 ^ i)) else (bits (fun t => decide (pr r.toNat ≤ 24 - sl t - mu t)) i)) → ∀ ls : Array Slot, lv_has ls 4 [(0, .ref (h 0)), (1, .int (zI r)), (2, .int (zI ((z5 : Nat) : Int))), (3, .int (zI ((i : Nat) : Int)))] → W p l e rm_X2_whoMeets s m args below meth c s.heap [] 0 0 Q (F0 m 27 ls []) := by
          intro z5 ez5 ls hl
          subst ez5
          refine z_iinc (r := ((i + 1 : Nat) : Int)) (lv' := [(3, .int (zI ((i + 1 : Nat) : Int))), (0, .ref (h 0)), (1, .int (zI r)), (2, .int (zI (((if pr r.toNat ≤ 24 - sl i - mu i then ((bits (fun t => decide (pr r.toNat ≤ 24 - sl t - mu t)) i) ||| (2 ^ i)) else (bits (fun t => decide (pr r.toNat ≤ 24 - sl t - mu t)) i)) : Nat) : Int)))]) hx hb (by omega) dX2_whoMeets_27 hl (k := 3) rfl (by decide) rfl (fun ls hl => ?_)
          refine lv_goto (tgt := 4) hx hb dX2_whoMeets_30 (by decide) ?_
          exact ih4 (i + 1) (by omega) (by omega) (((if pr r.toNat ≤ 24 - sl i - mu i then ((bits (fun t => decide (pr r.toNat ≤ 24 - sl t - mu t)) i) ||| (2 ^ i)) else (bits (fun t => decide (pr r.toNat ≤ 24 - sl t - mu t)) i)) : Nat) : Int) (by simp only [bits, decide_eq_true_eq]) ((i + 1 : Nat) : Int) (by first | rfl | omega) ls (lv_sub hl [1, 2, 3, 0] rfl)
        refine z_if_eq (tgt := 27) hx hb bo_r dX2_whoMeets_18 (by decide) (fun c2 => ?_) (fun c2 => ?_)
        · have c2 := bo_f c2
          exact J6 (bits (fun t => decide (pr r.toNat ≤ 24 - sl t - mu t)) i) (by rw [if_neg c2]) ls (lv_sub hl [0, 1, 2, 3] rfl)
        · have c2 := bo_t c2
          refine lv_iload_n hx hb dX2_whoMeets_21 rfl (lv_at hl 2 rfl) ?_
          refine lv_iconst (v := zI 1) hx hb dX2_whoMeets_22 rfl ?_
          refine lv_iload_n hx hb dX2_whoMeets_23 rfl (lv_at hl 3 rfl) ?_
          have hp3 := pow_le3 i (by omega)
          refine z_ishl (r := ((2 ^ i : Nat) : Int)) hx hb (zI_shl1 i (by omega)) dX2_whoMeets_24 ?_
          have hq4 := or_lt64 (a := (bits (fun t => decide (pr r.toNat ≤ 24 - sl t - mu t)) i)) (b := (2 ^ i)) (by omega) (by omega)
          refine z_ior (r := (((bits (fun t => decide (pr r.toNat ≤ 24 - sl t - mu t)) i) ||| (2 ^ i) : Nat) : Int)) hx hb (zI_or (a := bits (fun t => decide (pr r.toNat ≤ 24 - sl t - mu t)) i) (b := 2 ^ i) (by omega) (by omega)) dX2_whoMeets_25 ?_
          refine lv_istore_n (lv' := [(2, .int (zI (((bits (fun t => decide (pr r.toNat ≤ 24 - sl t - mu t)) i) ||| (2 ^ i) : Nat) : Int))), (0, .ref (h 0)), (1, .int (zI r)), (3, .int (zI ((i : Nat) : Int)))]) hx hb dX2_whoMeets_26 rfl hl (by decide) rfl (fun ls hl => ?_)
          exact J6 ((bits (fun t => decide (pr r.toNat ≤ 24 - sl t - mu t)) i) ||| (2 ^ i)) (by rw [if_pos c2]) ls (lv_sub hl [1, 2, 0, 3] rfl)
  exact loop4 ((te - 0) + 1) 0 (by omega) (by omega) 0 (by first | rfl | omega | simp) 0 (by first | rfl | omega | simp) ls (lv_sub hl [2, 3, 1, 0] rfl)
abbrev rm_X2_roomsMetBy : Room := { frames := 4, cells := 0, slots := 0, locals := 87 }
set_option maxHeartbeats 4000000 in
set_option maxRecDepth 100000 in
theorem c_X2_roomsMetBy (l : Launch) (D : va_G) (cy : Nat → ClassId) (h : Nat → Nat) (ro : Nat) (te : Nat) (ch : Nat) (pr : Nat → Int) (sl : Nat → Int) (mu : Nat → Int) (wi : Nat → Int) (ak : Nat → Int) (he : Nat → Nat) (li : Nat → Nat) (set : Nat) (hset : set < 64) (hro : ro ≤ 6) (hte : te ≤ 6) (hHB : HB pr sl mu wi ak he li) : Met l yX2_roomsMetBy wsX2_roomsMetBy rm_X2_roomsMetBy (pR D cy [((h 0), .inr (2, [.int (zI ((ro : Nat) : Int)), .int (zI ((te : Nat) : Int)), .int (zI ((ch : Nat) : Int)), .ref (h 1), .ref (h 2), .ref (h 3), .ref (h 4), .ref (h 5), .ref (h 6), .ref (h 7)])), ((h 1), .inl (cy 0, 6, .inl (zA pr))), ((h 2), .inl (cy 0, 6, .inl (zA sl))), ((h 3), .inl (cy 0, 6, .inl (zA mu))), ((h 4), .inl (cy 0, 6, .inl (zA wi))), ((h 5), .inl (cy 0, 6, .inl (zA ak))), ((h 6), .inl (cy 0, 6, .inl (zA (fun j => ((he j : Nat) : Int))))), ((h 7), .inl (cy 0, 5, .inl (zA (fun j => ((li j : Nat) : Int)))))] [.ref (h 0), .int (zI ((set : Nat) : Int))]) (qR ((rmb pr sl mu te ro set : Nat) : Int)) 0 0 (fun _ => False) := by
  refine met_R (cc := cX2_roomsMetBy) (maxL := 4) (ret := (some .int)) RX2 (by decide) rfl rfl (Nat.le_of_ble_eq_true rfl) ?_
  intro p e s m args below meth c ls Q hx hb hr hml hts hown hlocks hQ hP hK hl
  have hl : lv_has ls 4 [(0, .ref (h 0)), (1, .int (zI ((set : Nat) : Int)))] := hl
  have hinX2 : ∀ w ∈ wsX20, w ∈ wsX2_roomsMetBy := (fun w h => List.mem_cons_of_mem _ (List.mem_append_right _ h))
  refine lv_iconst (v := zI 0) hx hb dX2_roomsMetBy_0 rfl ?_
  refine lv_istore_n (lv' := [(2, .int (zI 0)), (0, .ref (h 0)), (1, .int (zI ((set : Nat) : Int)))]) hx hb dX2_roomsMetBy_1 rfl hl (by decide) rfl (fun ls hl => ?_)
  refine lv_iconst (v := zI 0) hx hb dX2_roomsMetBy_2 rfl ?_
  refine lv_istore_n (lv' := [(3, .int (zI 0)), (2, .int (zI 0)), (0, .ref (h 0)), (1, .int (zI ((set : Nat) : Int)))]) hx hb dX2_roomsMetBy_3 rfl hl (by decide) rfl (fun ls hl => ?_)
  have loop4 : ∀ (n9 : Nat) (i : Nat), ro - i < n9 → (i ≤ ro) → ∀ (x4_2 : Int), x4_2 = ((bits (fun r => decide (¬ (whm pr sl mu te r &&& set) = 0)) i : Nat) : Int) → ∀ (x4_3 : Int), x4_3 = ((i : Nat) : Int) → ∀ ls : Array Slot, lv_has ls 4 [(0, .ref (h 0)), (1, .int (zI ((set : Nat) : Int))), (2, .int (zI x4_2)), (3, .int (zI x4_3))] → W p l e rm_X2_roomsMetBy s m args below meth c s.heap [] 0 0 Q (F0 m 4 ls []) := by
    intro n9
    induction n9 with
    | zero => intro i h9; exact absurd h9 (Nat.not_lt_zero _)
    | succ n9 ih4 =>
      intro i hmu4 hi x4_2 ex4_2 x4_3 ex4_3 ls hl
      subst ex4_2
      subst ex4_3
      have hl : lv_has ls 4 [(0, .ref (h 0)), (1, .int (zI ((set : Nat) : Int))), (2, .int (zI ((bits (fun r => decide (¬ (whm pr sl mu te r &&& set) = 0)) i : Nat) : Int))), (3, .int (zI ((i : Nat) : Int)))] := hl
      have hf1 := bits_lt64 (fun r => decide (¬ (whm pr sl mu te r &&& set) = 0)) i (by omega)
      have hf2 := whm_lt64 pr sl mu te i (by omega)
      refine lv_iload_n hx hb dX2_roomsMetBy_4 rfl (lv_at hl 3 rfl) ?_
      refine lv_aload_n hx hb dX2_roomsMetBy_5 rfl (lv_at hl 0 rfl) ?_
      refine va_get (D := D) (ci := 2) (v := .int (zI ((ro : Nat) : Int))) (C := RX2) (T := TX2) (N := 10) hx hb hts hinX2 hown hK hP 0 rfl rfl 0 (by decide) (hts (.fieldLink RX2 33 "SilentRent$House" "rooms" "I") (List.mem_of_getElem? (i := 1) rfl)) (fun _ h9 => h9) rfl dX2_roomsMetBy_6 ?_
      refine z_icmp_ge (tgt := 34) hx hb ⟨by omega, by omega⟩ ⟨by omega, by omega⟩ dX2_roomsMetBy_9 (by decide) (fun c1 => ?_) (fun c1 => ?_)
      · have c1 : (ro : Nat) ≤ (i : Nat) := by omega
        refine lv_iload_n hx hb dX2_roomsMetBy_34 rfl (lv_at hl 2 rfl) ?_
        exact zr_iret hx hb hr hlocks hQ (by rw [show i = ro from by omega]; rfl) dX2_roomsMetBy_35
      · have c1 : ¬ ((ro : Nat) ≤ (i : Nat)) := by omega
        refine lv_aload_n hx hb dX2_roomsMetBy_12 rfl (lv_at hl 0 rfl) ?_
        refine lv_iload_n hx hb dX2_roomsMetBy_13 rfl (lv_at hl 3 rfl) ?_
        refine zr_callV (rest := []) (As := [.int (zI ((i : Nat) : Int))]) (v := ((whm pr sl mu te i : Nat) : Int)) ⟨hx, hb, hml, hown, hts⟩ (c_X2_whoMeets l D cy h ro te ch pr sl mu wi ak he li ((i : Nat) : Int) (by omega) (by omega) hHB) (cwV 1 hts gX2_roomsMetBy_X2_whoMeets rfl rfl rfl (by decide +kernel) ⟨Nat.le_of_ble_eq_true rfl, Nat.le_of_ble_eq_true rfl⟩) hK hP 0 2 rfl rfl rfl hl.1 rfl (Nat.le_of_ble_eq_true rfl) dX2_roomsMetBy_14 ⟨Nat.zero_le _, Nat.zero_le _⟩ ?_
        refine lv_iload_n hx hb dX2_roomsMetBy_17 rfl (lv_at hl 1 rfl) ?_
        have hq2 : (whm pr sl mu te i) &&& set ≤ (whm pr sl mu te i) := Nat.and_le_left
        refine z_iand (r := (((whm pr sl mu te i) &&& set : Nat) : Int)) hx hb (zI_and (a := whm pr sl mu te i) (b := set) (by omega) (by omega)) dX2_roomsMetBy_18 ?_
        have J7 : ∀ (z6 : Nat), z6 = (if ((whm pr sl mu te i) &&& set : Nat) = (0 : Nat) then (bits (fun r => decide (¬ (whm pr sl mu te r &&& set) = 0)) i) else ((bits (fun r => decide (¬ (whm pr sl mu te r &&& set) = 0)) i) ||| (2 ^ i))) → ∀ ls : Array Slot, lv_has ls 4 [(0, .ref (h 0)), (1, .int (zI ((set : Nat) : Int))), (2, .int (zI ((z6 : Nat) : Int))), (3, .int (zI ((i : Nat) : Int)))] → W p l e rm_X2_roomsMetBy s m args below meth c s.heap [] 0 0 Q (F0 m 28 ls []) := by
          intro z6 ez6 ls hl
          subst ez6
          refine z_iinc (r := ((i + 1 : Nat) : Int)) (lv' := [(3, .int (zI ((i + 1 : Nat) : Int))), (0, .ref (h 0)), (1, .int (zI ((set : Nat) : Int))), (2, .int (zI (((if ((whm pr sl mu te i) &&& set : Nat) = (0 : Nat) then (bits (fun r => decide (¬ (whm pr sl mu te r &&& set) = 0)) i) else ((bits (fun r => decide (¬ (whm pr sl mu te r &&& set) = 0)) i) ||| (2 ^ i))) : Nat) : Int)))]) hx hb (by omega) dX2_roomsMetBy_28 hl (k := 3) rfl (by decide) rfl (fun ls hl => ?_)
          refine lv_goto (tgt := 4) hx hb dX2_roomsMetBy_31 (by decide) ?_
          exact ih4 (i + 1) (by omega) (by omega) (((if ((whm pr sl mu te i) &&& set : Nat) = (0 : Nat) then (bits (fun r => decide (¬ (whm pr sl mu te r &&& set) = 0)) i) else ((bits (fun r => decide (¬ (whm pr sl mu te r &&& set) = 0)) i) ||| (2 ^ i))) : Nat) : Int) (by (simp only [bits, decide_eq_true_eq]) <;> (repeat' split) <;> first | rfl | omega) ((i + 1 : Nat) : Int) (by first | rfl | omega) ls (lv_sub hl [1, 2, 3, 0] rfl)
        refine z_if_eq (tgt := 28) hx hb ⟨by omega, by omega⟩ dX2_roomsMetBy_19 (by decide) (fun c3 => ?_) (fun c3 => ?_)
        · have c3 : ((whm pr sl mu te i) &&& set : Nat) = (0 : Nat) := by omega
          exact J7 (bits (fun r => decide (¬ (whm pr sl mu te r &&& set) = 0)) i) (by rw [if_pos c3]) ls (lv_sub hl [0, 1, 2, 3] rfl)
        · have c3 : ¬ (((whm pr sl mu te i) &&& set : Nat) = (0 : Nat)) := by omega
          refine lv_iload_n hx hb dX2_roomsMetBy_22 rfl (lv_at hl 2 rfl) ?_
          refine lv_iconst (v := zI 1) hx hb dX2_roomsMetBy_23 rfl ?_
          refine lv_iload_n hx hb dX2_roomsMetBy_24 rfl (lv_at hl 3 rfl) ?_
          have hp4 := pow_le3 i (by omega)
          refine z_ishl (r := ((2 ^ i : Nat) : Int)) hx hb (zI_shl1 i (by omega)) dX2_roomsMetBy_25 ?_
          have hq5 := or_lt64 (a := (bits (fun r => decide (¬ (whm pr sl mu te r &&& set) = 0)) i)) (b := (2 ^ i)) (by omega) (by omega)
          refine z_ior (r := (((bits (fun r => decide (¬ (whm pr sl mu te r &&& set) = 0)) i) ||| (2 ^ i) : Nat) : Int)) hx hb (zI_or (a := bits (fun r => decide (¬ (whm pr sl mu te r &&& set) = 0)) i) (b := 2 ^ i) (by omega) (by omega)) dX2_roomsMetBy_26 ?_
          refine lv_istore_n (lv' := [(2, .int (zI (((bits (fun r => decide (¬ (whm pr sl mu te r &&& set) = 0)) i) ||| (2 ^ i) : Nat) : Int))), (0, .ref (h 0)), (1, .int (zI ((set : Nat) : Int))), (3, .int (zI ((i : Nat) : Int)))]) hx hb dX2_roomsMetBy_27 rfl hl (by decide) rfl (fun ls hl => ?_)
          exact J7 ((bits (fun r => decide (¬ (whm pr sl mu te r &&& set) = 0)) i) ||| (2 ^ i)) (by rw [if_neg c3]) ls (lv_sub hl [1, 2, 0, 3] rfl)
  exact loop4 ((ro - 0) + 1) 0 (by omega) (by omega) 0 (by first | rfl | omega | simp) 0 (by first | rfl | omega | simp) ls (lv_sub hl [2, 3, 1, 0] rfl)
abbrev rm_X2_hearers : Room := { frames := 0, cells := 0, slots := 0, locals := 0 }
set_option maxHeartbeats 4000000 in
set_option maxRecDepth 100000 in
theorem c_X2_hearers (l : Launch) (D : va_G) (cy : Nat → ClassId) (h : Nat → Nat) (ro : Nat) (te : Nat) (ch : Nat) (pr : Nat → Int) (sl : Nat → Int) (mu : Nat → Int) (wi : Nat → Int) (ak : Nat → Int) (he : Nat → Nat) (li : Nat → Nat) (tl : Nat) (htl : tl < 64) (hte : te ≤ 6) (hHB : HB pr sl mu wi ak he li) : Met l yX2_hearers wsX2_hearers rm_X2_hearers (pR D cy [((h 0), .inr (2, [.int (zI ((ro : Nat) : Int)), .int (zI ((te : Nat) : Int)), .int (zI ((ch : Nat) : Int)), .ref (h 1), .ref (h 2), .ref (h 3), .ref (h 4), .ref (h 5), .ref (h 6), .ref (h 7)])), ((h 1), .inl (cy 0, 6, .inl (zA pr))), ((h 2), .inl (cy 0, 6, .inl (zA sl))), ((h 3), .inl (cy 0, 6, .inl (zA mu))), ((h 4), .inl (cy 0, 6, .inl (zA wi))), ((h 5), .inl (cy 0, 6, .inl (zA ak))), ((h 6), .inl (cy 0, 6, .inl (zA (fun j => ((he j : Nat) : Int))))), ((h 7), .inl (cy 0, 5, .inl (zA (fun j => ((li j : Nat) : Int)))))] [.ref (h 0), .int (zI ((tl : Nat) : Int))]) (qR ((hrs he te tl : Nat) : Int)) 0 0 (fun _ => False) := by
  refine met_R (cc := cX2_hearers) (maxL := 4) (ret := (some .int)) RX2 (by decide) rfl rfl (Nat.le_of_ble_eq_true rfl) ?_
  intro p e s m args below meth c ls Q hx hb hr hml hts hown hlocks hQ hP hK hl
  have hl : lv_has ls 4 [(0, .ref (h 0)), (1, .int (zI ((tl : Nat) : Int)))] := hl
  have hinX2 : ∀ w ∈ wsX20, w ∈ wsX2_hearers := (fun w h => List.mem_cons_of_mem _ (List.mem_append_right _ h))
  refine lv_iconst (v := zI 0) hx hb dX2_hearers_0 rfl ?_
  refine lv_istore_n (lv' := [(2, .int (zI 0)), (0, .ref (h 0)), (1, .int (zI ((tl : Nat) : Int)))]) hx hb dX2_hearers_1 rfl hl (by decide) rfl (fun ls hl => ?_)
  refine lv_iconst (v := zI 0) hx hb dX2_hearers_2 rfl ?_
  refine lv_istore_n (lv' := [(3, .int (zI 0)), (2, .int (zI 0)), (0, .ref (h 0)), (1, .int (zI ((tl : Nat) : Int)))]) hx hb dX2_hearers_3 rfl hl (by decide) rfl (fun ls hl => ?_)
  have loop4 : ∀ (n9 : Nat) (i : Nat), te - i < n9 → (i ≤ te) → ∀ (x4_2 : Int), x4_2 = ((bits (fun t => decide (¬ (he t &&& tl) = 0)) i : Nat) : Int) → ∀ (x4_3 : Int), x4_3 = ((i : Nat) : Int) → ∀ ls : Array Slot, lv_has ls 4 [(0, .ref (h 0)), (1, .int (zI ((tl : Nat) : Int))), (2, .int (zI x4_2)), (3, .int (zI x4_3))] → W p l e rm_X2_hearers s m args below meth c s.heap [] 0 0 Q (F0 m 4 ls []) := by
    intro n9
    induction n9 with
    | zero => intro i h9; exact absurd h9 (Nat.not_lt_zero _)
    | succ n9 ih4 =>
      intro i hmu4 hi x4_2 ex4_2 x4_3 ex4_3 ls hl
      subst ex4_2
      subst ex4_3
      have hl : lv_has ls 4 [(0, .ref (h 0)), (1, .int (zI ((tl : Nat) : Int))), (2, .int (zI ((bits (fun t => decide (¬ (he t &&& tl) = 0)) i : Nat) : Int))), (3, .int (zI ((i : Nat) : Int)))] := hl
      have hf1 := bits_lt64 (fun t => decide (¬ (he t &&& tl) = 0)) i (by omega)
      refine lv_iload_n hx hb dX2_hearers_4 rfl (lv_at hl 3 rfl) ?_
      refine lv_aload_n hx hb dX2_hearers_5 rfl (lv_at hl 0 rfl) ?_
      refine va_get (D := D) (ci := 2) (v := .int (zI ((te : Nat) : Int))) (C := RX2) (T := TX2) (N := 10) hx hb hts hinX2 hown hK hP 0 rfl rfl 1 (by decide) (hts (.fieldLink RX2 37 "SilentRent$House" "tenants" "I") (List.mem_of_getElem? (i := 1) rfl)) (fun _ h9 => h9) rfl dX2_hearers_6 ?_
      refine z_icmp_ge (tgt := 35) hx hb ⟨by omega, by omega⟩ ⟨by omega, by omega⟩ dX2_hearers_9 (by decide) (fun c1 => ?_) (fun c1 => ?_)
      · have c1 : (te : Nat) ≤ (i : Nat) := by omega
        refine lv_iload_n hx hb dX2_hearers_35 rfl (lv_at hl 2 rfl) ?_
        exact zr_iret hx hb hr hlocks hQ (by rw [show i = te from by omega]; rfl) dX2_hearers_36
      · have c1 : ¬ ((te : Nat) ≤ (i : Nat)) := by omega
        refine lv_aload_n hx hb dX2_hearers_12 rfl (lv_at hl 0 rfl) ?_
        refine va_get (D := D) (ci := 2) (v := .ref (h 6)) (C := RX2) (T := TX2) (N := 10) hx hb hts hinX2 hown hK hP 0 rfl rfl 8 (by decide) (hts (.fieldLink RX2 27 "SilentRent$House" "hears" "[I") (List.mem_of_getElem? (i := 2) rfl)) (fun _ h9 => h9) rfl dX2_hearers_13 ?_
        refine lv_iload_n hx hb dX2_hearers_16 rfl (lv_at hl 3 rfl) ?_
        refine z_iald hx hb hK hP 6 0 (f := (fun j => ((he j : Nat) : Int))) rfl rfl i rfl (by omega) (by decide) dX2_hearers_17 ?_
        have hb2 := hHB.2.2.2.2.2.1 i
        refine lv_iload_n hx hb dX2_hearers_18 rfl (lv_at hl 1 rfl) ?_
        have hq3 : (he i) &&& tl ≤ (he i) := Nat.and_le_left
        refine z_iand (r := (((he i) &&& tl : Nat) : Int)) hx hb (zI_and (a := he i) (b := tl) (by omega) (by omega)) dX2_hearers_19 ?_
        have J8 : ∀ (z7 : Nat), z7 = (if ((he i) &&& tl : Nat) = (0 : Nat) then (bits (fun t => decide (¬ (he t &&& tl) = 0)) i) else ((bits (fun t => decide (¬ (he t &&& tl) = 0)) i) ||| (2 ^ i))) → ∀ ls : Array Slot, lv_has ls 4 [(0, .ref (h 0)), (1, .int (zI ((tl : Nat) : Int))), (2, .int (zI ((z7 : Nat) : Int))), (3, .int (zI ((i : Nat) : Int)))] → W p l e rm_X2_hearers s m args below meth c s.heap [] 0 0 Q (F0 m 29 ls []) := by
          intro z7 ez7 ls hl
          subst ez7
          refine z_iinc (r := ((i + 1 : Nat) : Int)) (lv' := [(3, .int (zI ((i + 1 : Nat) : Int))), (0, .ref (h 0)), (1, .int (zI ((tl : Nat) : Int))), (2, .int (zI (((if ((he i) &&& tl : Nat) = (0 : Nat) then (bits (fun t => decide (¬ (he t &&& tl) = 0)) i) else ((bits (fun t => decide (¬ (he t &&& tl) = 0)) i) ||| (2 ^ i))) : Nat) : Int)))]) hx hb (by omega) dX2_hearers_29 hl (k := 3) rfl (by decide) rfl (fun ls hl => ?_)
          refine lv_goto (tgt := 4) hx hb dX2_hearers_32 (by decide) ?_
          exact ih4 (i + 1) (by omega) (by omega) (((if ((he i) &&& tl : Nat) = (0 : Nat) then (bits (fun t => decide (¬ (he t &&& tl) = 0)) i) else ((bits (fun t => decide (¬ (he t &&& tl) = 0)) i) ||| (2 ^ i))) : Nat) : Int) (by (simp only [bits, decide_eq_true_eq]) <;> (repeat' split) <;> first | rfl | omega) ((i + 1 : Nat) : Int) (by first | rfl | omega) ls (lv_sub hl [1, 2, 3, 0] rfl)
        refine z_if_eq (tgt := 29) hx hb ⟨by omega, by omega⟩ dX2_hearers_20 (by decide) (fun c4 => ?_) (fun c4 => ?_)
        · have c4 : ((he i) &&& tl : Nat) = (0 : Nat) := by omega
          exact J8 (bits (fun t => decide (¬ (he t &&& tl) = 0)) i) (by rw [if_pos c4]) ls (lv_sub hl [0, 1, 2, 3] rfl)
        · have c4 : ¬ (((he i) &&& tl : Nat) = (0 : Nat)) := by omega
          refine lv_iload_n hx hb dX2_hearers_23 rfl (lv_at hl 2 rfl) ?_
          refine lv_iconst (v := zI 1) hx hb dX2_hearers_24 rfl ?_
          refine lv_iload_n hx hb dX2_hearers_25 rfl (lv_at hl 3 rfl) ?_
          have hp5 := pow_le3 i (by omega)
          refine z_ishl (r := ((2 ^ i : Nat) : Int)) hx hb (zI_shl1 i (by omega)) dX2_hearers_26 ?_
          have hq6 := or_lt64 (a := (bits (fun t => decide (¬ (he t &&& tl) = 0)) i)) (b := (2 ^ i)) (by omega) (by omega)
          refine z_ior (r := (((bits (fun t => decide (¬ (he t &&& tl) = 0)) i) ||| (2 ^ i) : Nat) : Int)) hx hb (zI_or (a := bits (fun t => decide (¬ (he t &&& tl) = 0)) i) (b := 2 ^ i) (by omega) (by omega)) dX2_hearers_27 ?_
          refine lv_istore_n (lv' := [(2, .int (zI (((bits (fun t => decide (¬ (he t &&& tl) = 0)) i) ||| (2 ^ i) : Nat) : Int))), (0, .ref (h 0)), (1, .int (zI ((tl : Nat) : Int))), (3, .int (zI ((i : Nat) : Int)))]) hx hb dX2_hearers_28 rfl hl (by decide) rfl (fun ls hl => ?_)
          exact J8 ((bits (fun t => decide (¬ (he t &&& tl) = 0)) i) ||| (2 ^ i)) (by rw [if_neg c4]) ls (lv_sub hl [1, 2, 0, 3] rfl)
  exact loop4 ((te - 0) + 1) 0 (by omega) (by omega) 0 (by first | rfl | omega | simp) 0 (by first | rfl | omega | simp) ls (lv_sub hl [2, 3, 1, 0] rfl)
abbrev rm_X2_seenFrom : Room := { frames := 0, cells := 0, slots := 0, locals := 0 }
set_option maxHeartbeats 4000000 in
set_option maxRecDepth 100000 in
theorem c_X2_seenFrom (l : Launch) (D : va_G) (cy : Nat → ClassId) (h : Nat → Nat) (ro : Nat) (te : Nat) (ch : Nat) (pr : Nat → Int) (sl : Nat → Int) (mu : Nat → Int) (wi : Nat → Int) (ak : Nat → Int) (he : Nat → Nat) (li : Nat → Nat) (set : Nat) (hset : set < 64) (hch : ch ≤ 5) (hHB : HB pr sl mu wi ak he li) : Met l yX2_seenFrom wsX2_seenFrom rm_X2_seenFrom (pR D cy [((h 0), .inr (2, [.int (zI ((ro : Nat) : Int)), .int (zI ((te : Nat) : Int)), .int (zI ((ch : Nat) : Int)), .ref (h 1), .ref (h 2), .ref (h 3), .ref (h 4), .ref (h 5), .ref (h 6), .ref (h 7)])), ((h 1), .inl (cy 0, 6, .inl (zA pr))), ((h 2), .inl (cy 0, 6, .inl (zA sl))), ((h 3), .inl (cy 0, 6, .inl (zA mu))), ((h 4), .inl (cy 0, 6, .inl (zA wi))), ((h 5), .inl (cy 0, 6, .inl (zA ak))), ((h 6), .inl (cy 0, 6, .inl (zA (fun j => ((he j : Nat) : Int))))), ((h 7), .inl (cy 0, 5, .inl (zA (fun j => ((li j : Nat) : Int)))))] [.ref (h 0), .int (zI ((set : Nat) : Int))]) (qR ((sef li ch set : Nat) : Int)) 0 0 (fun _ => False) := by
  refine met_R (cc := cX2_seenFrom) (maxL := 4) (ret := (some .int)) RX2 (by decide) rfl rfl (Nat.le_of_ble_eq_true rfl) ?_
  intro p e s m args below meth c ls Q hx hb hr hml hts hown hlocks hQ hP hK hl
  have hl : lv_has ls 4 [(0, .ref (h 0)), (1, .int (zI ((set : Nat) : Int)))] := hl
  have hinX2 : ∀ w ∈ wsX20, w ∈ wsX2_seenFrom := (fun w h => List.mem_cons_of_mem _ (List.mem_append_right _ h))
  refine lv_iconst (v := zI 0) hx hb dX2_seenFrom_0 rfl ?_
  refine lv_istore_n (lv' := [(2, .int (zI 0)), (0, .ref (h 0)), (1, .int (zI ((set : Nat) : Int)))]) hx hb dX2_seenFrom_1 rfl hl (by decide) rfl (fun ls hl => ?_)
  refine lv_iconst (v := zI 0) hx hb dX2_seenFrom_2 rfl ?_
  refine lv_istore_n (lv' := [(3, .int (zI 0)), (2, .int (zI 0)), (0, .ref (h 0)), (1, .int (zI ((set : Nat) : Int)))]) hx hb dX2_seenFrom_3 rfl hl (by decide) rfl (fun ls hl => ?_)
  have loop4 : ∀ (n9 : Nat) (i : Nat), ch - i < n9 → (i ≤ ch) → ∀ (x4_2 : Int), x4_2 = ((ors (fun c => if (set >>> c) &&& 1 = 0 then 0 else li c) i : Nat) : Int) → ∀ (x4_3 : Int), x4_3 = ((i : Nat) : Int) → ∀ ls : Array Slot, lv_has ls 4 [(0, .ref (h 0)), (1, .int (zI ((set : Nat) : Int))), (2, .int (zI x4_2)), (3, .int (zI x4_3))] → W p l e rm_X2_seenFrom s m args below meth c s.heap [] 0 0 Q (F0 m 4 ls []) := by
    intro n9
    induction n9 with
    | zero => intro i h9; exact absurd h9 (Nat.not_lt_zero _)
    | succ n9 ih4 =>
      intro i hmu4 hi x4_2 ex4_2 x4_3 ex4_3 ls hl
      subst ex4_2
      subst ex4_3
      have hl : lv_has ls 4 [(0, .ref (h 0)), (1, .int (zI ((set : Nat) : Int))), (2, .int (zI ((ors (fun c => if (set >>> c) &&& 1 = 0 then 0 else li c) i : Nat) : Int))), (3, .int (zI ((i : Nat) : Int)))] := hl
      have hf1 := ors_lt64 (fun c => if (set >>> c) &&& 1 = 0 then 0 else li c) (fun c => by have := hHB.2.2.2.2.2.2 c; split <;> omega) i
      refine lv_iload_n hx hb dX2_seenFrom_4 rfl (lv_at hl 3 rfl) ?_
      refine lv_aload_n hx hb dX2_seenFrom_5 rfl (lv_at hl 0 rfl) ?_
      refine va_get (D := D) (ci := 2) (v := .int (zI ((ch : Nat) : Int))) (C := RX2) (T := TX2) (N := 10) hx hb hts hinX2 hown hK hP 0 rfl rfl 2 (by decide) (hts (.fieldLink RX2 40 "SilentRent$House" "chairs" "I") (List.mem_of_getElem? (i := 1) rfl)) (fun _ h9 => h9) rfl dX2_seenFrom_6 ?_
      refine z_icmp_ge (tgt := 35) hx hb ⟨by omega, by omega⟩ ⟨by omega, by omega⟩ dX2_seenFrom_9 (by decide) (fun c1 => ?_) (fun c1 => ?_)
      · have c1 : (ch : Nat) ≤ (i : Nat) := by omega
        refine lv_iload_n hx hb dX2_seenFrom_35 rfl (lv_at hl 2 rfl) ?_
        exact zr_iret hx hb hr hlocks hQ (by rw [show i = ch from by omega]; rfl) dX2_seenFrom_36
      · have c1 : ¬ ((ch : Nat) ≤ (i : Nat)) := by omega
        refine lv_iload_n hx hb dX2_seenFrom_12 rfl (lv_at hl 1 rfl) ?_
        refine lv_iload_n hx hb dX2_seenFrom_13 rfl (lv_at hl 3 rfl) ?_
        have hs2 := shr_le set i
        refine z_ishr (r := ((set >>> i : Nat) : Int)) hx hb (zI_shr (a := set) (k := i) (by omega) (by omega)) dX2_seenFrom_14 ?_
        refine lv_iconst (v := zI 1) hx hb dX2_seenFrom_15 rfl ?_
        have hq3 : (set >>> i) &&& 1 ≤ (set >>> i) := Nat.and_le_left
        refine z_iand (r := (((set >>> i) &&& 1 : Nat) : Int)) hx hb (zI_and (a := set >>> i) (b := 1) (by omega) (by omega)) dX2_seenFrom_16 ?_
        have J8 : ∀ (z7 : Nat), z7 = (if ((set >>> i) &&& 1 : Nat) = (0 : Nat) then (ors (fun c => if (set >>> c) &&& 1 = 0 then 0 else li c) i) else ((ors (fun c => if (set >>> c) &&& 1 = 0 then 0 else li c) i) ||| (li i))) → ∀ ls : Array Slot, lv_has ls 4 [(0, .ref (h 0)), (1, .int (zI ((set : Nat) : Int))), (2, .int (zI ((z7 : Nat) : Int))), (3, .int (zI ((i : Nat) : Int)))] → W p l e rm_X2_seenFrom s m args below meth c s.heap [] 0 0 Q (F0 m 29 ls []) := by
          intro z7 ez7 ls hl
          subst ez7
          refine z_iinc (r := ((i + 1 : Nat) : Int)) (lv' := [(3, .int (zI ((i + 1 : Nat) : Int))), (0, .ref (h 0)), (1, .int (zI ((set : Nat) : Int))), (2, .int (zI (((if ((set >>> i) &&& 1 : Nat) = (0 : Nat) then (ors (fun c => if (set >>> c) &&& 1 = 0 then 0 else li c) i) else ((ors (fun c => if (set >>> c) &&& 1 = 0 then 0 else li c) i) ||| (li i))) : Nat) : Int)))]) hx hb (by omega) dX2_seenFrom_29 hl (k := 3) rfl (by decide) rfl (fun ls hl => ?_)
          refine lv_goto (tgt := 4) hx hb dX2_seenFrom_32 (by decide) ?_
          exact ih4 (i + 1) (by omega) (by omega) (((if ((set >>> i) &&& 1 : Nat) = (0 : Nat) then (ors (fun c => if (set >>> c) &&& 1 = 0 then 0 else li c) i) else ((ors (fun c => if (set >>> c) &&& 1 = 0 then 0 else li c) i) ||| (li i))) : Nat) : Int) (by simp only [ors]; (repeat' split) <;> first | rfl | omega | simp) ((i + 1 : Nat) : Int) (by first | rfl | omega) ls (lv_sub hl [1, 2, 3, 0] rfl)
        refine z_if_eq (tgt := 29) hx hb ⟨by omega, by omega⟩ dX2_seenFrom_17 (by decide) (fun c4 => ?_) (fun c4 => ?_)
        · have c4 : ((set >>> i) &&& 1 : Nat) = (0 : Nat) := by omega
          exact J8 (ors (fun c => if (set >>> c) &&& 1 = 0 then 0 else li c) i) (by rw [if_pos c4]) ls (lv_sub hl [0, 1, 2, 3] rfl)
        · have c4 : ¬ (((set >>> i) &&& 1 : Nat) = (0 : Nat)) := by omega
          refine lv_iload_n hx hb dX2_seenFrom_20 rfl (lv_at hl 2 rfl) ?_
          refine lv_aload_n hx hb dX2_seenFrom_21 rfl (lv_at hl 0 rfl) ?_
          refine va_get (D := D) (ci := 2) (v := .ref (h 7)) (C := RX2) (T := TX2) (N := 10) hx hb hts hinX2 hown hK hP 0 rfl rfl 9 (by decide) (hts (.fieldLink RX2 30 "SilentRent$House" "lips" "[I") (List.mem_of_getElem? (i := 2) rfl)) (fun _ h9 => h9) rfl dX2_seenFrom_22 ?_
          refine lv_iload_n hx hb dX2_seenFrom_25 rfl (lv_at hl 3 rfl) ?_
          refine z_iald hx hb hK hP 7 0 (f := (fun j => ((li j : Nat) : Int))) rfl rfl i rfl (by omega) (by decide) dX2_seenFrom_26 ?_
          have hb5 := hHB.2.2.2.2.2.2 i
          have hq6 := or_lt64 (a := (ors (fun c => if (set >>> c) &&& 1 = 0 then 0 else li c) i)) (b := (li i)) (by omega) (by omega)
          refine z_ior (r := (((ors (fun c => if (set >>> c) &&& 1 = 0 then 0 else li c) i) ||| (li i) : Nat) : Int)) hx hb (zI_or (a := ors (fun c => if (set >>> c) &&& 1 = 0 then 0 else li c) i) (b := li i) (by omega) (by omega)) dX2_seenFrom_27 ?_
          refine lv_istore_n (lv' := [(2, .int (zI (((ors (fun c => if (set >>> c) &&& 1 = 0 then 0 else li c) i) ||| (li i) : Nat) : Int))), (0, .ref (h 0)), (1, .int (zI ((set : Nat) : Int))), (3, .int (zI ((i : Nat) : Int)))]) hx hb dX2_seenFrom_28 rfl hl (by decide) rfl (fun ls hl => ?_)
          exact J8 ((ors (fun c => if (set >>> c) &&& 1 = 0 then 0 else li c) i) ||| (li i)) (by rw [if_neg c4]) ls (lv_sub hl [1, 2, 0, 3] rfl)
  exact loop4 ((ch - 0) + 1) 0 (by omega) (by omega) 0 (by first | rfl | omega | simp) 0 (by first | rfl | omega | simp) ls (lv_sub hl [2, 3, 1, 0] rfl)
