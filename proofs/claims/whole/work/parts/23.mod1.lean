/-! the model: its arrays read as the class's numbers -/
def enc (day : Int) (hm tk py db : Nat → Int) : Nat → Int := fun k => if k = 0 then day else if k % 4 = 1 then hm (k / 4) else if k % 4 = 2 then tk (k / 4) else if k % 4 = 3 then py (k / 4) else db (k / 4 - 1)
section EN
variable {day : Int} {hm tk py db : Nat → Int} {k : Nat} {v : Int}
theorem enc_0 : enc day hm tk py db 0 = day := rfl
theorem enc_1 : enc day hm tk py db (1 + 4 * k) = hm k := by
  unfold enc
  rw [if_neg (by omega), if_pos (by omega), show (1 + 4 * k) / 4 = k from by omega]
theorem enc_2 : enc day hm tk py db (2 + 4 * k) = tk k := by
  unfold enc
  rw [if_neg (by omega), if_neg (by omega), if_pos (by omega), show (2 + 4 * k) / 4 = k from by omega]
theorem enc_3 : enc day hm tk py db (3 + 4 * k) = py k := by
  unfold enc
  rw [if_neg (by omega), if_neg (by omega), if_neg (by omega), if_pos (by omega), show (3 + 4 * k) / 4 = k from by omega]
theorem enc_4 : enc day hm tk py db (4 + 4 * k) = db k := by
  unfold enc
  rw [if_neg (by omega), if_neg (by omega), if_neg (by omega), if_neg (by omega), show (4 + 4 * k) / 4 - 1 = k from by omega]
theorem enc_ext {f : Nat → Int} (h0 : f 0 = day) (h1 : ∀ k, f (1 + 4 * k) = hm k) (h2 : ∀ k, f (2 + 4 * k) = tk k) (h3 : ∀ k, f (3 + 4 * k) = py k) (h4 : ∀ k, f (4 + 4 * k) = db k) : f = enc day hm tk py db := by
  funext j
  by_cases e : j = 0
  · rw [e, h0]; rfl
  · rcases (show j % 4 = 1 ∨ j % 4 = 2 ∨ j % 4 = 3 ∨ j % 4 = 0 from by omega) with h | h | h | h
    · rw [show j = 1 + 4 * (j / 4) from by omega, h1, enc_1]
    · rw [show j = 2 + 4 * (j / 4) from by omega, h2, enc_2]
    · rw [show j = 3 + 4 * (j / 4) from by omega, h3, enc_3]
    · rw [show j = 4 + 4 * (j / 4 - 1) from by omega, h4, enc_4]
theorem enc_u0 : va_up (enc day hm tk py db) 0 v = enc v hm tk py db :=
  enc_ext (up_s _ _ _) (fun j => (up_n (by omega)).trans enc_1) (fun j => (up_n (by omega)).trans enc_2) (fun j => (up_n (by omega)).trans enc_3) (fun j => (up_n (by omega)).trans enc_4)
theorem up_at (f : Nat → Int) (k j : Nat) (v : Int) : va_up f k v j = if j = k then v else f j := rfl
theorem enc_u1 : va_up (enc day hm tk py db) (1 + 4 * k) v = enc day (va_up hm k v) tk py db :=
  enc_ext ((up_n (by omega)).trans enc_0) (fun j => by rw [up_at, up_at, enc_1]; by_cases h : j = k; (rw [if_pos h, if_pos (by omega)]); (rw [if_neg h, if_neg (by omega)])) (fun j => (up_n (by omega)).trans enc_2) (fun j => (up_n (by omega)).trans enc_3) (fun j => (up_n (by omega)).trans enc_4)
theorem enc_u2 : va_up (enc day hm tk py db) (2 + 4 * k) v = enc day hm (va_up tk k v) py db :=
  enc_ext ((up_n (by omega)).trans enc_0) (fun j => (up_n (by omega)).trans enc_1) (fun j => by rw [up_at, up_at, enc_2]; by_cases h : j = k; (rw [if_pos h, if_pos (by omega)]); (rw [if_neg h, if_neg (by omega)])) (fun j => (up_n (by omega)).trans enc_3) (fun j => (up_n (by omega)).trans enc_4)
theorem enc_u3 : va_up (enc day hm tk py db) (3 + 4 * k) v = enc day hm tk (va_up py k v) db :=
  enc_ext ((up_n (by omega)).trans enc_0) (fun j => (up_n (by omega)).trans enc_1) (fun j => (up_n (by omega)).trans enc_2) (fun j => by rw [up_at, up_at, enc_3]; by_cases h : j = k; (rw [if_pos h, if_pos (by omega)]); (rw [if_neg h, if_neg (by omega)])) (fun j => (up_n (by omega)).trans enc_4)
theorem enc_u4 : va_up (enc day hm tk py db) (4 + 4 * k) v = enc day hm tk py (va_up db k v) :=
  enc_ext ((up_n (by omega)).trans enc_0) (fun j => (up_n (by omega)).trans enc_1) (fun j => (up_n (by omega)).trans enc_2) (fun j => (up_n (by omega)).trans enc_3) (fun j => by rw [up_at, up_at, enc_4]; by_cases h : j = k; (rw [if_pos h, if_pos (by omega)]); (rw [if_neg h, if_neg (by omega)]))
end EN
/-- the model's house says what the class's says, below the counts -/
def HS (hs : Nat → Int) (ro te ch : Nat) (pr sl mu wi ak : Nat → Int) (he li : Nat → Nat) : Prop :=
  hs 0 = (ro : Int) ∧ hs 1 = (te : Int) ∧ hs 2 = (ch : Int) ∧ (∀ r, r < ro → hs (3 + r) = pr r) ∧ (∀ t, t < te → hs (9 + 5 * t) = sl t ∧ hs (9 + 5 * t + 1) = mu t ∧ hs (9 + 5 * t + 2) = wi t ∧ hs (9 + 5 * t + 3) = ak t ∧ hs (9 + 5 * t + 4) = ((he t : Nat) : Int)) ∧ (∀ c, c < ch → hs (39 + c) = ((li c : Nat) : Int))
/-- where they live: nobody beyond the tenants; no two in one room -/
def NI (hm : Nat → Int) (te : Nat) : Prop := (∀ t, te ≤ t → hm t = -9) ∧ (∀ t u, hm t = hm u → ¬ hm t = -9 → t = u)
abbrev rm_X9_in : Room := { frames := 0, cells := 0, slots := 0, locals := 0 }
set_option maxHeartbeats 4000000 in
set_option maxRecDepth 100000 in
theorem c_X9_in (l : Launch) (D : va_G) (cy : Nat → ClassId) (v0 : Int) (lo : Int) (hi0 : Int) (hv0 : -2147483648 ≤ v0 ∧ v0 < 2147483648) (hlo : -2147483648 ≤ lo ∧ lo < 2147483648) (hhi : -2147483649 ≤ hi0 ∧ hi0 < 2147483648) : Met l yX9_in wsX9_in rm_X9_in (pR D cy [] [.long (zL v0), .long (zL lo), .long (zL hi0)]) (qR (if lo ≤ v0 ∧ v0 ≤ hi0 then 1 else 0)) 0 0 (fun _ => False) := by
  refine met_R (cc := cX9_in) (maxL := 6) (ret := (some .boolean)) RX9 (by decide) rfl rfl (Nat.le_of_ble_eq_true rfl) ?_
  intro p e s m args below meth c ls Q hx hb hr hml hts hown hlocks hQ hP hK hl
  have hl : lv_has ls 6 [(0, .long (zL v0)), (2, .long (zL lo)), (4, .long (zL hi0))] := hl
  refine lv_lload_n hx hb dX9_in_0 rfl (lv_at hl 0 rfl) ?_
  refine lv_lload_n hx hb dX9_in_1 rfl (lv_at hl 1 rfl) ?_
  refine z_lcmp (a := v0) (b := lo) hx hb ⟨by omega, by omega⟩ ⟨by omega, by omega⟩ dX9_in_2 ?_
  refine z_if_lt (tgt := 17) hx hb (cmpI_r _ _) dX9_in_3 (by decide) (fun c1 => ?_) (fun c1 => ?_)
  · have hcc1 := cmpI_facts v0 lo
    have c1 : (v0 < lo) := by omega
    refine lv_iconst (v := zI 0) hx hb dX9_in_17 rfl ?_
    exact zr_zret hx hb hr hlocks hQ (by first | exact (if_pos (by omega)).symm | exact (if_neg (by omega)).symm) (by first | omega | (split <;> omega)) dX9_in_18
  · have hcc1 := cmpI_facts v0 lo
    have c1 : ¬ (v0 < lo) := by omega
    refine lv_lload_n hx hb dX9_in_6 rfl (lv_at hl 0 rfl) ?_
    refine lv_lload hx hb dX9_in_7 (lv_at hl 2 rfl) ?_
    refine z_lcmp (a := v0) (b := hi0) hx hb ⟨by omega, by omega⟩ ⟨by omega, by omega⟩ dX9_in_9 ?_
    refine z_if_gt (tgt := 17) hx hb (cmpI_r _ _) dX9_in_10 (by decide) (fun c2 => ?_) (fun c2 => ?_)
    · have hcc2 := cmpI_facts v0 hi0
      have c2 : (hi0 < v0) := by omega
      refine lv_iconst (v := zI 0) hx hb dX9_in_17 rfl ?_
      exact zr_zret hx hb hr hlocks hQ (by first | exact (if_pos (by omega)).symm | exact (if_neg (by omega)).symm) (by first | omega | (split <;> omega)) dX9_in_18
    · have hcc2 := cmpI_facts v0 hi0
      have c2 : ¬ (hi0 < v0) := by omega
      refine lv_iconst (v := zI 1) hx hb dX9_in_13 rfl ?_
      refine lv_goto (tgt := 18) hx hb dX9_in_14 (by decide) ?_
      exact zr_zret hx hb hr hlocks hQ (by first | exact (if_pos (by omega)).symm | exact (if_neg (by omega)).symm) (by first | omega | (split <;> omega)) dX9_in_18
abbrev rm_X9_isRoom : Room := { frames := 1, cells := 0, slots := 0, locals := 25 }
set_option maxHeartbeats 4000000 in
set_option maxRecDepth 100000 in
theorem c_X9_isRoom (l : Launch) (D : va_G) (cy : Nat → ClassId) (ma : Nat → Nat) (xt : Nat → Int) (xl : Nat) (at0 : Nat) (bg : Nat) (tk0 : Int) (td : Int) (rd : Nat → Int) (hs : Nat → Int) (day : Int) (hm : Nat → Int) (tk : Nat → Int) (py : Nat → Int) (db : Nat → Int) (un : Nat → Int) (ud : Nat) (rs : Nat → Int) (be : Int) (bp : Int) (gp : Nat → Int) (ln : Nat) (wh : Nat → Nat) (lk : Nat → Int) (wa : Int) (so : Nat → Nat) (tr : Int) (kp : Nat → Int) (r : Int) (ro : Nat) (te : Nat) (ch : Nat) (pr : Nat → Int) (sl : Nat → Int) (mu : Nat → Int) (wi : Nat → Int) (ak : Nat → Int) (he : Nat → Nat) (li : Nat → Nat) (hr0 : inR r) (hro : ro ≤ 6) (hte : te ≤ 6) (hch : ch ≤ 5) (hHB : HB pr sl mu wi ak he li) (hHS : HS hs ro te ch pr sl mu wi ak he li) : Met l yX9_isRoom wsX9_isRoom rm_X9_isRoom (pR D cy [((ma 0), .inr (9, [.ref (ma 1), .int (zI ((xl : Nat) : Int)), .int (zI ((at0 : Nat) : Int)), .int (zI ((bg : Nat) : Int)), .int (zI tk0), .int (zI td), .ref (ma 2), .ref (ma 3), .ref (ma 4), .ref (ma 5), .int (zI ((ud : Nat) : Int)), .ref (ma 6), .int (zI be), .int (zI bp), .ref (ma 7), .int (zI ((ln : Nat) : Int)), .ref (ma 8), .ref (ma 9), .int (zI wa), .ref (ma 10), .long (zL tr), .ref (ma 11)])), ((ma 1), .inl (cy 0, 200, .inl (zA xt))), ((ma 2), .inl (cy 0, 44, .inl (zA rd))), ((ma 3), .inl (cy 0, 44, .inl (zA hs))), ((ma 4), .inl (cy 0, 25, .inl (zA (enc day hm tk py db)))), ((ma 5), .inl (cy 0, 250, .inl (zA un))), ((ma 6), .inl (cy 0, 6, .inl (zA rs))), ((ma 7), .inl (cy 0, 64, .inl (zA gp))), ((ma 8), .inl (cy 0, 6, .inl (zA (fun j => ((wh j : Nat) : Int))))), ((ma 9), .inl (cy 0, 6, .inl (zA lk))), ((ma 10), .inl (cy 0, 6, .inl (zA (fun j => ((so j : Nat) : Int))))), ((ma 11), .inl (cy 0, 554, .inl (zA kp)))] [.ref (ma 0), .int (zI r)]) (qR (if 0 ≤ r ∧ r ≤ ((ro : Nat) : Int) - 1 then 1 else 0)) 0 0 (fun _ => False) := by
  refine met_R (cc := cX9_isRoom) (maxL := 2) (ret := (some .boolean)) RX9 (by decide) rfl rfl (Nat.le_of_ble_eq_true rfl) ?_
  intro p e s m args below meth c ls Q hx hb hr hml hts hown hlocks hQ hP hK hl
  have hl : lv_has ls 2 [(0, .ref (ma 0)), (1, .int (zI r))] := hl
  have hinX9 : ∀ w ∈ wsX90, w ∈ wsX9_isRoom := (fun w h => List.mem_cons_of_mem _ (List.mem_append_right _ h))
  refine lv_iload_n hx hb dX9_isRoom_0 rfl (lv_at hl 1 rfl) ?_
  refine z_i2l hx hb ⟨by omega, by omega⟩ dX9_isRoom_1 ?_
  refine lv_lconst (v := zL 0) hx hb dX9_isRoom_2 rfl ?_
  refine lv_aload_n hx hb dX9_isRoom_3 rfl (lv_at hl 0 rfl) ?_
  refine va_get (D := D) (ci := 9) (v := .ref (ma 3)) (C := RX9) (T := TX9) (N := 22) hx hb hts hinX9 hown hK hP 0 rfl rfl 7 (by decide) (hts (.fieldLink RX9 16 "SilentRentModel" "house" "[I") (List.mem_of_getElem? (i := 1) rfl)) (fun _ h9 => h9) rfl dX9_isRoom_4 ?_
  refine lv_iconst (v := zI 0) hx hb dX9_isRoom_7 rfl ?_
  refine z_iald2 hx hb hK hP 3 0 (f := hs) (v := ((ro : Nat) : Int)) rfl rfl 0 (by omega) (by omega) (by decide) (hHS.1) dX9_isRoom_8 ?_
  refine lv_iconst (v := zI 1) hx hb dX9_isRoom_9 rfl ?_
  refine z_isub (r := (((ro : Nat) : Int) - 1)) hx hb rfl dX9_isRoom_10 ?_
  refine z_i2l hx hb ⟨by omega, by omega⟩ dX9_isRoom_11 ?_
  have hPc1 := hP.sub (ws' := []) [] rfl
  refine zr_callS (rest := []) (As := [.long (zL r), .long (zL 0), .long (zL (((ro : Nat) : Int) - 1))]) (v := (if 0 ≤ r ∧ r ≤ (((ro : Nat) : Int) - 1) then 1 else 0)) (wd := []) ⟨hx, hb, hml, hown, hts⟩ (c_X9_in l D cy r 0 (((ro : Nat) : Int) - 1) (by omega) (by omega) (by omega)) (va_cwS 3 hts gX9_isRoom_X9_in rfl rfl rfl (by decide +kernel) ⟨Nat.le_of_ble_eq_true rfl, Nat.le_of_ble_eq_true rfl⟩) hK (fun k q h => by cases h) rfl hl.1 rfl (Nat.le_of_ble_eq_true rfl) dX9_isRoom_12 ⟨Nat.zero_le _, Nat.zero_le _⟩ ?_
  exact zr_zret hx hb hr hlocks hQ (by omega) (by first | omega | (split <;> omega)) dX9_isRoom_15
abbrev rm_X9_isTenant : Room := { frames := 1, cells := 0, slots := 0, locals := 25 }
set_option maxHeartbeats 4000000 in
set_option maxRecDepth 100000 in
theorem c_X9_isTenant (l : Launch) (D : va_G) (cy : Nat → ClassId) (ma : Nat → Nat) (xt : Nat → Int) (xl : Nat) (at0 : Nat) (bg : Nat) (tk0 : Int) (td : Int) (rd : Nat → Int) (hs : Nat → Int) (day : Int) (hm : Nat → Int) (tk : Nat → Int) (py : Nat → Int) (db : Nat → Int) (un : Nat → Int) (ud : Nat) (rs : Nat → Int) (be : Int) (bp : Int) (gp : Nat → Int) (ln : Nat) (wh : Nat → Nat) (lk : Nat → Int) (wa : Int) (so : Nat → Nat) (tr : Int) (kp : Nat → Int) (t : Int) (ro : Nat) (te : Nat) (ch : Nat) (pr : Nat → Int) (sl : Nat → Int) (mu : Nat → Int) (wi : Nat → Int) (ak : Nat → Int) (he : Nat → Nat) (li : Nat → Nat) (ht0 : inR t) (hro : ro ≤ 6) (hte : te ≤ 6) (hch : ch ≤ 5) (hHB : HB pr sl mu wi ak he li) (hHS : HS hs ro te ch pr sl mu wi ak he li) : Met l yX9_isTenant wsX9_isTenant rm_X9_isTenant (pR D cy [((ma 0), .inr (9, [.ref (ma 1), .int (zI ((xl : Nat) : Int)), .int (zI ((at0 : Nat) : Int)), .int (zI ((bg : Nat) : Int)), .int (zI tk0), .int (zI td), .ref (ma 2), .ref (ma 3), .ref (ma 4), .ref (ma 5), .int (zI ((ud : Nat) : Int)), .ref (ma 6), .int (zI be), .int (zI bp), .ref (ma 7), .int (zI ((ln : Nat) : Int)), .ref (ma 8), .ref (ma 9), .int (zI wa), .ref (ma 10), .long (zL tr), .ref (ma 11)])), ((ma 1), .inl (cy 0, 200, .inl (zA xt))), ((ma 2), .inl (cy 0, 44, .inl (zA rd))), ((ma 3), .inl (cy 0, 44, .inl (zA hs))), ((ma 4), .inl (cy 0, 25, .inl (zA (enc day hm tk py db)))), ((ma 5), .inl (cy 0, 250, .inl (zA un))), ((ma 6), .inl (cy 0, 6, .inl (zA rs))), ((ma 7), .inl (cy 0, 64, .inl (zA gp))), ((ma 8), .inl (cy 0, 6, .inl (zA (fun j => ((wh j : Nat) : Int))))), ((ma 9), .inl (cy 0, 6, .inl (zA lk))), ((ma 10), .inl (cy 0, 6, .inl (zA (fun j => ((so j : Nat) : Int))))), ((ma 11), .inl (cy 0, 554, .inl (zA kp)))] [.ref (ma 0), .int (zI t)]) (qR (if 0 ≤ t ∧ t ≤ ((te : Nat) : Int) - 1 then 1 else 0)) 0 0 (fun _ => False) := by
  refine met_R (cc := cX9_isTenant) (maxL := 2) (ret := (some .boolean)) RX9 (by decide) rfl rfl (Nat.le_of_ble_eq_true rfl) ?_
  intro p e s m args below meth c ls Q hx hb hr hml hts hown hlocks hQ hP hK hl
  have hl : lv_has ls 2 [(0, .ref (ma 0)), (1, .int (zI t))] := hl
  have hinX9 : ∀ w ∈ wsX90, w ∈ wsX9_isTenant := (fun w h => List.mem_cons_of_mem _ (List.mem_append_right _ h))
  refine lv_iload_n hx hb dX9_isTenant_0 rfl (lv_at hl 1 rfl) ?_
  refine z_i2l hx hb ⟨by omega, by omega⟩ dX9_isTenant_1 ?_
  refine lv_lconst (v := zL 0) hx hb dX9_isTenant_2 rfl ?_
  refine lv_aload_n hx hb dX9_isTenant_3 rfl (lv_at hl 0 rfl) ?_
  refine va_get (D := D) (ci := 9) (v := .ref (ma 3)) (C := RX9) (T := TX9) (N := 22) hx hb hts hinX9 hown hK hP 0 rfl rfl 7 (by decide) (hts (.fieldLink RX9 16 "SilentRentModel" "house" "[I") (List.mem_of_getElem? (i := 1) rfl)) (fun _ h9 => h9) rfl dX9_isTenant_4 ?_
  refine lv_iconst (v := zI 1) hx hb dX9_isTenant_7 rfl ?_
  refine z_iald2 hx hb hK hP 3 0 (f := hs) (v := ((te : Nat) : Int)) rfl rfl 1 (by omega) (by omega) (by decide) (hHS.2.1) dX9_isTenant_8 ?_
  refine lv_iconst (v := zI 1) hx hb dX9_isTenant_9 rfl ?_
  refine z_isub (r := (((te : Nat) : Int) - 1)) hx hb rfl dX9_isTenant_10 ?_
  refine z_i2l hx hb ⟨by omega, by omega⟩ dX9_isTenant_11 ?_
  have hPc1 := hP.sub (ws' := []) [] rfl
  refine zr_callS (rest := []) (As := [.long (zL t), .long (zL 0), .long (zL (((te : Nat) : Int) - 1))]) (v := (if 0 ≤ t ∧ t ≤ (((te : Nat) : Int) - 1) then 1 else 0)) (wd := []) ⟨hx, hb, hml, hown, hts⟩ (c_X9_in l D cy t 0 (((te : Nat) : Int) - 1) (by omega) (by omega) (by omega)) (va_cwS 3 hts gX9_isTenant_X9_in rfl rfl rfl (by decide +kernel) ⟨Nat.le_of_ble_eq_true rfl, Nat.le_of_ble_eq_true rfl⟩) hK (fun k q h => by cases h) rfl hl.1 rfl (Nat.le_of_ble_eq_true rfl) dX9_isTenant_12 ⟨Nat.zero_le _, Nat.zero_le _⟩ ?_
  exact zr_zret hx hb hr hlocks hQ (by omega) (by first | omega | (split <;> omega)) dX9_isTenant_15
abbrev rm_X9_roomOf : Room := { frames := 0, cells := 0, slots := 0, locals := 0 }
set_option maxHeartbeats 4000000 in
set_option maxRecDepth 100000 in
theorem c_X9_roomOf (l : Launch) (D : va_G) (cy : Nat → ClassId) (ma : Nat → Nat) (xt : Nat → Int) (xl : Nat) (at0 : Nat) (bg : Nat) (tk0 : Int) (td : Int) (rd : Nat → Int) (hs : Nat → Int) (day : Int) (hm : Nat → Int) (tk : Nat → Int) (py : Nat → Int) (db : Nat → Int) (un : Nat → Int) (ud : Nat) (rs : Nat → Int) (be : Int) (bp : Int) (gp : Nat → Int) (ln : Nat) (wh : Nat → Nat) (lk : Nat → Int) (wa : Int) (so : Nat → Nat) (tr : Int) (kp : Nat → Int) (t : Int) (ro : Nat) (te : Nat) (ch : Nat) (pr : Nat → Int) (sl : Nat → Int) (mu : Nat → Int) (wi : Nat → Int) (ak : Nat → Int) (he : Nat → Nat) (li : Nat → Nat) (ht0 : 0 ≤ t ∧ t < (te : Int)) (hro : ro ≤ 6) (hte : te ≤ 6) (hch : ch ≤ 5) (hHB : HB pr sl mu wi ak he li) (hHS : HS hs ro te ch pr sl mu wi ak he li) (hNB : NB hm tk py db) : Met l yX9_roomOf wsX9_roomOf rm_X9_roomOf (pR D cy [((ma 0), .inr (9, [.ref (ma 1), .int (zI ((xl : Nat) : Int)), .int (zI ((at0 : Nat) : Int)), .int (zI ((bg : Nat) : Int)), .int (zI tk0), .int (zI td), .ref (ma 2), .ref (ma 3), .ref (ma 4), .ref (ma 5), .int (zI ((ud : Nat) : Int)), .ref (ma 6), .int (zI be), .int (zI bp), .ref (ma 7), .int (zI ((ln : Nat) : Int)), .ref (ma 8), .ref (ma 9), .int (zI wa), .ref (ma 10), .long (zL tr), .ref (ma 11)])), ((ma 1), .inl (cy 0, 200, .inl (zA xt))), ((ma 2), .inl (cy 0, 44, .inl (zA rd))), ((ma 3), .inl (cy 0, 44, .inl (zA hs))), ((ma 4), .inl (cy 0, 25, .inl (zA (enc day hm tk py db)))), ((ma 5), .inl (cy 0, 250, .inl (zA un))), ((ma 6), .inl (cy 0, 6, .inl (zA rs))), ((ma 7), .inl (cy 0, 64, .inl (zA gp))), ((ma 8), .inl (cy 0, 6, .inl (zA (fun j => ((wh j : Nat) : Int))))), ((ma 9), .inl (cy 0, 6, .inl (zA lk))), ((ma 10), .inl (cy 0, 6, .inl (zA (fun j => ((so j : Nat) : Int))))), ((ma 11), .inl (cy 0, 554, .inl (zA kp)))] [.ref (ma 0), .int (zI t)]) (qR (hm t.toNat)) 0 0 (fun _ => False) := by
  refine met_R (cc := cX9_roomOf) (maxL := 2) (ret := (some .int)) RX9 (by decide) rfl rfl (Nat.le_of_ble_eq_true rfl) ?_
  intro p e s m args below meth c ls Q hx hb hr hml hts hown hlocks hQ hP hK hl
  have hl : lv_has ls 2 [(0, .ref (ma 0)), (1, .int (zI t))] := hl
  have hinX9 : ∀ w ∈ wsX90, w ∈ wsX9_roomOf := (fun w h => List.mem_cons_of_mem _ (List.mem_append_right _ h))
  refine lv_aload_n hx hb dX9_roomOf_0 rfl (lv_at hl 0 rfl) ?_
  refine va_get (D := D) (ci := 9) (v := .ref (ma 4)) (C := RX9) (T := TX9) (N := 22) hx hb hts hinX9 hown hK hP 0 rfl rfl 8 (by decide) (hts (.fieldLink RX9 19 "SilentRentModel" "now" "[I") (List.mem_of_getElem? (i := 1) rfl)) (fun _ h9 => h9) rfl dX9_roomOf_1 ?_
  refine lv_iconst (v := zI 1) hx hb dX9_roomOf_4 rfl ?_
  refine lv_iconst (v := zI 4) hx hb dX9_roomOf_5 rfl ?_
  refine lv_iload_n hx hb dX9_roomOf_6 rfl (lv_at hl 1 rfl) ?_
  refine z_imul (r := (4 * t)) hx hb rfl dX9_roomOf_7 ?_
  refine z_iadd (r := (1 + (4 * t))) hx hb rfl dX9_roomOf_8 ?_
  refine z_iald2 hx hb hK hP 4 0 (f := (enc day hm tk py db)) (v := (hm t.toNat)) rfl rfl (1 + 4 * t.toNat) (by omega) (by omega) (by decide) (enc_1) dX9_roomOf_9 ?_
  have hb1 := hNB.1 t.toNat
  exact zr_iret hx hb hr hlocks hQ (by omega) dX9_roomOf_10
abbrev rm_X9_debt : Room := { frames := 0, cells := 0, slots := 0, locals := 0 }
set_option maxHeartbeats 4000000 in
set_option maxRecDepth 100000 in
theorem c_X9_debt (l : Launch) (D : va_G) (cy : Nat → ClassId) (ma : Nat → Nat) (xt : Nat → Int) (xl : Nat) (at0 : Nat) (bg : Nat) (tk0 : Int) (td : Int) (rd : Nat → Int) (hs : Nat → Int) (day : Int) (hm : Nat → Int) (tk : Nat → Int) (py : Nat → Int) (db : Nat → Int) (un : Nat → Int) (ud : Nat) (rs : Nat → Int) (be : Int) (bp : Int) (gp : Nat → Int) (ln : Nat) (wh : Nat → Nat) (lk : Nat → Int) (wa : Int) (so : Nat → Nat) (tr : Int) (kp : Nat → Int) (t : Int) (ro : Nat) (te : Nat) (ch : Nat) (pr : Nat → Int) (sl : Nat → Int) (mu : Nat → Int) (wi : Nat → Int) (ak : Nat → Int) (he : Nat → Nat) (li : Nat → Nat) (ht0 : 0 ≤ t ∧ t < (te : Int)) (hro : ro ≤ 6) (hte : te ≤ 6) (hch : ch ≤ 5) (hHB : HB pr sl mu wi ak he li) (hHS : HS hs ro te ch pr sl mu wi ak he li) (hNB : NB hm tk py db) : Met l yX9_debt wsX9_debt rm_X9_debt (pR D cy [((ma 0), .inr (9, [.ref (ma 1), .int (zI ((xl : Nat) : Int)), .int (zI ((at0 : Nat) : Int)), .int (zI ((bg : Nat) : Int)), .int (zI tk0), .int (zI td), .ref (ma 2), .ref (ma 3), .ref (ma 4), .ref (ma 5), .int (zI ((ud : Nat) : Int)), .ref (ma 6), .int (zI be), .int (zI bp), .ref (ma 7), .int (zI ((ln : Nat) : Int)), .ref (ma 8), .ref (ma 9), .int (zI wa), .ref (ma 10), .long (zL tr), .ref (ma 11)])), ((ma 1), .inl (cy 0, 200, .inl (zA xt))), ((ma 2), .inl (cy 0, 44, .inl (zA rd))), ((ma 3), .inl (cy 0, 44, .inl (zA hs))), ((ma 4), .inl (cy 0, 25, .inl (zA (enc day hm tk py db)))), ((ma 5), .inl (cy 0, 250, .inl (zA un))), ((ma 6), .inl (cy 0, 6, .inl (zA rs))), ((ma 7), .inl (cy 0, 64, .inl (zA gp))), ((ma 8), .inl (cy 0, 6, .inl (zA (fun j => ((wh j : Nat) : Int))))), ((ma 9), .inl (cy 0, 6, .inl (zA lk))), ((ma 10), .inl (cy 0, 6, .inl (zA (fun j => ((so j : Nat) : Int))))), ((ma 11), .inl (cy 0, 554, .inl (zA kp)))] [.ref (ma 0), .int (zI t)]) (qR (db t.toNat)) 0 0 (fun _ => False) := by
  refine met_R (cc := cX9_debt) (maxL := 2) (ret := (some .int)) RX9 (by decide) rfl rfl (Nat.le_of_ble_eq_true rfl) ?_
  intro p e s m args below meth c ls Q hx hb hr hml hts hown hlocks hQ hP hK hl
  have hl : lv_has ls 2 [(0, .ref (ma 0)), (1, .int (zI t))] := hl
  have hinX9 : ∀ w ∈ wsX90, w ∈ wsX9_debt := (fun w h => List.mem_cons_of_mem _ (List.mem_append_right _ h))
  refine lv_aload_n hx hb dX9_debt_0 rfl (lv_at hl 0 rfl) ?_
  refine va_get (D := D) (ci := 9) (v := .ref (ma 4)) (C := RX9) (T := TX9) (N := 22) hx hb hts hinX9 hown hK hP 0 rfl rfl 8 (by decide) (hts (.fieldLink RX9 19 "SilentRentModel" "now" "[I") (List.mem_of_getElem? (i := 1) rfl)) (fun _ h9 => h9) rfl dX9_debt_1 ?_
  refine lv_iconst (v := zI 4) hx hb dX9_debt_4 rfl ?_
  refine lv_iconst (v := zI 4) hx hb dX9_debt_5 rfl ?_
  refine lv_iload_n hx hb dX9_debt_6 rfl (lv_at hl 1 rfl) ?_
  refine z_imul (r := (4 * t)) hx hb rfl dX9_debt_7 ?_
  refine z_iadd (r := (4 + (4 * t))) hx hb rfl dX9_debt_8 ?_
  refine z_iald2 hx hb hK hP 4 0 (f := (enc day hm tk py db)) (v := (db t.toNat)) rfl rfl (4 + 4 * t.toNat) (by omega) (by omega) (by decide) (enc_4) dX9_debt_9 ?_
  have hb1 := hNB.2.2.2 t.toNat
  exact zr_iret hx hb hr hlocks hQ (by omega) dX9_debt_10
abbrev rm_X9_free : Room := { frames := 0, cells := 0, slots := 0, locals := 0 }
set_option maxHeartbeats 4000000 in
set_option maxRecDepth 100000 in
theorem c_X9_free (l : Launch) (D : va_G) (cy : Nat → ClassId) (ma : Nat → Nat) (xt : Nat → Int) (xl : Nat) (at0 : Nat) (bg : Nat) (tk0 : Int) (td : Int) (rd : Nat → Int) (hs : Nat → Int) (day : Int) (hm : Nat → Int) (tk : Nat → Int) (py : Nat → Int) (db : Nat → Int) (un : Nat → Int) (ud : Nat) (rs : Nat → Int) (be : Int) (bp : Int) (gp : Nat → Int) (ln : Nat) (wh : Nat → Nat) (lk : Nat → Int) (wa : Int) (so : Nat → Nat) (tr : Int) (kp : Nat → Int) (t : Int) (ro : Nat) (te : Nat) (ch : Nat) (pr : Nat → Int) (sl : Nat → Int) (mu : Nat → Int) (wi : Nat → Int) (ak : Nat → Int) (he : Nat → Nat) (li : Nat → Nat) (ht0 : 0 ≤ t ∧ t < (te : Int)) (hro : ro ≤ 6) (hte : te ≤ 6) (hch : ch ≤ 5) (hHB : HB pr sl mu wi ak he li) (hHS : HS hs ro te ch pr sl mu wi ak he li) : Met l yX9_free wsX9_free rm_X9_free (pR D cy [((ma 0), .inr (9, [.ref (ma 1), .int (zI ((xl : Nat) : Int)), .int (zI ((at0 : Nat) : Int)), .int (zI ((bg : Nat) : Int)), .int (zI tk0), .int (zI td), .ref (ma 2), .ref (ma 3), .ref (ma 4), .ref (ma 5), .int (zI ((ud : Nat) : Int)), .ref (ma 6), .int (zI be), .int (zI bp), .ref (ma 7), .int (zI ((ln : Nat) : Int)), .ref (ma 8), .ref (ma 9), .int (zI wa), .ref (ma 10), .long (zL tr), .ref (ma 11)])), ((ma 1), .inl (cy 0, 200, .inl (zA xt))), ((ma 2), .inl (cy 0, 44, .inl (zA rd))), ((ma 3), .inl (cy 0, 44, .inl (zA hs))), ((ma 4), .inl (cy 0, 25, .inl (zA (enc day hm tk py db)))), ((ma 5), .inl (cy 0, 250, .inl (zA un))), ((ma 6), .inl (cy 0, 6, .inl (zA rs))), ((ma 7), .inl (cy 0, 64, .inl (zA gp))), ((ma 8), .inl (cy 0, 6, .inl (zA (fun j => ((wh j : Nat) : Int))))), ((ma 9), .inl (cy 0, 6, .inl (zA lk))), ((ma 10), .inl (cy 0, 6, .inl (zA (fun j => ((so j : Nat) : Int))))), ((ma 11), .inl (cy 0, 554, .inl (zA kp)))] [.ref (ma 0), .int (zI t)]) (qR (24 - sl t.toNat)) 0 0 (fun _ => False) := by
  refine met_R (cc := cX9_free) (maxL := 2) (ret := (some .int)) RX9 (by decide) rfl rfl (Nat.le_of_ble_eq_true rfl) ?_
  intro p e s m args below meth c ls Q hx hb hr hml hts hown hlocks hQ hP hK hl
  have hl : lv_has ls 2 [(0, .ref (ma 0)), (1, .int (zI t))] := hl
  have hinX9 : ∀ w ∈ wsX90, w ∈ wsX9_free := (fun w h => List.mem_cons_of_mem _ (List.mem_append_right _ h))
  refine lv_bipush (v := zI 24) hx hb dX9_free_0 (by decide) ?_
  refine lv_aload_n hx hb dX9_free_2 rfl (lv_at hl 0 rfl) ?_
  refine va_get (D := D) (ci := 9) (v := .ref (ma 3)) (C := RX9) (T := TX9) (N := 22) hx hb hts hinX9 hown hK hP 0 rfl rfl 7 (by decide) (hts (.fieldLink RX9 16 "SilentRentModel" "house" "[I") (List.mem_of_getElem? (i := 1) rfl)) (fun _ h9 => h9) rfl dX9_free_3 ?_
  refine lv_bipush (v := zI 9) hx hb dX9_free_6 (by decide) ?_
  refine lv_iconst (v := zI 5) hx hb dX9_free_8 rfl ?_
  refine lv_iload_n hx hb dX9_free_9 rfl (lv_at hl 1 rfl) ?_
  refine z_imul (r := (5 * t)) hx hb rfl dX9_free_10 ?_
  refine z_iadd (r := (9 + (5 * t))) hx hb rfl dX9_free_11 ?_
  refine z_iald2 hx hb hK hP 3 0 (f := hs) (v := (sl t.toNat)) rfl rfl (9 + 5 * t.toNat) (by omega) (by omega) (by decide) ((hHS.2.2.2.2.1 t.toNat (by omega)).1) dX9_free_12 ?_
  have hb1 := hHB.2.1 t.toNat
  refine z_isub (r := (24 - (sl t.toNat))) hx hb rfl dX9_free_13 ?_
  exact zr_iret hx hb hr hlocks hQ (by omega) dX9_free_14
abbrev rm_X9_must : Room := { frames := 0, cells := 0, slots := 0, locals := 0 }
set_option maxHeartbeats 4000000 in
set_option maxRecDepth 100000 in
theorem c_X9_must (l : Launch) (D : va_G) (cy : Nat → ClassId) (ma : Nat → Nat) (xt : Nat → Int) (xl : Nat) (at0 : Nat) (bg : Nat) (tk0 : Int) (td : Int) (rd : Nat → Int) (hs : Nat → Int) (day : Int) (hm : Nat → Int) (tk : Nat → Int) (py : Nat → Int) (db : Nat → Int) (un : Nat → Int) (ud : Nat) (rs : Nat → Int) (be : Int) (bp : Int) (gp : Nat → Int) (ln : Nat) (wh : Nat → Nat) (lk : Nat → Int) (wa : Int) (so : Nat → Nat) (tr : Int) (kp : Nat → Int) (t : Int) (ro : Nat) (te : Nat) (ch : Nat) (pr : Nat → Int) (sl : Nat → Int) (mu : Nat → Int) (wi : Nat → Int) (ak : Nat → Int) (he : Nat → Nat) (li : Nat → Nat) (ht0 : 0 ≤ t ∧ t < (te : Int)) (hro : ro ≤ 6) (hte : te ≤ 6) (hch : ch ≤ 5) (hHB : HB pr sl mu wi ak he li) (hHS : HS hs ro te ch pr sl mu wi ak he li) : Met l yX9_must wsX9_must rm_X9_must (pR D cy [((ma 0), .inr (9, [.ref (ma 1), .int (zI ((xl : Nat) : Int)), .int (zI ((at0 : Nat) : Int)), .int (zI ((bg : Nat) : Int)), .int (zI tk0), .int (zI td), .ref (ma 2), .ref (ma 3), .ref (ma 4), .ref (ma 5), .int (zI ((ud : Nat) : Int)), .ref (ma 6), .int (zI be), .int (zI bp), .ref (ma 7), .int (zI ((ln : Nat) : Int)), .ref (ma 8), .ref (ma 9), .int (zI wa), .ref (ma 10), .long (zL tr), .ref (ma 11)])), ((ma 1), .inl (cy 0, 200, .inl (zA xt))), ((ma 2), .inl (cy 0, 44, .inl (zA rd))), ((ma 3), .inl (cy 0, 44, .inl (zA hs))), ((ma 4), .inl (cy 0, 25, .inl (zA (enc day hm tk py db)))), ((ma 5), .inl (cy 0, 250, .inl (zA un))), ((ma 6), .inl (cy 0, 6, .inl (zA rs))), ((ma 7), .inl (cy 0, 64, .inl (zA gp))), ((ma 8), .inl (cy 0, 6, .inl (zA (fun j => ((wh j : Nat) : Int))))), ((ma 9), .inl (cy 0, 6, .inl (zA lk))), ((ma 10), .inl (cy 0, 6, .inl (zA (fun j => ((so j : Nat) : Int))))), ((ma 11), .inl (cy 0, 554, .inl (zA kp)))] [.ref (ma 0), .int (zI t)]) (qR (mu t.toNat)) 0 0 (fun _ => False) := by
  refine met_R (cc := cX9_must) (maxL := 2) (ret := (some .int)) RX9 (by decide) rfl rfl (Nat.le_of_ble_eq_true rfl) ?_
  intro p e s m args below meth c ls Q hx hb hr hml hts hown hlocks hQ hP hK hl
  have hl : lv_has ls 2 [(0, .ref (ma 0)), (1, .int (zI t))] := hl
  have hinX9 : ∀ w ∈ wsX90, w ∈ wsX9_must := (fun w h => List.mem_cons_of_mem _ (List.mem_append_right _ h))
  refine lv_aload_n hx hb dX9_must_0 rfl (lv_at hl 0 rfl) ?_
  refine va_get (D := D) (ci := 9) (v := .ref (ma 3)) (C := RX9) (T := TX9) (N := 22) hx hb hts hinX9 hown hK hP 0 rfl rfl 7 (by decide) (hts (.fieldLink RX9 16 "SilentRentModel" "house" "[I") (List.mem_of_getElem? (i := 1) rfl)) (fun _ h9 => h9) rfl dX9_must_1 ?_
  refine lv_bipush (v := zI 9) hx hb dX9_must_4 (by decide) ?_
  refine lv_iconst (v := zI 5) hx hb dX9_must_6 rfl ?_
  refine lv_iload_n hx hb dX9_must_7 rfl (lv_at hl 1 rfl) ?_
  refine z_imul (r := (5 * t)) hx hb rfl dX9_must_8 ?_
  refine z_iadd (r := (9 + (5 * t))) hx hb rfl dX9_must_9 ?_
  refine lv_iconst (v := zI 1) hx hb dX9_must_10 rfl ?_
  refine z_iadd (r := ((9 + (5 * t)) + 1)) hx hb rfl dX9_must_11 ?_
  refine z_iald2 hx hb hK hP 3 0 (f := hs) (v := (mu t.toNat)) rfl rfl (9 + 5 * t.toNat + 1) (by omega) (by omega) (by decide) ((hHS.2.2.2.2.1 t.toNat (by omega)).2.1) dX9_must_12 ?_
  have hb1 := hHB.2.2.1 t.toNat
  exact zr_iret hx hb hr hlocks hQ (by omega) dX9_must_13
abbrev rm_X9_silent : Room := { frames := 1, cells := 0, slots := 0, locals := 21 }
set_option maxHeartbeats 4000000 in
set_option maxRecDepth 100000 in
theorem c_X9_silent (l : Launch) (D : va_G) (cy : Nat → ClassId) (ma : Nat → Nat) (xt : Nat → Int) (xl : Nat) (at0 : Nat) (bg : Nat) (tk0 : Int) (td : Int) (rd : Nat → Int) (hs : Nat → Int) (day : Int) (hm : Nat → Int) (tk : Nat → Int) (py : Nat → Int) (db : Nat → Int) (un : Nat → Int) (ud : Nat) (rs : Nat → Int) (be : Int) (bp : Int) (gp : Nat → Int) (ln : Nat) (wh : Nat → Nat) (lk : Nat → Int) (wa : Int) (so : Nat → Nat) (tr : Int) (kp : Nat → Int) (t : Int) (ro : Nat) (te : Nat) (ch : Nat) (pr : Nat → Int) (sl : Nat → Int) (mu : Nat → Int) (wi : Nat → Int) (ak : Nat → Int) (he : Nat → Nat) (li : Nat → Nat) (ht0 : 0 ≤ t ∧ t < (te : Int)) (hro : ro ≤ 6) (hte : te ≤ 6) (hch : ch ≤ 5) (hHB : HB pr sl mu wi ak he li) (hHS : HS hs ro te ch pr sl mu wi ak he li) (hNB : NB hm tk py db) : Met l yX9_silent wsX9_silent rm_X9_silent (pR D cy [((ma 0), .inr (9, [.ref (ma 1), .int (zI ((xl : Nat) : Int)), .int (zI ((at0 : Nat) : Int)), .int (zI ((bg : Nat) : Int)), .int (zI tk0), .int (zI td), .ref (ma 2), .ref (ma 3), .ref (ma 4), .ref (ma 5), .int (zI ((ud : Nat) : Int)), .ref (ma 6), .int (zI be), .int (zI bp), .ref (ma 7), .int (zI ((ln : Nat) : Int)), .ref (ma 8), .ref (ma 9), .int (zI wa), .ref (ma 10), .long (zL tr), .ref (ma 11)])), ((ma 1), .inl (cy 0, 200, .inl (zA xt))), ((ma 2), .inl (cy 0, 44, .inl (zA rd))), ((ma 3), .inl (cy 0, 44, .inl (zA hs))), ((ma 4), .inl (cy 0, 25, .inl (zA (enc day hm tk py db)))), ((ma 5), .inl (cy 0, 250, .inl (zA un))), ((ma 6), .inl (cy 0, 6, .inl (zA rs))), ((ma 7), .inl (cy 0, 64, .inl (zA gp))), ((ma 8), .inl (cy 0, 6, .inl (zA (fun j => ((wh j : Nat) : Int))))), ((ma 9), .inl (cy 0, 6, .inl (zA lk))), ((ma 10), .inl (cy 0, 6, .inl (zA (fun j => ((so j : Nat) : Int))))), ((ma 11), .inl (cy 0, 554, .inl (zA kp)))] [.ref (ma 0), .int (zI t)]) (qR (max 0 (24 - sl t.toNat - py t.toNat))) 0 0 (fun _ => False) := by
  refine met_R (cc := cX9_silent) (maxL := 3) (ret := (some .int)) RX9 (by decide) rfl rfl (Nat.le_of_ble_eq_true rfl) ?_
  intro p e s m args below meth c ls Q hx hb hr hml hts hown hlocks hQ hP hK hl
  have hl : lv_has ls 3 [(0, .ref (ma 0)), (1, .int (zI t))] := hl
  have hinX9 : ∀ w ∈ wsX90, w ∈ wsX9_silent := (fun w h => List.mem_cons_of_mem _ (List.mem_append_right _ h))
  refine lv_aload_n hx hb dX9_silent_0 rfl (lv_at hl 0 rfl) ?_
  refine lv_iload_n hx hb dX9_silent_1 rfl (lv_at hl 1 rfl) ?_
  have hs9 := hHB.2.1 t.toNat
  have hp9 := hNB.2.2.1 t.toNat
  refine zr_callV (rest := []) (As := [.int (zI t)]) (v := (24 - sl t.toNat)) ⟨hx, hb, hml, hown, hts⟩ (c_X9_free l D cy ma xt xl at0 bg tk0 td rd hs day hm tk py db un ud rs be bp gp ln wh lk wa so tr kp t ro te ch pr sl mu wi ak he li (by omega) (by omega) (by omega) (by omega) hHB hHS) (cwV 1 hts gX9_silent_X9_free rfl rfl rfl (by decide +kernel) ⟨Nat.le_of_ble_eq_true rfl, Nat.le_of_ble_eq_true rfl⟩) hK hP 0 9 rfl rfl rfl hl.1 rfl (Nat.le_of_ble_eq_true rfl) dX9_silent_2 ⟨Nat.zero_le _, Nat.zero_le _⟩ ?_
  refine lv_aload_n hx hb dX9_silent_5 rfl (lv_at hl 0 rfl) ?_
  refine va_get (D := D) (ci := 9) (v := .ref (ma 4)) (C := RX9) (T := TX9) (N := 22) hx hb hts hinX9 hown hK hP 0 rfl rfl 8 (by decide) (hts (.fieldLink RX9 19 "SilentRentModel" "now" "[I") (List.mem_of_getElem? (i := 1) rfl)) (fun _ h9 => h9) rfl dX9_silent_6 ?_
  refine lv_iconst (v := zI 3) hx hb dX9_silent_9 rfl ?_
  refine lv_iconst (v := zI 4) hx hb dX9_silent_10 rfl ?_
  refine lv_iload_n hx hb dX9_silent_11 rfl (lv_at hl 1 rfl) ?_
  refine z_imul (r := (4 * t)) hx hb rfl dX9_silent_12 ?_
  refine z_iadd (r := (3 + (4 * t))) hx hb rfl dX9_silent_13 ?_
  refine z_iald2 hx hb hK hP 4 0 (f := (enc day hm tk py db)) (v := (py t.toNat)) rfl rfl (3 + 4 * t.toNat) (by omega) (by omega) (by decide) (enc_3) dX9_silent_14 ?_
  have hb1 := hNB.2.2.1 t.toNat
  refine z_isub (r := ((24 - sl t.toNat) - (py t.toNat))) hx hb rfl dX9_silent_15 ?_
  refine lv_istore_n (lv' := [(2, .int (zI ((24 - sl t.toNat) - (py t.toNat)))), (0, .ref (ma 0)), (1, .int (zI t))]) hx hb dX9_silent_16 rfl hl (by decide) rfl (fun ls hl => ?_)
  refine lv_iload_n hx hb dX9_silent_17 rfl (lv_at hl 0 rfl) ?_
  refine z_if_ge (tgt := 25) hx hb ⟨by omega, by omega⟩ dX9_silent_18 (by decide) (fun c2 => ?_) (fun c2 => ?_)
  · refine lv_iload_n hx hb dX9_silent_25 rfl (lv_at hl 0 rfl) ?_
    exact zr_iret hx hb hr hlocks hQ (by omega) dX9_silent_26
  · refine lv_iconst (v := zI 0) hx hb dX9_silent_21 rfl ?_
    refine lv_goto (tgt := 26) hx hb dX9_silent_22 (by decide) ?_
    exact zr_iret hx hb hr hlocks hQ (by omega) dX9_silent_26
abbrev rm_X9_more : Room := { frames := 1, cells := 0, slots := 0, locals := 21 }
set_option maxHeartbeats 4000000 in
set_option maxRecDepth 100000 in
theorem c_X9_more (l : Launch) (D : va_G) (cy : Nat → ClassId) (ma : Nat → Nat) (xt : Nat → Int) (xl : Nat) (at0 : Nat) (bg : Nat) (tk0 : Int) (td : Int) (rd : Nat → Int) (hs : Nat → Int) (day : Int) (hm : Nat → Int) (tk : Nat → Int) (py : Nat → Int) (db : Nat → Int) (un : Nat → Int) (ud : Nat) (rs : Nat → Int) (be : Int) (bp : Int) (gp : Nat → Int) (ln : Nat) (wh : Nat → Nat) (lk : Nat → Int) (wa : Int) (so : Nat → Nat) (tr : Int) (kp : Nat → Int) (t : Int) (r : Int) (ro : Nat) (te : Nat) (ch : Nat) (pr : Nat → Int) (sl : Nat → Int) (mu : Nat → Int) (wi : Nat → Int) (ak : Nat → Int) (he : Nat → Nat) (li : Nat → Nat) (ht0 : 0 ≤ t ∧ t < (te : Int)) (hr0 : 0 ≤ r ∧ r < (ro : Int)) (hro : ro ≤ 6) (hte : te ≤ 6) (hch : ch ≤ 5) (hHB : HB pr sl mu wi ak he li) (hHS : HS hs ro te ch pr sl mu wi ak he li) : Met l yX9_more wsX9_more rm_X9_more (pR D cy [((ma 0), .inr (9, [.ref (ma 1), .int (zI ((xl : Nat) : Int)), .int (zI ((at0 : Nat) : Int)), .int (zI ((bg : Nat) : Int)), .int (zI tk0), .int (zI td), .ref (ma 2), .ref (ma 3), .ref (ma 4), .ref (ma 5), .int (zI ((ud : Nat) : Int)), .ref (ma 6), .int (zI be), .int (zI bp), .ref (ma 7), .int (zI ((ln : Nat) : Int)), .ref (ma 8), .ref (ma 9), .int (zI wa), .ref (ma 10), .long (zL tr), .ref (ma 11)])), ((ma 1), .inl (cy 0, 200, .inl (zA xt))), ((ma 2), .inl (cy 0, 44, .inl (zA rd))), ((ma 3), .inl (cy 0, 44, .inl (zA hs))), ((ma 4), .inl (cy 0, 25, .inl (zA (enc day hm tk py db)))), ((ma 5), .inl (cy 0, 250, .inl (zA un))), ((ma 6), .inl (cy 0, 6, .inl (zA rs))), ((ma 7), .inl (cy 0, 64, .inl (zA gp))), ((ma 8), .inl (cy 0, 6, .inl (zA (fun j => ((wh j : Nat) : Int))))), ((ma 9), .inl (cy 0, 6, .inl (zA lk))), ((ma 10), .inl (cy 0, 6, .inl (zA (fun j => ((so j : Nat) : Int))))), ((ma 11), .inl (cy 0, 554, .inl (zA kp)))] [.ref (ma 0), .int (zI t), .int (zI r)]) (qR (24 - sl t.toNat - mu t.toNat - pr r.toNat)) 0 0 (fun _ => False) := by
  refine met_R (cc := cX9_more) (maxL := 3) (ret := (some .int)) RX9 (by decide) rfl rfl (Nat.le_of_ble_eq_true rfl) ?_
  intro p e s m args below meth c ls Q hx hb hr hml hts hown hlocks hQ hP hK hl
  have hl : lv_has ls 3 [(0, .ref (ma 0)), (1, .int (zI t)), (2, .int (zI r))] := hl
  have hinX9 : ∀ w ∈ wsX90, w ∈ wsX9_more := (fun w h => List.mem_cons_of_mem _ (List.mem_append_right _ h))
  refine lv_aload_n hx hb dX9_more_0 rfl (lv_at hl 0 rfl) ?_
  refine lv_iload_n hx hb dX9_more_1 rfl (lv_at hl 1 rfl) ?_
  refine zr_callV (rest := []) (As := [.int (zI t)]) (v := (24 - sl t.toNat)) ⟨hx, hb, hml, hown, hts⟩ (c_X9_free l D cy ma xt xl at0 bg tk0 td rd hs day hm tk py db un ud rs be bp gp ln wh lk wa so tr kp t ro te ch pr sl mu wi ak he li (by omega) (by omega) (by omega) (by omega) hHB hHS) (cwV 1 hts gX9_more_X9_free rfl rfl rfl (by decide +kernel) ⟨Nat.le_of_ble_eq_true rfl, Nat.le_of_ble_eq_true rfl⟩) hK hP 0 9 rfl rfl rfl hl.1 rfl (Nat.le_of_ble_eq_true rfl) dX9_more_2 ⟨Nat.zero_le _, Nat.zero_le _⟩ ?_
  refine lv_aload_n hx hb dX9_more_5 rfl (lv_at hl 0 rfl) ?_
  refine lv_iload_n hx hb dX9_more_6 rfl (lv_at hl 1 rfl) ?_
  refine zr_callV (rest := [.int (zI (24 - sl t.toNat))]) (As := [.int (zI t)]) (v := (mu t.toNat)) ⟨hx, hb, hml, hown, hts⟩ (c_X9_must l D cy ma xt xl at0 bg tk0 td rd hs day hm tk py db un ud rs be bp gp ln wh lk wa so tr kp t ro te ch pr sl mu wi ak he li (by omega) (by omega) (by omega) (by omega) hHB hHS) (cwV 1 hts gX9_more_X9_must rfl rfl rfl (by decide +kernel) ⟨Nat.le_of_ble_eq_true rfl, Nat.le_of_ble_eq_true rfl⟩) hK hP 0 9 rfl rfl rfl hl.1 rfl (Nat.le_of_ble_eq_true rfl) dX9_more_7 ⟨Nat.zero_le _, Nat.zero_le _⟩ ?_
  refine z_isub (r := ((24 - sl t.toNat) - (mu t.toNat))) hx hb rfl dX9_more_10 ?_
  refine lv_aload_n hx hb dX9_more_11 rfl (lv_at hl 0 rfl) ?_
  refine va_get (D := D) (ci := 9) (v := .ref (ma 3)) (C := RX9) (T := TX9) (N := 22) hx hb hts hinX9 hown hK hP 0 rfl rfl 7 (by decide) (hts (.fieldLink RX9 16 "SilentRentModel" "house" "[I") (List.mem_of_getElem? (i := 1) rfl)) (fun _ h9 => h9) rfl dX9_more_12 ?_
  refine lv_iconst (v := zI 3) hx hb dX9_more_15 rfl ?_
  refine lv_iload_n hx hb dX9_more_16 rfl (lv_at hl 2 rfl) ?_
  refine z_iadd (r := (3 + r)) hx hb rfl dX9_more_17 ?_
  refine z_iald2 hx hb hK hP 3 0 (f := hs) (v := (pr r.toNat)) rfl rfl (3 + r.toNat) (by omega) (by omega) (by decide) (hHS.2.2.2.1 r.toNat (by omega)) dX9_more_18 ?_
  have hb1 := hHB.1 r.toNat
  refine z_isub (r := (((24 - sl t.toNat) - (mu t.toNat)) - (pr r.toNat))) hx hb rfl dX9_more_19 ?_
  exact zr_iret hx hb hr hlocks hQ (by omega) dX9_more_20
