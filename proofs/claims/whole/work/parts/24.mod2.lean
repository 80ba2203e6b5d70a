/-! the model: what it reads -/
def lst (hm : Nat → Int) (r : Int) : Nat → Int
  | 0 => -9
  | n + 1 => if hm n = r then (n : Int) else lst hm r n
theorem lst_in (hm : Nat → Int) (r : Int) : ∀ n, -9 ≤ lst hm r n ∧ lst hm r n < (n : Int)
  | 0 => by show (-9 : Int) ≤ -9 ∧ (-9 : Int) < ((0 : Nat) : Int); omega
  | n + 1 => by
    have ih := lst_in hm r n
    unfold lst
    split <;> omega
theorem lst_none {hm : Nat → Int} {r : Int} : ∀ n, (∀ t, t < n → ¬ hm t = r) → lst hm r n = -9
  | 0, _ => rfl
  | n + 1, h => by
    unfold lst
    rw [if_neg (h n (by omega))]
    exact lst_none n (fun t ht => h t (by omega))
theorem lst_some {hm : Nat → Int} {r : Int} {t : Nat} (ht : hm t = r) (hu : ∀ u, hm u = r → u = t) : ∀ n, t < n → lst hm r n = (t : Int)
  | 0, h => by omega
  | n + 1, h => by
    unfold lst
    by_cases e : hm n = r
    · rw [if_pos e, hu n e]
    · rw [if_neg e]
      exact lst_some ht hu n (by rcases Nat.lt_or_eq_of_le (Nat.le_of_lt_succ h) with h1 | h1; exact h1; subst h1; exact absurd ht e)
theorem dwl_none {hm : Nat → Int} {r : Int} : ∀ n i, (∀ t, i ≤ t → t < i + n → ¬ hm t = r) → dwl hm r n i = -9
  | 0, _, _ => rfl
  | n + 1, i, h => by
    rw [dwl_s, if_neg (h i (by omega) (by omega))]
    exact dwl_none n (i + 1) (fun t h1 h2 => h t (by omega) (by omega))
theorem dwl_some {hm : Nat → Int} {r : Int} {t : Nat} (ht : hm t = r) (hu : ∀ u, hm u = r → u = t) : ∀ n i, i ≤ t → t < i + n → dwl hm r n i = (t : Int)
  | 0, i, h1, h2 => by omega
  | n + 1, i, h1, h2 => by
    rw [dwl_s]
    by_cases e : hm i = r
    · rw [if_pos e, hu i e]
    · rw [if_neg e]
      refine dwl_some ht hu n (i + 1) ?_ (by omega)
      rcases Nat.lt_or_eq_of_le h1 with h3 | h3
      · exact h3
      · subst h3; exact absurd ht e
theorem lst_dwl {hm : Nat → Int} {te : Nat} {r : Int} (hte : te ≤ 6) (h : NI hm te) (hr : ¬ r = -9) : lst hm r te = dwl hm r 6 0 := by
  by_cases hx : ∃ t, t < te ∧ hm t = r
  · obtain ⟨t, h1, h2⟩ := hx
    have hu : ∀ u, hm u = r → u = t := fun u e => (h.2 u t (e.trans h2.symm) (by rw [e]; exact hr))
    rw [lst_some h2 hu te h1, dwl_some h2 hu 6 0 (by omega) (by omega)]
  · have hn : ∀ t, ¬ hm t = r := fun t e => by
      by_cases h1 : t < te
      · exact hx ⟨t, h1, e⟩
      · have := h.1 t (by omega); omega
    rw [lst_none te (fun t _ => hn t), dwl_none 6 0 (fun t _ _ => hn t)]
theorem sumI_z {f : Nat → Int} {a b : Nat} (hab : a ≤ b) (h : ∀ t, a ≤ t → f t = 0) : sumI f a = sumI f b := by
  induction b with
  | zero => rw [show a = 0 from by omega]
  | succ n ih =>
    by_cases e : a = n + 1
    · rw [e]
    · show _ = sumI f n + f n
      rw [h n (by omega), ih (by omega)]
      omega
theorem popc_dec : ∀ k, k < 64 → 0 < k → popc (k &&& (k - 1)) + 1 = popc k ∧ k &&& (k - 1) < k := by decide +kernel
theorem popc_0 : popc 0 = 0 := by decide +kernel
theorem popc_le64 : ∀ k, k < 64 → popc k ≤ 6 := by decide +kernel
theorem pow7 {v n : Nat} (hv : v ≤ 7) (hn : n ≤ 6) : v ^ n ≤ 117649 := by
  have h1 : v ^ n ≤ 7 ^ n := Nat.pow_le_pow_left hv n
  have h2 : 7 ^ n ≤ 7 ^ 6 := Nat.pow_le_pow_right (by decide) hn
  omega
abbrev rm_X9_livesIn : Room := { frames := 1, cells := 0, slots := 0, locals := 21 }
set_option maxHeartbeats 4000000 in
set_option maxRecDepth 100000 in
theorem c_X9_livesIn (l : Launch) (D : va_G) (cy : Nat → ClassId) (ma : Nat → Nat) (xt : Nat → Int) (xl : Nat) (at0 : Nat) (bg : Nat) (tk0 : Int) (td : Int) (rd : Nat → Int) (hs : Nat → Int) (day : Int) (hm : Nat → Int) (tk : Nat → Int) (py : Nat → Int) (db : Nat → Int) (un : Nat → Int) (ud : Nat) (rs : Nat → Int) (be : Int) (bp : Int) (gp : Nat → Int) (ln : Nat) (wh : Nat → Nat) (lk : Nat → Int) (wa : Int) (so : Nat → Nat) (tr : Int) (kp : Nat → Int) (r : Int) (ro : Nat) (te : Nat) (ch : Nat) (pr : Nat → Int) (sl : Nat → Int) (mu : Nat → Int) (wi : Nat → Int) (ak : Nat → Int) (he : Nat → Nat) (li : Nat → Nat) (hr0 : 0 ≤ r ∧ r < (ro : Int)) (hro : ro ≤ 6) (hte : te ≤ 6) (hch : ch ≤ 5) (hHB : HB pr sl mu wi ak he li) (hHS : HS hs ro te ch pr sl mu wi ak he li) (hNB : NB hm tk py db) (hNI : NI hm te) : Met l yX9_livesIn wsX9_livesIn rm_X9_livesIn (pR D cy [((ma 0), .inr (9, [.ref (ma 1), .int (zI ((xl : Nat) : Int)), .int (zI ((at0 : Nat) : Int)), .int (zI ((bg : Nat) : Int)), .int (zI tk0), .int (zI td), .ref (ma 2), .ref (ma 3), .ref (ma 4), .ref (ma 5), .int (zI ((ud : Nat) : Int)), .ref (ma 6), .int (zI be), .int (zI bp), .ref (ma 7), .int (zI ((ln : Nat) : Int)), .ref (ma 8), .ref (ma 9), .int (zI wa), .ref (ma 10), .long (zL tr), .ref (ma 11)])), ((ma 1), .inl (cy 0, 200, .inl (zA xt))), ((ma 2), .inl (cy 0, 44, .inl (zA rd))), ((ma 3), .inl (cy 0, 44, .inl (zA hs))), ((ma 4), .inl (cy 0, 25, .inl (zA (enc day hm tk py db)))), ((ma 5), .inl (cy 0, 250, .inl (zA un))), ((ma 6), .inl (cy 0, 6, .inl (zA rs))), ((ma 7), .inl (cy 0, 64, .inl (zA gp))), ((ma 8), .inl (cy 0, 6, .inl (zA (fun j => ((wh j : Nat) : Int))))), ((ma 9), .inl (cy 0, 6, .inl (zA lk))), ((ma 10), .inl (cy 0, 6, .inl (zA (fun j => ((so j : Nat) : Int))))), ((ma 11), .inl (cy 0, 554, .inl (zA kp)))] [.ref (ma 0), .int (zI r)]) (qR (dwl hm r 6 0)) 0 0 (fun _ => False) := by
  refine met_R (cc := cX9_livesIn) (maxL := 4) (ret := (some .int)) RX9 (by decide) rfl rfl (Nat.le_of_ble_eq_true rfl) ?_
  intro p e s m args below meth c ls Q hx hb hr hml hts hown hlocks hQ hP hK hl
  have hl : lv_has ls 4 [(0, .ref (ma 0)), (1, .int (zI r))] := hl
  have hinX9 : ∀ w ∈ wsX90, w ∈ wsX9_livesIn := (fun w h => List.mem_cons_of_mem _ (List.mem_append_right _ h))
  refine lv_bipush (v := zI (-9)) hx hb dX9_livesIn_0 (by decide) ?_
  refine lv_istore_n (lv' := [(2, .int (zI (-9))), (0, .ref (ma 0)), (1, .int (zI r))]) hx hb dX9_livesIn_2 rfl hl (by decide) rfl (fun ls hl => ?_)
  refine lv_iconst (v := zI 0) hx hb dX9_livesIn_3 rfl ?_
  refine lv_istore_n (lv' := [(3, .int (zI 0)), (2, .int (zI (-9))), (0, .ref (ma 0)), (1, .int (zI r))]) hx hb dX9_livesIn_4 rfl hl (by decide) rfl (fun ls hl => ?_)
  have loop5 : ∀ (n9 : Nat) (i : Nat), te - i < n9 → (i ≤ te) → ∀ (x5_2 : Int), x5_2 = (lst hm r i) → ∀ (x5_3 : Int), x5_3 = ((i : Nat) : Int) → ∀ ls : Array Slot, lv_has ls 4 [(0, .ref (ma 0)), (1, .int (zI r)), (2, .int (zI x5_2)), (3, .int (zI x5_3))] → W p l e rm_X9_livesIn s m args below meth c s.heap [] 0 0 Q (F0 m 5 ls []) := by
    intro n9
    induction n9 with
    | zero => intro i h9; exact absurd h9 (Nat.not_lt_zero _)
    | succ n9 ih5 =>
      intro i hmu5 hi x5_2 ex5_2 x5_3 ex5_3 ls hl
      subst ex5_2
      subst ex5_3
      have hl : lv_has ls 4 [(0, .ref (ma 0)), (1, .int (zI r)), (2, .int (zI (lst hm r i))), (3, .int (zI ((i : Nat) : Int)))] := hl
      have hni := hNB.1 i
      refine lv_iload_n hx hb dX9_livesIn_5 rfl (lv_at hl 3 rfl) ?_
      refine lv_aload_n hx hb dX9_livesIn_6 rfl (lv_at hl 0 rfl) ?_
      refine va_get (D := D) (ci := 9) (v := .ref (ma 3)) (C := RX9) (T := TX9) (N := 22) hx hb hts hinX9 hown hK hP 0 rfl rfl 7 (by decide) (hts (.fieldLink RX9 16 "SilentRentModel" "house" "[I") (List.mem_of_getElem? (i := 1) rfl)) (fun _ h9 => h9) rfl dX9_livesIn_7 ?_
      refine lv_iconst (v := zI 1) hx hb dX9_livesIn_10 rfl ?_
      refine z_iald2 hx hb hK hP 3 0 (f := hs) (v := ((te : Nat) : Int)) rfl rfl 1 (by omega) (by omega) (by decide) (hHS.2.1) dX9_livesIn_11 ?_
      refine z_icmp_ge (tgt := 36) hx hb ⟨by omega, by omega⟩ ⟨by omega, by omega⟩ dX9_livesIn_12 (by decide) (fun c1 => ?_) (fun c1 => ?_)
      · have c1 : (te : Nat) ≤ (i : Nat) := by omega
        refine lv_iload_n hx hb dX9_livesIn_36 rfl (lv_at hl 2 rfl) ?_
        exact zr_iret hx hb hr hlocks hQ (by rw [show i = te from by omega]; exact lst_dwl hte hNI (by omega)) dX9_livesIn_37
      · have c1 : ¬ ((te : Nat) ≤ (i : Nat)) := by omega
        refine lv_aload_n hx hb dX9_livesIn_15 rfl (lv_at hl 0 rfl) ?_
        refine lv_iload_n hx hb dX9_livesIn_16 rfl (lv_at hl 3 rfl) ?_
        refine zr_callV (rest := []) (As := [.int (zI ((i : Nat) : Int))]) (v := (hm i)) ⟨hx, hb, hml, hown, hts⟩ (c_X9_roomOf l D cy ma xt xl at0 bg tk0 td rd hs day hm tk py db un ud rs be bp gp ln wh lk wa so tr kp ((i : Nat) : Int) ro te ch pr sl mu wi ak he li (by omega) (by omega) (by omega) (by omega) hHB hHS hNB) (cwV 1 hts gX9_livesIn_X9_roomOf rfl rfl rfl (by decide +kernel) ⟨Nat.le_of_ble_eq_true rfl, Nat.le_of_ble_eq_true rfl⟩) hK hP 0 9 rfl rfl rfl hl.1 rfl (Nat.le_of_ble_eq_true rfl) dX9_livesIn_17 ⟨Nat.zero_le _, Nat.zero_le _⟩ ?_
        refine lv_iload_n hx hb dX9_livesIn_20 rfl (lv_at hl 1 rfl) ?_
        have J4 : ∀ (z3 : Int), z3 = (if (hm i) = r then ((i : Nat) : Int) else (lst hm r i)) → ∀ ls : Array Slot, lv_has ls 4 [(0, .ref (ma 0)), (1, .int (zI r)), (2, .int (zI (lst hm r i))), (3, .int (zI ((i : Nat) : Int)))] → W p l e rm_X9_livesIn s m args below meth c s.heap [] 0 0 Q (F0 m 29 ls [.int (zI z3)]) := by
          intro z3 ez3 ls hl
          subst ez3
          refine lv_istore_n (lv' := [(2, .int (zI (if (hm i) = r then ((i : Nat) : Int) else (lst hm r i)))), (0, .ref (ma 0)), (1, .int (zI r)), (3, .int (zI ((i : Nat) : Int)))]) hx hb dX9_livesIn_29 rfl hl (by decide) rfl (fun ls hl => ?_)
          refine z_iinc (r := ((i + 1 : Nat) : Int)) (lv' := [(3, .int (zI ((i + 1 : Nat) : Int))), (2, .int (zI (if (hm i) = r then ((i : Nat) : Int) else (lst hm r i)))), (0, .ref (ma 0)), (1, .int (zI r))]) hx hb (by omega) dX9_livesIn_30 hl (k := 3) rfl (by decide) rfl (fun ls hl => ?_)
          refine lv_goto (tgt := 5) hx hb dX9_livesIn_33 (by decide) ?_
          exact ih5 (i + 1) (by omega) (by omega) (if (hm i) = r then ((i : Nat) : Int) else (lst hm r i)) (by (simp only [lst]) <;> (repeat' split) <;> first | rfl | omega) ((i + 1 : Nat) : Int) (by first | rfl | omega) ls (lv_sub hl [2, 3, 1, 0] rfl)
        refine z_icmp_ne (tgt := 28) hx hb ⟨by omega, by omega⟩ ⟨by omega, by omega⟩ dX9_livesIn_21 (by decide) (fun c2 => ?_) (fun c2 => ?_)
        · refine lv_iload_n hx hb dX9_livesIn_28 rfl (lv_at hl 2 rfl) ?_
          exact J4 (lst hm r i) (by rw [if_neg c2]) ls (lv_sub hl [0, 1, 2, 3] rfl)
        · refine lv_iload_n hx hb dX9_livesIn_24 rfl (lv_at hl 3 rfl) ?_
          refine lv_goto (tgt := 29) hx hb dX9_livesIn_25 (by decide) ?_
          exact J4 ((i : Nat) : Int) (by rw [if_pos c2]) ls (lv_sub hl [0, 1, 2, 3] rfl)
  exact loop5 ((te - 0) + 1) 0 (by omega) (by omega) (-9) rfl 0 (by first | rfl | omega | simp) ls (lv_sub hl [2, 3, 1, 0] rfl)
abbrev rm_X9_room : Room := { frames := 2, cells := 0, slots := 0, locals := 46 }
set_option maxHeartbeats 4000000 in
set_option maxRecDepth 100000 in
theorem c_X9_room (l : Launch) (D : va_G) (cy : Nat → ClassId) (ma : Nat → Nat) (xt : Nat → Int) (xl : Nat) (at0 : Nat) (bg : Nat) (tk0 : Int) (td : Int) (rd : Nat → Int) (hs : Nat → Int) (day : Int) (hm : Nat → Int) (tk : Nat → Int) (py : Nat → Int) (db : Nat → Int) (un : Nat → Int) (ud : Nat) (rs : Nat → Int) (be : Int) (bp : Int) (gp : Nat → Int) (ln : Nat) (wh : Nat → Nat) (lk : Nat → Int) (wa : Int) (so : Nat → Nat) (tr : Int) (kp : Nat → Int) (r : Int) (what : Int) (ro : Nat) (te : Nat) (ch : Nat) (pr : Nat → Int) (sl : Nat → Int) (mu : Nat → Int) (wi : Nat → Int) (ak : Nat → Int) (he : Nat → Nat) (li : Nat → Nat) (hr0 : inR r) (hw0 : inR what) (hro : ro ≤ 6) (hte : te ≤ 6) (hch : ch ≤ 5) (hHB : HB pr sl mu wi ak he li) (hHS : HS hs ro te ch pr sl mu wi ak he li) (hNB : NB hm tk py db) (hNI : NI hm te) : Met l yX9_room wsX9_room rm_X9_room (pR D cy [((ma 0), .inr (9, [.ref (ma 1), .int (zI ((xl : Nat) : Int)), .int (zI ((at0 : Nat) : Int)), .int (zI ((bg : Nat) : Int)), .int (zI tk0), .int (zI td), .ref (ma 2), .ref (ma 3), .ref (ma 4), .ref (ma 5), .int (zI ((ud : Nat) : Int)), .ref (ma 6), .int (zI be), .int (zI bp), .ref (ma 7), .int (zI ((ln : Nat) : Int)), .ref (ma 8), .ref (ma 9), .int (zI wa), .ref (ma 10), .long (zL tr), .ref (ma 11)])), ((ma 1), .inl (cy 0, 200, .inl (zA xt))), ((ma 2), .inl (cy 0, 44, .inl (zA rd))), ((ma 3), .inl (cy 0, 44, .inl (zA hs))), ((ma 4), .inl (cy 0, 25, .inl (zA (enc day hm tk py db)))), ((ma 5), .inl (cy 0, 250, .inl (zA un))), ((ma 6), .inl (cy 0, 6, .inl (zA rs))), ((ma 7), .inl (cy 0, 64, .inl (zA gp))), ((ma 8), .inl (cy 0, 6, .inl (zA (fun j => ((wh j : Nat) : Int))))), ((ma 9), .inl (cy 0, 6, .inl (zA lk))), ((ma 10), .inl (cy 0, 6, .inl (zA (fun j => ((so j : Nat) : Int))))), ((ma 11), .inl (cy 0, 554, .inl (zA kp)))] [.ref (ma 0), .int (zI r), .int (zI what)]) (qR (sRoom pr sl mu hm ro te r what)) 0 0 (fun _ => False) := by
  refine met_R (cc := cX9_room) (maxL := 5) (ret := (some .int)) RX9 (by decide) rfl rfl (Nat.le_of_ble_eq_true rfl) ?_
  intro p e s m args below meth c ls Q hx hb hr hml hts hown hlocks hQ hP hK hl
  have hl : lv_has ls 5 [(0, .ref (ma 0)), (1, .int (zI r)), (2, .int (zI what))] := hl
  have hinX9 : ∀ w ∈ wsX90, w ∈ wsX9_room := (fun w h => List.mem_cons_of_mem _ (List.mem_append_right _ h))
  refine lv_aload_n hx hb dX9_room_0 rfl (lv_at hl 0 rfl) ?_
  refine lv_iload_n hx hb dX9_room_1 rfl (lv_at hl 1 rfl) ?_
  refine zr_callV (rest := []) (As := [.int (zI r)]) (v := (if 0 ≤ r ∧ r ≤ ((ro : Nat) : Int) - 1 then 1 else 0)) ⟨hx, hb, hml, hown, hts⟩ (c_X9_isRoom l D cy ma xt xl at0 bg tk0 td rd hs day hm tk py db un ud rs be bp gp ln wh lk wa so tr kp r ro te ch pr sl mu wi ak he li (by omega) (by omega) (by omega) (by omega) hHB hHS) (cwV 1 hts gX9_room_X9_isRoom rfl rfl rfl (by decide +kernel) ⟨Nat.le_of_ble_eq_true rfl, Nat.le_of_ble_eq_true rfl⟩) hK hP 0 9 rfl rfl rfl hl.1 rfl (Nat.le_of_ble_eq_true rfl) dX9_room_2 ⟨Nat.zero_le _, Nat.zero_le _⟩ ?_
  refine z_if_eq (tgt := 20) hx hb bo_r dX9_room_5 (by decide) (fun c1 => ?_) (fun c1 => ?_)
  · have c1 := bo_f c1
    refine lv_iconst (v := zI (-1)) hx hb dX9_room_20 rfl ?_
    exact zr_iret hx hb hr hlocks hQ (by unfold sRoom whm; first | (rw [hie]; (repeat' split) <;> first | rfl | omega) | ((repeat' split) <;> first | rfl | omega)) dX9_room_21
  · have c1 := bo_t c1
    refine lv_iload_n hx hb dX9_room_8 rfl (lv_at hl 2 rfl) ?_
    refine z_i2l hx hb ⟨by omega, by omega⟩ dX9_room_9 ?_
    refine lv_lconst (v := zL 0) hx hb dX9_room_10 rfl ?_
    refine lv_ldc2 (v := zL 2) hx hb hown (hts (.constantLong RX9 128 (2)) (List.mem_of_getElem? (i := 1) rfl)) dX9_room_11 ?_
    have hPc2 := hP.sub (ws' := []) [] rfl
    refine zr_callS (rest := []) (As := [.long (zL what), .long (zL 0), .long (zL 2)]) (v := (if 0 ≤ what ∧ what ≤ 2 then 1 else 0)) (wd := []) ⟨hx, hb, hml, hown, hts⟩ (c_X9_in l D cy what 0 2 (by omega) (by omega) (by omega)) (va_cwS 3 hts gX9_room_X9_in rfl rfl rfl (by decide +kernel) ⟨Nat.le_of_ble_eq_true rfl, Nat.le_of_ble_eq_true rfl⟩) hK (fun k q h => by cases h) rfl hl.1 rfl (Nat.le_of_ble_eq_true rfl) dX9_room_14 ⟨Nat.zero_le _, Nat.zero_le _⟩ ?_
    refine z_if_ne (tgt := 22) hx hb bo_r dX9_room_17 (by decide) (fun c3 => ?_) (fun c3 => ?_)
    · have c3 := bo_t c3
      refine lv_iconst (v := zI 0) hx hb dX9_room_22 rfl ?_
      refine lv_istore_n (lv' := [(3, .int (zI 0)), (0, .ref (ma 0)), (1, .int (zI r)), (2, .int (zI what))]) hx hb dX9_room_23 rfl hl (by decide) rfl (fun ls hl => ?_)
      refine lv_iconst (v := zI 0) hx hb dX9_room_24 rfl ?_
      refine lv_istore (lv' := [(4, .int (zI 0)), (3, .int (zI 0)), (0, .ref (ma 0)), (1, .int (zI r)), (2, .int (zI what))]) hx hb dX9_room_25 hl (by decide) rfl (fun ls hl => ?_)
      have loop27 : ∀ (n9 : Nat) (i : Nat), te - i < n9 → (i ≤ te) → (0 ≤ r ∧ r < (ro : Int)) → (0 ≤ what ∧ what ≤ 2) → ∀ (x27_3 : Int), x27_3 = ((bits (fun t => decide (pr r.toNat ≤ 24 - sl t - mu t)) i : Nat) : Int) → ∀ (x27_4 : Int), x27_4 = ((i : Nat) : Int) → ∀ ls : Array Slot, lv_has ls 5 [(0, .ref (ma 0)), (1, .int (zI r)), (2, .int (zI what)), (3, .int (zI x27_3)), (4, .int (zI x27_4))] → W p l e rm_X9_room s m args below meth c s.heap [] 0 0 Q (F0 m 27 ls []) := by
        intro n9
        induction n9 with
        | zero => intro i h9; exact absurd h9 (Nat.not_lt_zero _)
        | succ n9 ih27 =>
          intro i hmu27 hi hg1 hg2 x27_3 ex27_3 x27_4 ex27_4 ls hl
          subst ex27_3
          subst ex27_4
          have hl : lv_has ls 5 [(0, .ref (ma 0)), (1, .int (zI r)), (2, .int (zI what)), (3, .int (zI ((bits (fun t => decide (pr r.toNat ≤ 24 - sl t - mu t)) i : Nat) : Int))), (4, .int (zI ((i : Nat) : Int)))] := hl
          have hf1 := bits_lt64 (fun t => decide (pr r.toNat ≤ 24 - sl t - mu t)) i (by omega)
          have hb1 := hHB.1 r.toNat
          have hb2 := hHB.2.1 i
          have hb3 := hHB.2.2.1 i
          refine lv_iload hx hb dX9_room_27 (lv_at hl 4 rfl) ?_
          refine lv_aload_n hx hb dX9_room_29 rfl (lv_at hl 0 rfl) ?_
          refine va_get (D := D) (ci := 9) (v := .ref (ma 3)) (C := RX9) (T := TX9) (N := 22) hx hb hts hinX9 hown hK hP 0 rfl rfl 7 (by decide) (hts (.fieldLink RX9 16 "SilentRentModel" "house" "[I") (List.mem_of_getElem? (i := 2) rfl)) (fun _ h9 => h9) rfl dX9_room_30 ?_
          refine lv_iconst (v := zI 1) hx hb dX9_room_33 rfl ?_
          refine z_iald2 hx hb hK hP 3 0 (f := hs) (v := ((te : Nat) : Int)) rfl rfl 1 (by omega) (by omega) (by decide) (hHS.2.1) dX9_room_34 ?_
          refine z_icmp_ge (tgt := 65) hx hb ⟨by omega, by omega⟩ ⟨by omega, by omega⟩ dX9_room_35 (by decide) (fun c4 => ?_) (fun c4 => ?_)
          · have c4 : (te : Nat) ≤ (i : Nat) := by omega
            refine lv_iload_n hx hb dX9_room_65 rfl (lv_at hl 2 rfl) ?_
            have hie : i = te := by omega
            refine z_if_ne (tgt := 80) hx hb ⟨by omega, by omega⟩ dX9_room_66 (by decide) (fun c5 => ?_) (fun c5 => ?_)
            · refine lv_iload_n hx hb dX9_room_80 rfl (lv_at hl 2 rfl) ?_
              refine lv_iconst (v := zI 1) hx hb dX9_room_81 rfl ?_
              refine z_icmp_ne (tgt := 93) hx hb ⟨by omega, by omega⟩ ⟨by omega, by omega⟩ dX9_room_82 (by decide) (fun c6 => ?_) (fun c6 => ?_)
              · refine lv_iload_n hx hb dX9_room_93 rfl (lv_at hl 3 rfl) ?_
                exact zr_iret hx hb hr hlocks hQ (by unfold sRoom whm; first | (rw [hie]; (repeat' split) <;> first | rfl | omega) | ((repeat' split) <;> first | rfl | omega)) dX9_room_94
              · refine lv_aload_n hx hb dX9_room_85 rfl (lv_at hl 0 rfl) ?_
                refine lv_iload_n hx hb dX9_room_86 rfl (lv_at hl 1 rfl) ?_
                refine zr_callV (rest := []) (As := [.int (zI r)]) (v := (dwl hm r 6 0)) ⟨hx, hb, hml, hown, hts⟩ (c_X9_livesIn l D cy ma xt xl at0 bg tk0 td rd hs day hm tk py db un ud rs be bp gp ln wh lk wa so tr kp r ro te ch pr sl mu wi ak he li (by omega) (by omega) (by omega) (by omega) hHB hHS hNB hNI) (cwV 1 hts gX9_room_X9_livesIn rfl rfl rfl (by decide +kernel) ⟨Nat.le_of_ble_eq_true rfl, Nat.le_of_ble_eq_true rfl⟩) hK hP 0 9 rfl rfl rfl hl.1 rfl (Nat.le_of_ble_eq_true rfl) dX9_room_87 ⟨Nat.zero_le _, Nat.zero_le _⟩ ?_
                refine lv_goto (tgt := 94) hx hb dX9_room_90 (by decide) ?_
                exact zr_iret hx hb hr hlocks hQ (by unfold sRoom whm; first | (rw [hie]; (repeat' split) <;> first | rfl | omega) | ((repeat' split) <;> first | rfl | omega)) dX9_room_94
            · refine lv_aload_n hx hb dX9_room_69 rfl (lv_at hl 0 rfl) ?_
              refine va_get (D := D) (ci := 9) (v := .ref (ma 3)) (C := RX9) (T := TX9) (N := 22) hx hb hts hinX9 hown hK hP 0 rfl rfl 7 (by decide) (hts (.fieldLink RX9 16 "SilentRentModel" "house" "[I") (List.mem_of_getElem? (i := 2) rfl)) (fun _ h9 => h9) rfl dX9_room_70 ?_
              refine lv_iconst (v := zI 3) hx hb dX9_room_73 rfl ?_
              refine lv_iload_n hx hb dX9_room_74 rfl (lv_at hl 1 rfl) ?_
              refine z_iadd (r := (3 + r)) hx hb rfl dX9_room_75 ?_
              refine z_iald2 hx hb hK hP 3 0 (f := hs) (v := (pr r.toNat)) rfl rfl (3 + r.toNat) (by omega) (by omega) (by decide) (hHS.2.2.2.1 r.toNat (by omega)) dX9_room_76 ?_
              have hb7 := hHB.1 r.toNat
              refine lv_goto (tgt := 94) hx hb dX9_room_77 (by decide) ?_
              exact zr_iret hx hb hr hlocks hQ (by unfold sRoom whm; first | (rw [hie]; (repeat' split) <;> first | rfl | omega) | ((repeat' split) <;> first | rfl | omega)) dX9_room_94
          · have c4 : ¬ ((te : Nat) ≤ (i : Nat)) := by omega
            refine lv_iload_n hx hb dX9_room_38 rfl (lv_at hl 3 rfl) ?_
            refine lv_aload_n hx hb dX9_room_39 rfl (lv_at hl 0 rfl) ?_
            refine lv_iload hx hb dX9_room_40 (lv_at hl 4 rfl) ?_
            refine lv_iload_n hx hb dX9_room_42 rfl (lv_at hl 1 rfl) ?_
            refine zr_callV (rest := [.int (zI ((bits (fun t => decide (pr r.toNat ≤ 24 - sl t - mu t)) i : Nat) : Int))]) (As := [.int (zI ((i : Nat) : Int)), .int (zI r)]) (v := (24 - sl i - mu i - pr r.toNat)) ⟨hx, hb, hml, hown, hts⟩ (c_X9_more l D cy ma xt xl at0 bg tk0 td rd hs day hm tk py db un ud rs be bp gp ln wh lk wa so tr kp ((i : Nat) : Int) r ro te ch pr sl mu wi ak he li (by omega) (by omega) (by omega) (by omega) (by omega) hHB hHS) (cwV 2 hts gX9_room_X9_more rfl rfl rfl (by decide +kernel) ⟨Nat.le_of_ble_eq_true rfl, Nat.le_of_ble_eq_true rfl⟩) hK hP 0 9 rfl rfl rfl hl.1 rfl (Nat.le_of_ble_eq_true rfl) dX9_room_43 ⟨Nat.zero_le _, Nat.zero_le _⟩ ?_
            refine z_if_lt (tgt := 56) hx hb ⟨by omega, by omega⟩ dX9_room_46 (by decide) (fun c8 => ?_) (fun c8 => ?_)
            · refine lv_iconst (v := zI 0) hx hb dX9_room_56 rfl ?_
              have hq9 := or_lt64 (a := (bits (fun t => decide (pr r.toNat ≤ 24 - sl t - mu t)) i)) (b := 0) (by omega) (by omega)
              refine z_ior (r := (((bits (fun t => decide (pr r.toNat ≤ 24 - sl t - mu t)) i) ||| 0 : Nat) : Int)) hx hb (zI_or (a := bits (fun t => decide (pr r.toNat ≤ 24 - sl t - mu t)) i) (b := 0) (by omega) (by omega)) dX9_room_57 ?_
              refine lv_istore_n (lv' := [(3, .int (zI (((bits (fun t => decide (pr r.toNat ≤ 24 - sl t - mu t)) i) ||| 0 : Nat) : Int))), (0, .ref (ma 0)), (1, .int (zI r)), (2, .int (zI what)), (4, .int (zI ((i : Nat) : Int)))]) hx hb dX9_room_58 rfl hl (by decide) rfl (fun ls hl => ?_)
              refine z_iinc (r := ((i + 1 : Nat) : Int)) (lv' := [(4, .int (zI ((i + 1 : Nat) : Int))), (3, .int (zI (((bits (fun t => decide (pr r.toNat ≤ 24 - sl t - mu t)) i) ||| 0 : Nat) : Int))), (0, .ref (ma 0)), (1, .int (zI r)), (2, .int (zI what))]) hx hb (by omega) dX9_room_59 hl (k := 4) rfl (by decide) rfl (fun ls hl => ?_)
              refine lv_goto (tgt := 27) hx hb dX9_room_62 (by decide) ?_
              exact ih27 (i + 1) (by omega) (by omega) (by omega) (by omega) (((bits (fun t => decide (pr r.toNat ≤ 24 - sl t - mu t)) i) ||| 0 : Nat) : Int) (by (simp only [bits, decide_eq_true_eq]) <;> (repeat' split) <;> first | rfl | omega | (simp; done)) ((i + 1 : Nat) : Int) (by first | rfl | omega) ls (lv_sub hl [2, 3, 4, 1, 0] rfl)
            · refine lv_iconst (v := zI 1) hx hb dX9_room_49 rfl ?_
              refine lv_iload hx hb dX9_room_50 (lv_at hl 4 rfl) ?_
              have hp10 := pow_le3 i (by omega)
              refine z_ishl (r := ((2 ^ i : Nat) : Int)) hx hb (zI_shl1 i (by omega)) dX9_room_52 ?_
              refine lv_goto (tgt := 57) hx hb dX9_room_53 (by decide) ?_
              have hq11 := or_lt64 (a := (bits (fun t => decide (pr r.toNat ≤ 24 - sl t - mu t)) i)) (b := (2 ^ i)) (by omega) (by omega)
              refine z_ior (r := (((bits (fun t => decide (pr r.toNat ≤ 24 - sl t - mu t)) i) ||| (2 ^ i) : Nat) : Int)) hx hb (zI_or (a := bits (fun t => decide (pr r.toNat ≤ 24 - sl t - mu t)) i) (b := 2 ^ i) (by omega) (by omega)) dX9_room_57 ?_
              refine lv_istore_n (lv' := [(3, .int (zI (((bits (fun t => decide (pr r.toNat ≤ 24 - sl t - mu t)) i) ||| (2 ^ i) : Nat) : Int))), (0, .ref (ma 0)), (1, .int (zI r)), (2, .int (zI what)), (4, .int (zI ((i : Nat) : Int)))]) hx hb dX9_room_58 rfl hl (by decide) rfl (fun ls hl => ?_)
              refine z_iinc (r := ((i + 1 : Nat) : Int)) (lv' := [(4, .int (zI ((i + 1 : Nat) : Int))), (3, .int (zI (((bits (fun t => decide (pr r.toNat ≤ 24 - sl t - mu t)) i) ||| (2 ^ i) : Nat) : Int))), (0, .ref (ma 0)), (1, .int (zI r)), (2, .int (zI what))]) hx hb (by omega) dX9_room_59 hl (k := 4) rfl (by decide) rfl (fun ls hl => ?_)
              refine lv_goto (tgt := 27) hx hb dX9_room_62 (by decide) ?_
              exact ih27 (i + 1) (by omega) (by omega) (by omega) (by omega) (((bits (fun t => decide (pr r.toNat ≤ 24 - sl t - mu t)) i) ||| (2 ^ i) : Nat) : Int) (by (simp only [bits, decide_eq_true_eq]) <;> (repeat' split) <;> first | rfl | omega | (simp; done)) ((i + 1 : Nat) : Int) (by first | rfl | omega) ls (lv_sub hl [2, 3, 4, 1, 0] rfl)
      exact loop27 ((te - 0) + 1) 0 (by omega) (by omega) (by omega) (by omega) 0 (by first | rfl | omega | simp) 0 (by first | rfl | omega | simp) ls (lv_sub hl [2, 3, 4, 1, 0] rfl)
    · have c3 := bo_f c3
      refine lv_iconst (v := zI (-1)) hx hb dX9_room_20 rfl ?_
      exact zr_iret hx hb hr hlocks hQ (by unfold sRoom whm; first | (rw [hie]; (repeat' split) <;> first | rfl | omega) | ((repeat' split) <;> first | rfl | omega)) dX9_room_21
abbrev rm_X9_tenant : Room := { frames := 2, cells := 0, slots := 0, locals := 46 }
set_option maxHeartbeats 4000000 in
set_option maxRecDepth 100000 in
theorem c_X9_tenant (l : Launch) (D : va_G) (cy : Nat → ClassId) (ma : Nat → Nat) (xt : Nat → Int) (xl : Nat) (at0 : Nat) (bg : Nat) (tk0 : Int) (td : Int) (rd : Nat → Int) (hs : Nat → Int) (day : Int) (hm : Nat → Int) (tk : Nat → Int) (py : Nat → Int) (db : Nat → Int) (un : Nat → Int) (ud : Nat) (rs : Nat → Int) (be : Int) (bp : Int) (gp : Nat → Int) (ln : Nat) (wh : Nat → Nat) (lk : Nat → Int) (wa : Int) (so : Nat → Nat) (tr : Int) (kp : Nat → Int) (t : Int) (what : Int) (ro : Nat) (te : Nat) (ch : Nat) (pr : Nat → Int) (sl : Nat → Int) (mu : Nat → Int) (wi : Nat → Int) (ak : Nat → Int) (he : Nat → Nat) (li : Nat → Nat) (ht0 : inR t) (hw0 : inR what) (hro : ro ≤ 6) (hte : te ≤ 6) (hch : ch ≤ 5) (hHB : HB pr sl mu wi ak he li) (hHS : HS hs ro te ch pr sl mu wi ak he li) (hNB : NB hm tk py db) : Met l yX9_tenant wsX9_tenant rm_X9_tenant (pR D cy [((ma 0), .inr (9, [.ref (ma 1), .int (zI ((xl : Nat) : Int)), .int (zI ((at0 : Nat) : Int)), .int (zI ((bg : Nat) : Int)), .int (zI tk0), .int (zI td), .ref (ma 2), .ref (ma 3), .ref (ma 4), .ref (ma 5), .int (zI ((ud : Nat) : Int)), .ref (ma 6), .int (zI be), .int (zI bp), .ref (ma 7), .int (zI ((ln : Nat) : Int)), .ref (ma 8), .ref (ma 9), .int (zI wa), .ref (ma 10), .long (zL tr), .ref (ma 11)])), ((ma 1), .inl (cy 0, 200, .inl (zA xt))), ((ma 2), .inl (cy 0, 44, .inl (zA rd))), ((ma 3), .inl (cy 0, 44, .inl (zA hs))), ((ma 4), .inl (cy 0, 25, .inl (zA (enc day hm tk py db)))), ((ma 5), .inl (cy 0, 250, .inl (zA un))), ((ma 6), .inl (cy 0, 6, .inl (zA rs))), ((ma 7), .inl (cy 0, 64, .inl (zA gp))), ((ma 8), .inl (cy 0, 6, .inl (zA (fun j => ((wh j : Nat) : Int))))), ((ma 9), .inl (cy 0, 6, .inl (zA lk))), ((ma 10), .inl (cy 0, 6, .inl (zA (fun j => ((so j : Nat) : Int))))), ((ma 11), .inl (cy 0, 554, .inl (zA kp)))] [.ref (ma 0), .int (zI t), .int (zI what)]) (qR (sTen sl mu wi ak he hm tk py db te t what)) 0 0 (fun _ => False) := by
  refine met_R (cc := cX9_tenant) (maxL := 3) (ret := (some .int)) RX9 (by decide) rfl rfl (Nat.le_of_ble_eq_true rfl) ?_
  intro p e s m args below meth c ls Q hx hb hr hml hts hown hlocks hQ hP hK hl
  have hl : lv_has ls 3 [(0, .ref (ma 0)), (1, .int (zI t)), (2, .int (zI what))] := hl
  have hinX9 : ∀ w ∈ wsX90, w ∈ wsX9_tenant := (fun w h => List.mem_cons_of_mem _ (List.mem_append_right _ h))
  refine lv_aload_n hx hb dX9_tenant_0 rfl (lv_at hl 0 rfl) ?_
  refine lv_iload_n hx hb dX9_tenant_1 rfl (lv_at hl 1 rfl) ?_
  refine zr_callV (rest := []) (As := [.int (zI t)]) (v := (if 0 ≤ t ∧ t ≤ ((te : Nat) : Int) - 1 then 1 else 0)) ⟨hx, hb, hml, hown, hts⟩ (c_X9_isTenant l D cy ma xt xl at0 bg tk0 td rd hs day hm tk py db un ud rs be bp gp ln wh lk wa so tr kp t ro te ch pr sl mu wi ak he li (by omega) (by omega) (by omega) (by omega) hHB hHS) (cwV 1 hts gX9_tenant_X9_isTenant rfl rfl rfl (by decide +kernel) ⟨Nat.le_of_ble_eq_true rfl, Nat.le_of_ble_eq_true rfl⟩) hK hP 0 9 rfl rfl rfl hl.1 rfl (Nat.le_of_ble_eq_true rfl) dX9_tenant_2 ⟨Nat.zero_le _, Nat.zero_le _⟩ ?_
  refine z_if_eq (tgt := 20) hx hb bo_r dX9_tenant_5 (by decide) (fun c1 => ?_) (fun c1 => ?_)
  · have c1 := bo_f c1
    refine lv_iconst (v := zI (-1)) hx hb dX9_tenant_20 rfl ?_
    exact zr_iret hx hb hr hlocks hQ (by unfold sTen; (repeat' split) <;> first | rfl | omega) dX9_tenant_21
  · have c1 := bo_t c1
    refine lv_iload_n hx hb dX9_tenant_8 rfl (lv_at hl 2 rfl) ?_
    refine z_i2l hx hb ⟨by omega, by omega⟩ dX9_tenant_9 ?_
    refine lv_lconst (v := zL 0) hx hb dX9_tenant_10 rfl ?_
    refine lv_ldc2 (v := zL 9) hx hb hown (hts (.constantLong RX9 140 (9)) (List.mem_of_getElem? (i := 1) rfl)) dX9_tenant_11 ?_
    have hPc2 := hP.sub (ws' := []) [] rfl
    refine zr_callS (rest := []) (As := [.long (zL what), .long (zL 0), .long (zL 9)]) (v := (if 0 ≤ what ∧ what ≤ 9 then 1 else 0)) (wd := []) ⟨hx, hb, hml, hown, hts⟩ (c_X9_in l D cy what 0 9 (by omega) (by omega) (by omega)) (va_cwS 3 hts gX9_tenant_X9_in rfl rfl rfl (by decide +kernel) ⟨Nat.le_of_ble_eq_true rfl, Nat.le_of_ble_eq_true rfl⟩) hK (fun k q h => by cases h) rfl hl.1 rfl (Nat.le_of_ble_eq_true rfl) dX9_tenant_14 ⟨Nat.zero_le _, Nat.zero_le _⟩ ?_
    refine z_if_ne (tgt := 22) hx hb bo_r dX9_tenant_17 (by decide) (fun c3 => ?_) (fun c3 => ?_)
    · have c3 := bo_t c3
      refine lv_iload_n hx hb dX9_tenant_22 rfl (lv_at hl 2 rfl) ?_
      refine lv_iconst (v := zI 4) hx hb dX9_tenant_23 rfl ?_
      refine z_icmp_ge (tgt := 43) hx hb ⟨by omega, by omega⟩ ⟨by omega, by omega⟩ dX9_tenant_24 (by decide) (fun c4 => ?_) (fun c4 => ?_)
      · refine lv_iload_n hx hb dX9_tenant_43 rfl (lv_at hl 2 rfl) ?_
        refine lv_bipush (v := zI 8) hx hb dX9_tenant_44 (by decide) ?_
        refine z_icmp_ge (tgt := 66) hx hb ⟨by omega, by omega⟩ ⟨by omega, by omega⟩ dX9_tenant_46 (by decide) (fun c5 => ?_) (fun c5 => ?_)
        · refine lv_iload_n hx hb dX9_tenant_66 rfl (lv_at hl 2 rfl) ?_
          refine lv_bipush (v := zI 8) hx hb dX9_tenant_67 (by decide) ?_
          refine z_icmp_ne (tgt := 80) hx hb ⟨by omega, by omega⟩ ⟨by omega, by omega⟩ dX9_tenant_69 (by decide) (fun c6 => ?_) (fun c6 => ?_)
          · refine lv_aload_n hx hb dX9_tenant_80 rfl (lv_at hl 0 rfl) ?_
            refine va_get (D := D) (ci := 9) (v := .ref (ma 3)) (C := RX9) (T := TX9) (N := 22) hx hb hts hinX9 hown hK hP 0 rfl rfl 7 (by decide) (hts (.fieldLink RX9 16 "SilentRentModel" "house" "[I") (List.mem_of_getElem? (i := 2) rfl)) (fun _ h9 => h9) rfl dX9_tenant_81 ?_
            refine lv_bipush (v := zI 9) hx hb dX9_tenant_84 (by decide) ?_
            refine lv_iconst (v := zI 5) hx hb dX9_tenant_86 rfl ?_
            refine lv_iload_n hx hb dX9_tenant_87 rfl (lv_at hl 1 rfl) ?_
            refine z_imul (r := (5 * t)) hx hb rfl dX9_tenant_88 ?_
            refine z_iadd (r := (9 + (5 * t))) hx hb rfl dX9_tenant_89 ?_
            refine lv_iconst (v := zI 4) hx hb dX9_tenant_90 rfl ?_
            refine z_iadd (r := ((9 + (5 * t)) + 4)) hx hb rfl dX9_tenant_91 ?_
            refine z_iald2 hx hb hK hP 3 0 (f := hs) (v := ((he t.toNat : Nat) : Int)) rfl rfl (9 + 5 * t.toNat + 4) (by omega) (by omega) (by decide) ((hHS.2.2.2.2.1 t.toNat (by omega)).2.2.2.2) dX9_tenant_92 ?_
            have hb7 := hHB.2.2.2.2.2.1 t.toNat
            exact zr_iret hx hb hr hlocks hQ (by unfold sTen; (repeat' split) <;> first | rfl | omega) dX9_tenant_93
          · refine lv_aload_n hx hb dX9_tenant_72 rfl (lv_at hl 0 rfl) ?_
            refine lv_iload_n hx hb dX9_tenant_73 rfl (lv_at hl 1 rfl) ?_
            refine zr_callV (rest := []) (As := [.int (zI t)]) (v := (max 0 (24 - sl t.toNat - py t.toNat))) ⟨hx, hb, hml, hown, hts⟩ (c_X9_silent l D cy ma xt xl at0 bg tk0 td rd hs day hm tk py db un ud rs be bp gp ln wh lk wa so tr kp t ro te ch pr sl mu wi ak he li (by omega) (by omega) (by omega) (by omega) hHB hHS hNB) (cwV 1 hts gX9_tenant_X9_silent rfl rfl rfl (by decide +kernel) ⟨Nat.le_of_ble_eq_true rfl, Nat.le_of_ble_eq_true rfl⟩) hK hP 0 9 rfl rfl rfl hl.1 rfl (Nat.le_of_ble_eq_true rfl) dX9_tenant_74 ⟨Nat.zero_le _, Nat.zero_le _⟩ ?_
            refine lv_goto (tgt := 93) hx hb dX9_tenant_77 (by decide) ?_
            exact zr_iret hx hb hr hlocks hQ (by unfold sTen; (repeat' split) <;> first | rfl | omega) dX9_tenant_93
        · refine lv_aload_n hx hb dX9_tenant_49 rfl (lv_at hl 0 rfl) ?_
          refine va_get (D := D) (ci := 9) (v := .ref (ma 4)) (C := RX9) (T := TX9) (N := 22) hx hb hts hinX9 hown hK hP 0 rfl rfl 8 (by decide) (hts (.fieldLink RX9 19 "SilentRentModel" "now" "[I") (List.mem_of_getElem? (i := 3) rfl)) (fun _ h9 => h9) rfl dX9_tenant_50 ?_
          refine lv_iconst (v := zI 1) hx hb dX9_tenant_53 rfl ?_
          refine lv_iconst (v := zI 4) hx hb dX9_tenant_54 rfl ?_
          refine lv_iload_n hx hb dX9_tenant_55 rfl (lv_at hl 1 rfl) ?_
          refine z_imul (r := (4 * t)) hx hb rfl dX9_tenant_56 ?_
          refine z_iadd (r := (1 + (4 * t))) hx hb rfl dX9_tenant_57 ?_
          refine lv_iload_n hx hb dX9_tenant_58 rfl (lv_at hl 2 rfl) ?_
          refine z_iadd (r := ((1 + (4 * t)) + what)) hx hb rfl dX9_tenant_59 ?_
          refine lv_iconst (v := zI 4) hx hb dX9_tenant_60 rfl ?_
          refine z_isub (r := (((1 + (4 * t)) + what) - 4)) hx hb rfl dX9_tenant_61 ?_
          refine z_iald2 hx hb hK hP 4 0 (f := (enc day hm tk py db)) (v := (if what = 4 then hm t.toNat else if what = 5 then tk t.toNat else if what = 6 then py t.toNat else db t.toNat)) rfl rfl ((((1 + (4 * t)) + what) - 4).toNat) (by omega) (by omega) (by decide) (by ((repeat' split) <;> first | exact (congrArg (enc day hm tk py db) (show _ = 1 + 4 * t.toNat from by omega)).trans enc_1 | exact (congrArg (enc day hm tk py db) (show _ = 2 + 4 * t.toNat from by omega)).trans enc_2 | exact (congrArg (enc day hm tk py db) (show _ = 3 + 4 * t.toNat from by omega)).trans enc_3 | exact (congrArg (enc day hm tk py db) (show _ = 4 + 4 * t.toNat from by omega)).trans enc_4)) dX9_tenant_62 ?_
          refine lv_goto (tgt := 93) hx hb dX9_tenant_63 (by decide) ?_
          exact zr_iret hx hb hr hlocks hQ (by unfold sTen; (repeat' split) <;> first | rfl | omega) dX9_tenant_93
      · have h9 := hHS.2.2.2.2.1 t.toNat (by omega)
        have hb2 := hHB.2.1 t.toNat
        have hb3 := hHB.2.2.1 t.toNat
        have hb4 := hHB.2.2.2.1 t.toNat
        have hb5 := hHB.2.2.2.2.1 t.toNat
        refine lv_aload_n hx hb dX9_tenant_27 rfl (lv_at hl 0 rfl) ?_
        refine va_get (D := D) (ci := 9) (v := .ref (ma 3)) (C := RX9) (T := TX9) (N := 22) hx hb hts hinX9 hown hK hP 0 rfl rfl 7 (by decide) (hts (.fieldLink RX9 16 "SilentRentModel" "house" "[I") (List.mem_of_getElem? (i := 2) rfl)) (fun _ h9 => h9) rfl dX9_tenant_28 ?_
        refine lv_bipush (v := zI 9) hx hb dX9_tenant_31 (by decide) ?_
        refine lv_iconst (v := zI 5) hx hb dX9_tenant_33 rfl ?_
        refine lv_iload_n hx hb dX9_tenant_34 rfl (lv_at hl 1 rfl) ?_
        refine z_imul (r := (5 * t)) hx hb rfl dX9_tenant_35 ?_
        refine z_iadd (r := (9 + (5 * t))) hx hb rfl dX9_tenant_36 ?_
        refine lv_iload_n hx hb dX9_tenant_37 rfl (lv_at hl 2 rfl) ?_
        refine z_iadd (r := ((9 + (5 * t)) + what)) hx hb rfl dX9_tenant_38 ?_
        refine z_iald2 hx hb hK hP 3 0 (f := hs) (v := (if what = 0 then sl t.toNat else if what = 1 then mu t.toNat else if what = 2 then wi t.toNat else ak t.toNat)) rfl rfl (((9 + (5 * t)) + what).toNat) (by omega) (by omega) (by decide) (by ((repeat' split) <;> first | exact (congrArg hs (show _ = 9 + 5 * t.toNat from by omega)).trans h9.1 | exact (congrArg hs (show _ = 9 + 5 * t.toNat + 1 from by omega)).trans h9.2.1 | exact (congrArg hs (show _ = 9 + 5 * t.toNat + 2 from by omega)).trans h9.2.2.1 | exact (congrArg hs (show _ = 9 + 5 * t.toNat + 3 from by omega)).trans h9.2.2.2.1)) dX9_tenant_39 ?_
        refine lv_goto (tgt := 93) hx hb dX9_tenant_40 (by decide) ?_
        exact zr_iret hx hb hr hlocks hQ (by unfold sTen; (repeat' split) <;> first | rfl | omega) dX9_tenant_93
    · have c3 := bo_f c3
      refine lv_iconst (v := zI (-1)) hx hb dX9_tenant_20 rfl ?_
      exact zr_iret hx hb hr hlocks hQ (by unfold sTen; (repeat' split) <;> first | rfl | omega) dX9_tenant_21
abbrev rm_X9_lips : Room := { frames := 0, cells := 0, slots := 0, locals := 0 }
set_option maxHeartbeats 4000000 in
set_option maxRecDepth 100000 in
theorem c_X9_lips (l : Launch) (D : va_G) (cy : Nat → ClassId) (ma : Nat → Nat) (xt : Nat → Int) (xl : Nat) (at0 : Nat) (bg : Nat) (tk0 : Int) (td : Int) (rd : Nat → Int) (hs : Nat → Int) (day : Int) (hm : Nat → Int) (tk : Nat → Int) (py : Nat → Int) (db : Nat → Int) (un : Nat → Int) (ud : Nat) (rs : Nat → Int) (be : Int) (bp : Int) (gp : Nat → Int) (ln : Nat) (wh : Nat → Nat) (lk : Nat → Int) (wa : Int) (so : Nat → Nat) (tr : Int) (kp : Nat → Int) (k0 : Int) (ro : Nat) (te : Nat) (ch : Nat) (pr : Nat → Int) (sl : Nat → Int) (mu : Nat → Int) (wi : Nat → Int) (ak : Nat → Int) (he : Nat → Nat) (li : Nat → Nat) (hk0 : 0 ≤ k0 ∧ k0 < (ch : Int)) (hro : ro ≤ 6) (hte : te ≤ 6) (hch : ch ≤ 5) (hHB : HB pr sl mu wi ak he li) (hHS : HS hs ro te ch pr sl mu wi ak he li) : Met l yX9_lips wsX9_lips rm_X9_lips (pR D cy [((ma 0), .inr (9, [.ref (ma 1), .int (zI ((xl : Nat) : Int)), .int (zI ((at0 : Nat) : Int)), .int (zI ((bg : Nat) : Int)), .int (zI tk0), .int (zI td), .ref (ma 2), .ref (ma 3), .ref (ma 4), .ref (ma 5), .int (zI ((ud : Nat) : Int)), .ref (ma 6), .int (zI be), .int (zI bp), .ref (ma 7), .int (zI ((ln : Nat) : Int)), .ref (ma 8), .ref (ma 9), .int (zI wa), .ref (ma 10), .long (zL tr), .ref (ma 11)])), ((ma 1), .inl (cy 0, 200, .inl (zA xt))), ((ma 2), .inl (cy 0, 44, .inl (zA rd))), ((ma 3), .inl (cy 0, 44, .inl (zA hs))), ((ma 4), .inl (cy 0, 25, .inl (zA (enc day hm tk py db)))), ((ma 5), .inl (cy 0, 250, .inl (zA un))), ((ma 6), .inl (cy 0, 6, .inl (zA rs))), ((ma 7), .inl (cy 0, 64, .inl (zA gp))), ((ma 8), .inl (cy 0, 6, .inl (zA (fun j => ((wh j : Nat) : Int))))), ((ma 9), .inl (cy 0, 6, .inl (zA lk))), ((ma 10), .inl (cy 0, 6, .inl (zA (fun j => ((so j : Nat) : Int))))), ((ma 11), .inl (cy 0, 554, .inl (zA kp)))] [.ref (ma 0), .int (zI k0)]) (qR ((li k0.toNat &&& (2 ^ te - 1) : Nat) : Int)) 0 0 (fun _ => False) := by
  refine met_R (cc := cX9_lips) (maxL := 2) (ret := (some .int)) RX9 (by decide) rfl rfl (Nat.le_of_ble_eq_true rfl) ?_
  intro p e s m args below meth c ls Q hx hb hr hml hts hown hlocks hQ hP hK hl
  have hl : lv_has ls 2 [(0, .ref (ma 0)), (1, .int (zI k0))] := hl
  have hinX9 : ∀ w ∈ wsX90, w ∈ wsX9_lips := (fun w h => List.mem_cons_of_mem _ (List.mem_append_right _ h))
  refine lv_aload_n hx hb dX9_lips_0 rfl (lv_at hl 0 rfl) ?_
  refine va_get (D := D) (ci := 9) (v := .ref (ma 3)) (C := RX9) (T := TX9) (N := 22) hx hb hts hinX9 hown hK hP 0 rfl rfl 7 (by decide) (hts (.fieldLink RX9 16 "SilentRentModel" "house" "[I") (List.mem_of_getElem? (i := 1) rfl)) (fun _ h9 => h9) rfl dX9_lips_1 ?_
  refine lv_bipush (v := zI 39) hx hb dX9_lips_4 (by decide) ?_
  refine lv_iload_n hx hb dX9_lips_6 rfl (lv_at hl 1 rfl) ?_
  refine z_iadd (r := (39 + k0)) hx hb rfl dX9_lips_7 ?_
  refine z_iald2 hx hb hK hP 3 0 (f := hs) (v := ((li k0.toNat : Nat) : Int)) rfl rfl (39 + k0.toNat) (by omega) (by omega) (by decide) (hHS.2.2.2.2.2 k0.toNat (by omega)) dX9_lips_8 ?_
  have hb1 := hHB.2.2.2.2.2.2 k0.toNat
  refine lv_iconst (v := zI 1) hx hb dX9_lips_9 rfl ?_
  refine lv_aload_n hx hb dX9_lips_10 rfl (lv_at hl 0 rfl) ?_
  refine va_get (D := D) (ci := 9) (v := .ref (ma 3)) (C := RX9) (T := TX9) (N := 22) hx hb hts hinX9 hown hK hP 0 rfl rfl 7 (by decide) (hts (.fieldLink RX9 16 "SilentRentModel" "house" "[I") (List.mem_of_getElem? (i := 1) rfl)) (fun _ h9 => h9) rfl dX9_lips_11 ?_
  refine lv_iconst (v := zI 1) hx hb dX9_lips_14 rfl ?_
  refine z_iald2 hx hb hK hP 3 0 (f := hs) (v := ((te : Nat) : Int)) rfl rfl 1 (by omega) (by omega) (by decide) (hHS.2.1) dX9_lips_15 ?_
  have hp2 := pow_le3 te (by omega)
  refine z_ishl (r := ((2 ^ te : Nat) : Int)) hx hb (zI_shl1 te (by omega)) dX9_lips_16 ?_
  refine lv_iconst (v := zI 1) hx hb dX9_lips_17 rfl ?_
  refine z_isub (r := ((2 ^ te - 1 : Nat) : Int)) hx hb (by omega) dX9_lips_18 ?_
  have hq3 : (li k0.toNat) &&& (2 ^ te - 1) ≤ (li k0.toNat) := Nat.and_le_left
  refine z_iand (r := (((li k0.toNat) &&& (2 ^ te - 1) : Nat) : Int)) hx hb (zI_and (a := li k0.toNat) (b := 2 ^ te - 1) (by omega) (by omega)) dX9_lips_19 ?_
  exact zr_iret hx hb hr hlocks hQ (by rfl) dX9_lips_20
abbrev rm_X9_chair : Room := { frames := 1, cells := 0, slots := 0, locals := 25 }
set_option maxHeartbeats 4000000 in
set_option maxRecDepth 100000 in
theorem c_X9_chair (l : Launch) (D : va_G) (cy : Nat → ClassId) (ma : Nat → Nat) (xt : Nat → Int) (xl : Nat) (at0 : Nat) (bg : Nat) (tk0 : Int) (td : Int) (rd : Nat → Int) (hs : Nat → Int) (day : Int) (hm : Nat → Int) (tk : Nat → Int) (py : Nat → Int) (db : Nat → Int) (un : Nat → Int) (ud : Nat) (rs : Nat → Int) (be : Int) (bp : Int) (gp : Nat → Int) (ln : Nat) (wh : Nat → Nat) (lk : Nat → Int) (wa : Int) (so : Nat → Nat) (tr : Int) (kp : Nat → Int) (k0 : Int) (ro : Nat) (te : Nat) (ch : Nat) (pr : Nat → Int) (sl : Nat → Int) (mu : Nat → Int) (wi : Nat → Int) (ak : Nat → Int) (he : Nat → Nat) (li : Nat → Nat) (hk0 : inR k0) (hro : ro ≤ 6) (hte : te ≤ 6) (hch : ch ≤ 5) (hHB : HB pr sl mu wi ak he li) (hHS : HS hs ro te ch pr sl mu wi ak he li) : Met l yX9_chair wsX9_chair rm_X9_chair (pR D cy [((ma 0), .inr (9, [.ref (ma 1), .int (zI ((xl : Nat) : Int)), .int (zI ((at0 : Nat) : Int)), .int (zI ((bg : Nat) : Int)), .int (zI tk0), .int (zI td), .ref (ma 2), .ref (ma 3), .ref (ma 4), .ref (ma 5), .int (zI ((ud : Nat) : Int)), .ref (ma 6), .int (zI be), .int (zI bp), .ref (ma 7), .int (zI ((ln : Nat) : Int)), .ref (ma 8), .ref (ma 9), .int (zI wa), .ref (ma 10), .long (zL tr), .ref (ma 11)])), ((ma 1), .inl (cy 0, 200, .inl (zA xt))), ((ma 2), .inl (cy 0, 44, .inl (zA rd))), ((ma 3), .inl (cy 0, 44, .inl (zA hs))), ((ma 4), .inl (cy 0, 25, .inl (zA (enc day hm tk py db)))), ((ma 5), .inl (cy 0, 250, .inl (zA un))), ((ma 6), .inl (cy 0, 6, .inl (zA rs))), ((ma 7), .inl (cy 0, 64, .inl (zA gp))), ((ma 8), .inl (cy 0, 6, .inl (zA (fun j => ((wh j : Nat) : Int))))), ((ma 9), .inl (cy 0, 6, .inl (zA lk))), ((ma 10), .inl (cy 0, 6, .inl (zA (fun j => ((so j : Nat) : Int))))), ((ma 11), .inl (cy 0, 554, .inl (zA kp)))] [.ref (ma 0), .int (zI k0)]) (qR (if 0 ≤ k0 ∧ k0 < (ch : Int) then ((li k0.toNat &&& (2 ^ te - 1) : Nat) : Int) else -1)) 0 0 (fun _ => False) := by
  refine met_R (cc := cX9_chair) (maxL := 2) (ret := (some .int)) RX9 (by decide) rfl rfl (Nat.le_of_ble_eq_true rfl) ?_
  intro p e s m args below meth c ls Q hx hb hr hml hts hown hlocks hQ hP hK hl
  have hl : lv_has ls 2 [(0, .ref (ma 0)), (1, .int (zI k0))] := hl
  have hinX9 : ∀ w ∈ wsX90, w ∈ wsX9_chair := (fun w h => List.mem_cons_of_mem _ (List.mem_append_right _ h))
  refine lv_iload_n hx hb dX9_chair_0 rfl (lv_at hl 1 rfl) ?_
  refine z_i2l hx hb ⟨by omega, by omega⟩ dX9_chair_1 ?_
  refine lv_lconst (v := zL 0) hx hb dX9_chair_2 rfl ?_
  refine lv_aload_n hx hb dX9_chair_3 rfl (lv_at hl 0 rfl) ?_
  refine va_get (D := D) (ci := 9) (v := .ref (ma 3)) (C := RX9) (T := TX9) (N := 22) hx hb hts hinX9 hown hK hP 0 rfl rfl 7 (by decide) (hts (.fieldLink RX9 16 "SilentRentModel" "house" "[I") (List.mem_of_getElem? (i := 1) rfl)) (fun _ h9 => h9) rfl dX9_chair_4 ?_
  refine lv_iconst (v := zI 2) hx hb dX9_chair_7 rfl ?_
  refine z_iald2 hx hb hK hP 3 0 (f := hs) (v := ((ch : Nat) : Int)) rfl rfl 2 (by omega) (by omega) (by decide) (hHS.2.2.1) dX9_chair_8 ?_
  refine lv_iconst (v := zI 1) hx hb dX9_chair_9 rfl ?_
  refine z_isub (r := (((ch : Nat) : Int) - 1)) hx hb rfl dX9_chair_10 ?_
  refine z_i2l hx hb ⟨by omega, by omega⟩ dX9_chair_11 ?_
  have hPc1 := hP.sub (ws' := []) [] rfl
  refine zr_callS (rest := []) (As := [.long (zL k0), .long (zL 0), .long (zL (((ch : Nat) : Int) - 1))]) (v := (if 0 ≤ k0 ∧ k0 ≤ (((ch : Nat) : Int) - 1) then 1 else 0)) (wd := []) ⟨hx, hb, hml, hown, hts⟩ (c_X9_in l D cy k0 0 (((ch : Nat) : Int) - 1) (by omega) (by omega) (by omega)) (va_cwS 3 hts gX9_chair_X9_in rfl rfl rfl (by decide +kernel) ⟨Nat.le_of_ble_eq_true rfl, Nat.le_of_ble_eq_true rfl⟩) hK (fun k q h => by cases h) rfl hl.1 rfl (Nat.le_of_ble_eq_true rfl) dX9_chair_12 ⟨Nat.zero_le _, Nat.zero_le _⟩ ?_
  refine z_if_eq (tgt := 26) hx hb bo_r dX9_chair_15 (by decide) (fun c2 => ?_) (fun c2 => ?_)
  · have c2 := bo_f c2
    refine lv_iconst (v := zI (-1)) hx hb dX9_chair_26 rfl ?_
    exact zr_iret hx hb hr hlocks hQ (by (repeat' split) <;> first | rfl | omega) dX9_chair_27
  · have c2 := bo_t c2
    refine lv_aload_n hx hb dX9_chair_18 rfl (lv_at hl 0 rfl) ?_
    refine lv_iload_n hx hb dX9_chair_19 rfl (lv_at hl 1 rfl) ?_
    refine zr_callV (rest := []) (As := [.int (zI k0)]) (v := ((li k0.toNat &&& (2 ^ te - 1) : Nat) : Int)) ⟨hx, hb, hml, hown, hts⟩ (c_X9_lips l D cy ma xt xl at0 bg tk0 td rd hs day hm tk py db un ud rs be bp gp ln wh lk wa so tr kp k0 ro te ch pr sl mu wi ak he li (by omega) (by omega) (by omega) (by omega) hHB hHS) (cwV 1 hts gX9_chair_X9_lips rfl rfl rfl (by decide +kernel) ⟨Nat.le_of_ble_eq_true rfl, Nat.le_of_ble_eq_true rfl⟩) hK hP 0 9 rfl rfl rfl hl.1 rfl (Nat.le_of_ble_eq_true rfl) dX9_chair_20 ⟨Nat.zero_le _, Nat.zero_le _⟩ ?_
    refine lv_goto (tgt := 27) hx hb dX9_chair_23 (by decide) ?_
    exact zr_iret hx hb hr hlocks hQ (by (repeat' split) <;> first | rfl | omega) dX9_chair_27
abbrev rm_X9_many : Room := { frames := 0, cells := 0, slots := 0, locals := 0 }
set_option maxHeartbeats 4000000 in
set_option maxRecDepth 100000 in
theorem c_X9_many (l : Launch) (D : va_G) (cy : Nat → ClassId) (s0 : Int) (hs0 : 0 ≤ s0 ∧ s0 < 64) : Met l yX9_many wsX9_many rm_X9_many (pR D cy [] [.int (zI s0)]) (qR ((popc s0.toNat : Nat) : Int)) 0 0 (fun _ => False) := by
  refine met_R (cc := cX9_many) (maxL := 3) (ret := (some .int)) RX9 (by decide) rfl rfl (Nat.le_of_ble_eq_true rfl) ?_
  intro p e s m args below meth c ls Q hx hb hr hml hts hown hlocks hQ hP hK hl
  have hl : lv_has ls 3 [(0, .int (zI s0))] := hl
  refine lv_iconst (v := zI 0) hx hb dX9_many_0 rfl ?_
  refine lv_istore_n (lv' := [(1, .int (zI 0)), (0, .int (zI s0))]) hx hb dX9_many_1 rfl hl (by decide) rfl (fun ls hl => ?_)
  refine lv_iload_n hx hb dX9_many_2 rfl (lv_at hl 1 rfl) ?_
  refine lv_istore_n (lv' := [(2, .int (zI s0)), (1, .int (zI 0)), (0, .int (zI s0))]) hx hb dX9_many_3 rfl hl (by decide) rfl (fun ls hl => ?_)
  have loop4 : ∀ (n9 : Nat) (i : Nat) (q : Nat), q < n9 → (q < 64) → (i + popc q = popc s0.toNat) → ∀ (x4_1 : Int), x4_1 = ((i : Nat) : Int) → ∀ (x4_2 : Int), x4_2 = ((q : Nat) : Int) → ∀ ls : Array Slot, lv_has ls 3 [(0, .int (zI s0)), (1, .int (zI x4_1)), (2, .int (zI x4_2))] → W p l e rm_X9_many s m args below meth c s.heap [] 0 0 Q (F0 m 4 ls []) := by
    intro n9
    induction n9 with
    | zero => intro i q h9; exact absurd h9 (Nat.not_lt_zero _)
    | succ n9 ih4 =>
      intro i q hmu4 hq hi x4_1 ex4_1 x4_2 ex4_2 ls hl
      subst ex4_1
      subst ex4_2
      have hl : lv_has ls 3 [(0, .int (zI s0)), (1, .int (zI ((i : Nat) : Int))), (2, .int (zI ((q : Nat) : Int)))] := hl
      have hpd := popc_dec q hq
      have hp6 := popc_le64 _ (show s0.toNat < 64 by omega)
      have hal : q &&& (q - 1) ≤ q := Nat.and_le_left
      refine lv_iload_n hx hb dX9_many_4 rfl (lv_at hl 2 rfl) ?_
      refine z_if_eq (tgt := 20) hx hb ⟨by omega, by omega⟩ dX9_many_5 (by decide) (fun c1 => ?_) (fun c1 => ?_)
      · have c1 : (q : Nat) = (0 : Nat) := by omega
        refine lv_iload_n hx hb dX9_many_20 rfl (lv_at hl 1 rfl) ?_
        exact zr_iret hx hb hr hlocks hQ (by have h0 : q = 0 := (by omega); rw [h0, popc_0] at hi; omega) dX9_many_21
      · have c1 : ¬ ((q : Nat) = (0 : Nat)) := by omega
        refine z_iinc (r := ((i + 1 : Nat) : Int)) (lv' := [(1, .int (zI ((i + 1 : Nat) : Int))), (0, .int (zI s0)), (2, .int (zI ((q : Nat) : Int)))]) hx hb (by omega) dX9_many_8 hl (k := 1) rfl (by decide) rfl (fun ls hl => ?_)
        refine lv_iload_n hx hb dX9_many_11 rfl (lv_at hl 2 rfl) ?_
        refine lv_iload_n hx hb dX9_many_12 rfl (lv_at hl 2 rfl) ?_
        refine lv_iconst (v := zI 1) hx hb dX9_many_13 rfl ?_
        refine z_isub (r := ((q - 1 : Nat) : Int)) hx hb (by omega) dX9_many_14 ?_
        have hq2 : q &&& (q - 1) ≤ q := Nat.and_le_left
        refine z_iand (r := ((q &&& (q - 1) : Nat) : Int)) hx hb (zI_and (a := q) (b := q - 1) (by omega) (by omega)) dX9_many_15 ?_
        refine lv_istore_n (lv' := [(2, .int (zI ((q &&& (q - 1) : Nat) : Int))), (1, .int (zI ((i + 1 : Nat) : Int))), (0, .int (zI s0))]) hx hb dX9_many_16 rfl hl (by decide) rfl (fun ls hl => ?_)
        refine lv_goto (tgt := 4) hx hb dX9_many_17 (by decide) ?_
        exact ih4 (i + 1) (q &&& (q - 1)) (by have := hpd (by omega); omega) (by omega) (by have := hpd (by omega); omega) ((i + 1 : Nat) : Int) (by first | rfl | omega) ((q &&& (q - 1) : Nat) : Int) (by first | rfl | omega) ls (lv_sub hl [2, 1, 0] rfl)
  exact loop4 (s0.toNat + 1) 0 s0.toNat (by omega) (by omega) (by omega) 0 (by first | rfl | omega | simp) s0 (by omega) ls (lv_sub hl [2, 1, 0] rfl)
abbrev rm_X9_power : Room := { frames := 0, cells := 0, slots := 0, locals := 0 }
set_option maxHeartbeats 4000000 in
set_option maxRecDepth 100000 in
theorem c_X9_power (l : Launch) (D : va_G) (cy : Nat → ClassId) (v0 : Nat) (n0 : Nat) (hv0 : v0 ≤ 7) (hn0 : n0 ≤ 6) : Met l yX9_power wsX9_power rm_X9_power (pR D cy [] [.int (zI ((v0 : Nat) : Int)), .int (zI ((n0 : Nat) : Int))]) (qR ((v0 ^ n0 : Nat) : Int)) 0 0 (fun _ => False) := by
  refine met_R (cc := cX9_power) (maxL := 4) (ret := (some .int)) RX9 (by decide) rfl rfl (Nat.le_of_ble_eq_true rfl) ?_
  intro p e s m args below meth c ls Q hx hb hr hml hts hown hlocks hQ hP hK hl
  have hl : lv_has ls 4 [(0, .int (zI ((v0 : Nat) : Int))), (1, .int (zI ((n0 : Nat) : Int)))] := hl
  refine lv_iconst (v := zI 1) hx hb dX9_power_0 rfl ?_
  refine lv_istore_n (lv' := [(2, .int (zI 1)), (0, .int (zI ((v0 : Nat) : Int))), (1, .int (zI ((n0 : Nat) : Int)))]) hx hb dX9_power_1 rfl hl (by decide) rfl (fun ls hl => ?_)
  refine lv_iconst (v := zI 0) hx hb dX9_power_2 rfl ?_
  refine lv_istore_n (lv' := [(3, .int (zI 0)), (2, .int (zI 1)), (0, .int (zI ((v0 : Nat) : Int))), (1, .int (zI ((n0 : Nat) : Int)))]) hx hb dX9_power_3 rfl hl (by decide) rfl (fun ls hl => ?_)
  have loop4 : ∀ (n9 : Nat) (i : Nat), n0 - i < n9 → (i ≤ n0) → ∀ (x4_2 : Int), x4_2 = ((v0 ^ i : Nat) : Int) → ∀ (x4_3 : Int), x4_3 = ((i : Nat) : Int) → ∀ ls : Array Slot, lv_has ls 4 [(0, .int (zI ((v0 : Nat) : Int))), (1, .int (zI ((n0 : Nat) : Int))), (2, .int (zI x4_2)), (3, .int (zI x4_3))] → W p l e rm_X9_power s m args below meth c s.heap [] 0 0 Q (F0 m 4 ls []) := by
    intro n9
    induction n9 with
    | zero => intro i h9; exact absurd h9 (Nat.not_lt_zero _)
    | succ n9 ih4 =>
      intro i hmu4 hi x4_2 ex4_2 x4_3 ex4_3 ls hl
      subst ex4_2
      subst ex4_3
      have hl : lv_has ls 4 [(0, .int (zI ((v0 : Nat) : Int))), (1, .int (zI ((n0 : Nat) : Int))), (2, .int (zI ((v0 ^ i : Nat) : Int))), (3, .int (zI ((i : Nat) : Int)))] := hl
      have hp7 := pow7 hv0 (show i ≤ 6 by omega)
      refine lv_iload_n hx hb dX9_power_4 rfl (lv_at hl 3 rfl) ?_
      refine lv_iload_n hx hb dX9_power_5 rfl (lv_at hl 1 rfl) ?_
      refine z_icmp_ge (tgt := 19) hx hb ⟨by omega, by omega⟩ ⟨by omega, by omega⟩ dX9_power_6 (by decide) (fun c1 => ?_) (fun c1 => ?_)
      · have c1 : (n0 : Nat) ≤ (i : Nat) := by omega
        refine lv_iload_n hx hb dX9_power_19 rfl (lv_at hl 2 rfl) ?_
        exact zr_iret hx hb hr hlocks hQ (by rw [show i = n0 from by omega]) dX9_power_20
      · have c1 : ¬ ((n0 : Nat) ≤ (i : Nat)) := by omega
        refine lv_iload_n hx hb dX9_power_9 rfl (lv_at hl 2 rfl) ?_
        refine lv_iload_n hx hb dX9_power_10 rfl (lv_at hl 0 rfl) ?_
        refine z_imul (r := (((v0 ^ i) * v0 : Nat) : Int)) hx hb (by first | rfl | omega) dX9_power_11 ?_
        refine lv_istore_n (lv' := [(2, .int (zI (((v0 ^ i) * v0 : Nat) : Int))), (0, .int (zI ((v0 : Nat) : Int))), (1, .int (zI ((n0 : Nat) : Int))), (3, .int (zI ((i : Nat) : Int)))]) hx hb dX9_power_12 rfl hl (by decide) rfl (fun ls hl => ?_)
        refine z_iinc (r := ((i + 1 : Nat) : Int)) (lv' := [(3, .int (zI ((i + 1 : Nat) : Int))), (2, .int (zI (((v0 ^ i) * v0 : Nat) : Int))), (0, .int (zI ((v0 : Nat) : Int))), (1, .int (zI ((n0 : Nat) : Int)))]) hx hb (by omega) dX9_power_13 hl (k := 3) rfl (by decide) rfl (fun ls hl => ?_)
        refine lv_goto (tgt := 4) hx hb dX9_power_16 (by decide) ?_
        exact ih4 (i + 1) (by omega) (by omega) (((v0 ^ i) * v0 : Nat) : Int) (by rw [Nat.pow_succ]) ((i + 1 : Nat) : Int) (by first | rfl | omega) ls (lv_sub hl [2, 3, 1, 0] rfl)
  exact loop4 ((n0 - 0) + 1) 0 (by omega) (by omega) 1 (by simp) 0 (by first | rfl | omega | simp) ls (lv_sub hl [2, 3, 1, 0] rfl)
abbrev rm_X9_spareOf : Room := { frames := 2, cells := 0, slots := 0, locals := 43 }
set_option maxHeartbeats 4000000 in
set_option maxRecDepth 100000 in
theorem c_X9_spareOf (l : Launch) (D : va_G) (cy : Nat → ClassId) (ma : Nat → Nat) (xt : Nat → Int) (xl : Nat) (at0 : Nat) (bg : Nat) (tk0 : Int) (td : Int) (rd : Nat → Int) (hs : Nat → Int) (day : Int) (hm : Nat → Int) (tk : Nat → Int) (py : Nat → Int) (db : Nat → Int) (un : Nat → Int) (ud : Nat) (rs : Nat → Int) (be : Int) (bp : Int) (gp : Nat → Int) (ln : Nat) (wh : Nat → Nat) (lk : Nat → Int) (wa : Int) (so : Nat → Nat) (tr : Int) (kp : Nat → Int) (t : Int) (ro : Nat) (te : Nat) (ch : Nat) (pr : Nat → Int) (sl : Nat → Int) (mu : Nat → Int) (wi : Nat → Int) (ak : Nat → Int) (he : Nat → Nat) (li : Nat → Nat) (ht0 : 0 ≤ t ∧ t < (te : Int)) (hro : ro ≤ 6) (hte : te ≤ 6) (hch : ch ≤ 5) (hHB : HB pr sl mu wi ak he li) (hHS : HS hs ro te ch pr sl mu wi ak he li) (hNB : NB hm tk py db) (hHR : ∀ t, hm t = -9 ∨ (0 ≤ hm t ∧ hm t < (ro : Int))) : Met l yX9_spareOf wsX9_spareOf rm_X9_spareOf (pR D cy [((ma 0), .inr (9, [.ref (ma 1), .int (zI ((xl : Nat) : Int)), .int (zI ((at0 : Nat) : Int)), .int (zI ((bg : Nat) : Int)), .int (zI tk0), .int (zI td), .ref (ma 2), .ref (ma 3), .ref (ma 4), .ref (ma 5), .int (zI ((ud : Nat) : Int)), .ref (ma 6), .int (zI be), .int (zI bp), .ref (ma 7), .int (zI ((ln : Nat) : Int)), .ref (ma 8), .ref (ma 9), .int (zI wa), .ref (ma 10), .long (zL tr), .ref (ma 11)])), ((ma 1), .inl (cy 0, 200, .inl (zA xt))), ((ma 2), .inl (cy 0, 44, .inl (zA rd))), ((ma 3), .inl (cy 0, 44, .inl (zA hs))), ((ma 4), .inl (cy 0, 25, .inl (zA (enc day hm tk py db)))), ((ma 5), .inl (cy 0, 250, .inl (zA un))), ((ma 6), .inl (cy 0, 6, .inl (zA rs))), ((ma 7), .inl (cy 0, 64, .inl (zA gp))), ((ma 8), .inl (cy 0, 6, .inl (zA (fun j => ((wh j : Nat) : Int))))), ((ma 9), .inl (cy 0, 6, .inl (zA lk))), ((ma 10), .inl (cy 0, 6, .inl (zA (fun j => ((so j : Nat) : Int))))), ((ma 11), .inl (cy 0, 554, .inl (zA kp)))] [.ref (ma 0), .int (zI t)]) (qR (spr hm pr sl mu ro t.toNat)) 0 0 (fun _ => False) := by
  refine met_R (cc := cX9_spareOf) (maxL := 2) (ret := (some .int)) RX9 (by decide) rfl rfl (Nat.le_of_ble_eq_true rfl) ?_
  intro p e s m args below meth c ls Q hx hb hr hml hts hown hlocks hQ hP hK hl
  have hl : lv_has ls 2 [(0, .ref (ma 0)), (1, .int (zI t))] := hl
  have hr9 := hHR t.toNat
  refine lv_aload_n hx hb dX9_spareOf_0 rfl (lv_at hl 0 rfl) ?_
  refine lv_iload_n hx hb dX9_spareOf_1 rfl (lv_at hl 1 rfl) ?_
  refine zr_callV (rest := []) (As := [.int (zI t)]) (v := (hm t.toNat)) ⟨hx, hb, hml, hown, hts⟩ (c_X9_roomOf l D cy ma xt xl at0 bg tk0 td rd hs day hm tk py db un ud rs be bp gp ln wh lk wa so tr kp t ro te ch pr sl mu wi ak he li (by omega) (by omega) (by omega) (by omega) hHB hHS hNB) (cwV 1 hts gX9_spareOf_X9_roomOf rfl rfl rfl (by decide +kernel) ⟨Nat.le_of_ble_eq_true rfl, Nat.le_of_ble_eq_true rfl⟩) hK hP 0 9 rfl rfl rfl hl.1 rfl (Nat.le_of_ble_eq_true rfl) dX9_spareOf_2 ⟨Nat.zero_le _, Nat.zero_le _⟩ ?_
  refine lv_bipush (v := zI (-9)) hx hb dX9_spareOf_5 (by decide) ?_
  refine z_icmp_ne (tgt := 14) hx hb ⟨by omega, by omega⟩ ⟨by omega, by omega⟩ dX9_spareOf_7 (by decide) (fun c1 => ?_) (fun c1 => ?_)
  · refine lv_aload_n hx hb dX9_spareOf_14 rfl (lv_at hl 0 rfl) ?_
    refine lv_iload_n hx hb dX9_spareOf_15 rfl (lv_at hl 1 rfl) ?_
    refine lv_aload_n hx hb dX9_spareOf_16 rfl (lv_at hl 0 rfl) ?_
    refine lv_iload_n hx hb dX9_spareOf_17 rfl (lv_at hl 1 rfl) ?_
    refine zr_callV (rest := [.int (zI t), .ref (ma 0)]) (As := [.int (zI t)]) (v := (hm t.toNat)) ⟨hx, hb, hml, hown, hts⟩ (c_X9_roomOf l D cy ma xt xl at0 bg tk0 td rd hs day hm tk py db un ud rs be bp gp ln wh lk wa so tr kp t ro te ch pr sl mu wi ak he li (by omega) (by omega) (by omega) (by omega) hHB hHS hNB) (cwV 1 hts gX9_spareOf_X9_roomOf rfl rfl rfl (by decide +kernel) ⟨Nat.le_of_ble_eq_true rfl, Nat.le_of_ble_eq_true rfl⟩) hK hP 0 9 rfl rfl rfl hl.1 rfl (Nat.le_of_ble_eq_true rfl) dX9_spareOf_18 ⟨Nat.zero_le _, Nat.zero_le _⟩ ?_
    refine zr_callV (rest := []) (As := [.int (zI t), .int (zI (hm t.toNat))]) (v := (24 - sl t.toNat - mu t.toNat - pr (hm t.toNat).toNat)) ⟨hx, hb, hml, hown, hts⟩ (c_X9_more l D cy ma xt xl at0 bg tk0 td rd hs day hm tk py db un ud rs be bp gp ln wh lk wa so tr kp t (hm t.toNat) ro te ch pr sl mu wi ak he li (by omega) (by omega) (by omega) (by omega) (by omega) hHB hHS) (cwV 2 hts gX9_spareOf_X9_more rfl rfl rfl (by decide +kernel) ⟨Nat.le_of_ble_eq_true rfl, Nat.le_of_ble_eq_true rfl⟩) hK hP 0 9 rfl rfl rfl hl.1 rfl (Nat.le_of_ble_eq_true rfl) dX9_spareOf_21 ⟨Nat.zero_le _, Nat.zero_le _⟩ ?_
    exact zr_iret hx hb hr hlocks hQ (by unfold spr; (repeat' split) <;> first | rfl | omega) dX9_spareOf_24
  · refine lv_iconst (v := zI 0) hx hb dX9_spareOf_10 rfl ?_
    refine lv_goto (tgt := 24) hx hb dX9_spareOf_11 (by decide) ?_
    exact zr_iret hx hb hr hlocks hQ (by unfold spr; (repeat' split) <;> first | rfl | omega) dX9_spareOf_24
abbrev rm_X9_spare : Room := { frames := 3, cells := 0, slots := 0, locals := 64 }
set_option maxHeartbeats 4000000 in
set_option maxRecDepth 100000 in
theorem c_X9_spare (l : Launch) (D : va_G) (cy : Nat → ClassId) (ma : Nat → Nat) (xt : Nat → Int) (xl : Nat) (at0 : Nat) (bg : Nat) (tk0 : Int) (td : Int) (rd : Nat → Int) (hs : Nat → Int) (day : Int) (hm : Nat → Int) (tk : Nat → Int) (py : Nat → Int) (db : Nat → Int) (un : Nat → Int) (ud : Nat) (rs : Nat → Int) (be : Int) (bp : Int) (gp : Nat → Int) (ln : Nat) (wh : Nat → Nat) (lk : Nat → Int) (wa : Int) (so : Nat → Nat) (tr : Int) (kp : Nat → Int) (t : Int) (ro : Nat) (te : Nat) (ch : Nat) (pr : Nat → Int) (sl : Nat → Int) (mu : Nat → Int) (wi : Nat → Int) (ak : Nat → Int) (he : Nat → Nat) (li : Nat → Nat) (ht0 : inR t) (hro : ro ≤ 6) (hte : te ≤ 6) (hch : ch ≤ 5) (hHB : HB pr sl mu wi ak he li) (hHS : HS hs ro te ch pr sl mu wi ak he li) (hNB : NB hm tk py db) (hHR : ∀ t, hm t = -9 ∨ (0 ≤ hm t ∧ hm t < (ro : Int))) : Met l yX9_spare wsX9_spare rm_X9_spare (pR D cy [((ma 0), .inr (9, [.ref (ma 1), .int (zI ((xl : Nat) : Int)), .int (zI ((at0 : Nat) : Int)), .int (zI ((bg : Nat) : Int)), .int (zI tk0), .int (zI td), .ref (ma 2), .ref (ma 3), .ref (ma 4), .ref (ma 5), .int (zI ((ud : Nat) : Int)), .ref (ma 6), .int (zI be), .int (zI bp), .ref (ma 7), .int (zI ((ln : Nat) : Int)), .ref (ma 8), .ref (ma 9), .int (zI wa), .ref (ma 10), .long (zL tr), .ref (ma 11)])), ((ma 1), .inl (cy 0, 200, .inl (zA xt))), ((ma 2), .inl (cy 0, 44, .inl (zA rd))), ((ma 3), .inl (cy 0, 44, .inl (zA hs))), ((ma 4), .inl (cy 0, 25, .inl (zA (enc day hm tk py db)))), ((ma 5), .inl (cy 0, 250, .inl (zA un))), ((ma 6), .inl (cy 0, 6, .inl (zA rs))), ((ma 7), .inl (cy 0, 64, .inl (zA gp))), ((ma 8), .inl (cy 0, 6, .inl (zA (fun j => ((wh j : Nat) : Int))))), ((ma 9), .inl (cy 0, 6, .inl (zA lk))), ((ma 10), .inl (cy 0, 6, .inl (zA (fun j => ((so j : Nat) : Int))))), ((ma 11), .inl (cy 0, 554, .inl (zA kp)))] [.ref (ma 0), .int (zI t)]) (qR (if 0 ≤ t ∧ t < (te : Int) then spr hm pr sl mu ro t.toNat else -1000000)) 0 0 (fun _ => False) := by
  refine met_R (cc := cX9_spare) (maxL := 2) (ret := (some .int)) RX9 (by decide) rfl rfl (Nat.le_of_ble_eq_true rfl) ?_
  intro p e s m args below meth c ls Q hx hb hr hml hts hown hlocks hQ hP hK hl
  have hl : lv_has ls 2 [(0, .ref (ma 0)), (1, .int (zI t))] := hl
  refine lv_aload_n hx hb dX9_spare_0 rfl (lv_at hl 0 rfl) ?_
  refine lv_iload_n hx hb dX9_spare_1 rfl (lv_at hl 1 rfl) ?_
  refine zr_callV (rest := []) (As := [.int (zI t)]) (v := (if 0 ≤ t ∧ t ≤ ((te : Nat) : Int) - 1 then 1 else 0)) ⟨hx, hb, hml, hown, hts⟩ (c_X9_isTenant l D cy ma xt xl at0 bg tk0 td rd hs day hm tk py db un ud rs be bp gp ln wh lk wa so tr kp t ro te ch pr sl mu wi ak he li (by omega) (by omega) (by omega) (by omega) hHB hHS) (cwV 1 hts gX9_spare_X9_isTenant rfl rfl rfl (by decide +kernel) ⟨Nat.le_of_ble_eq_true rfl, Nat.le_of_ble_eq_true rfl⟩) hK hP 0 9 rfl rfl rfl hl.1 rfl (Nat.le_of_ble_eq_true rfl) dX9_spare_2 ⟨Nat.zero_le _, Nat.zero_le _⟩ ?_
  refine z_if_eq (tgt := 16) hx hb bo_r dX9_spare_5 (by decide) (fun c1 => ?_) (fun c1 => ?_)
  · have c1 := bo_f c1
    refine lv_ldc (v := zI (-1000000)) hx hb hown (hts (.constant RX9 184 (-1000000)) (List.mem_of_getElem? (i := 1) rfl)) dX9_spare_16 ?_
    exact zr_iret hx hb hr hlocks hQ (by first | exact (if_pos (by omega)).symm | exact (if_neg (by omega)).symm) dX9_spare_18
  · have c1 := bo_t c1
    refine lv_aload_n hx hb dX9_spare_8 rfl (lv_at hl 0 rfl) ?_
    refine lv_iload_n hx hb dX9_spare_9 rfl (lv_at hl 1 rfl) ?_
    refine zr_callV (rest := []) (As := [.int (zI t)]) (v := (spr hm pr sl mu ro t.toNat)) ⟨hx, hb, hml, hown, hts⟩ (c_X9_spareOf l D cy ma xt xl at0 bg tk0 td rd hs day hm tk py db un ud rs be bp gp ln wh lk wa so tr kp t ro te ch pr sl mu wi ak he li (by omega) (by omega) (by omega) (by omega) hHB hHS hNB hHR) (cwV 1 hts gX9_spare_X9_spareOf rfl rfl rfl (by decide +kernel) ⟨Nat.le_of_ble_eq_true rfl, Nat.le_of_ble_eq_true rfl⟩) hK hP 0 9 rfl rfl rfl hl.1 rfl (Nat.le_of_ble_eq_true rfl) dX9_spare_10 ⟨Nat.zero_le _, Nat.zero_le _⟩ ?_
    refine lv_goto (tgt := 18) hx hb dX9_spare_13 (by decide) ?_
    exact zr_iret hx hb hr hlocks hQ (by first | exact (if_pos (by omega)).symm | exact (if_neg (by omega)).symm) dX9_spare_18
abbrev rm_X9_debts : Room := { frames := 1, cells := 0, slots := 0, locals := 21 }
set_option maxHeartbeats 4000000 in
set_option maxRecDepth 100000 in
theorem c_X9_debts (l : Launch) (D : va_G) (cy : Nat → ClassId) (ma : Nat → Nat) (xt : Nat → Int) (xl : Nat) (at0 : Nat) (bg : Nat) (tk0 : Int) (td : Int) (rd : Nat → Int) (hs : Nat → Int) (day : Int) (hm : Nat → Int) (tk : Nat → Int) (py : Nat → Int) (db : Nat → Int) (un : Nat → Int) (ud : Nat) (rs : Nat → Int) (be : Int) (bp : Int) (gp : Nat → Int) (ln : Nat) (wh : Nat → Nat) (lk : Nat → Int) (wa : Int) (so : Nat → Nat) (tr : Int) (kp : Nat → Int) (ro : Nat) (te : Nat) (ch : Nat) (pr : Nat → Int) (sl : Nat → Int) (mu : Nat → Int) (wi : Nat → Int) (ak : Nat → Int) (he : Nat → Nat) (li : Nat → Nat) (hro : ro ≤ 6) (hte : te ≤ 6) (hch : ch ≤ 5) (hHB : HB pr sl mu wi ak he li) (hHS : HS hs ro te ch pr sl mu wi ak he li) (hNB : NB hm tk py db) (hDZ : ∀ t, te ≤ t → db t = 0) : Met l yX9_debts wsX9_debts rm_X9_debts (pR D cy [((ma 0), .inr (9, [.ref (ma 1), .int (zI ((xl : Nat) : Int)), .int (zI ((at0 : Nat) : Int)), .int (zI ((bg : Nat) : Int)), .int (zI tk0), .int (zI td), .ref (ma 2), .ref (ma 3), .ref (ma 4), .ref (ma 5), .int (zI ((ud : Nat) : Int)), .ref (ma 6), .int (zI be), .int (zI bp), .ref (ma 7), .int (zI ((ln : Nat) : Int)), .ref (ma 8), .ref (ma 9), .int (zI wa), .ref (ma 10), .long (zL tr), .ref (ma 11)])), ((ma 1), .inl (cy 0, 200, .inl (zA xt))), ((ma 2), .inl (cy 0, 44, .inl (zA rd))), ((ma 3), .inl (cy 0, 44, .inl (zA hs))), ((ma 4), .inl (cy 0, 25, .inl (zA (enc day hm tk py db)))), ((ma 5), .inl (cy 0, 250, .inl (zA un))), ((ma 6), .inl (cy 0, 6, .inl (zA rs))), ((ma 7), .inl (cy 0, 64, .inl (zA gp))), ((ma 8), .inl (cy 0, 6, .inl (zA (fun j => ((wh j : Nat) : Int))))), ((ma 9), .inl (cy 0, 6, .inl (zA lk))), ((ma 10), .inl (cy 0, 6, .inl (zA (fun j => ((so j : Nat) : Int))))), ((ma 11), .inl (cy 0, 554, .inl (zA kp)))] [.ref (ma 0)]) (qR (sumI db 6)) 0 0 (fun _ => False) := by
  refine met_R (cc := cX9_debts) (maxL := 3) (ret := (some .int)) RX9 (by decide) rfl rfl (Nat.le_of_ble_eq_true rfl) ?_
  intro p e s m args below meth c ls Q hx hb hr hml hts hown hlocks hQ hP hK hl
  have hl : lv_has ls 3 [(0, .ref (ma 0))] := hl
  have hinX9 : ∀ w ∈ wsX90, w ∈ wsX9_debts := (fun w h => List.mem_cons_of_mem _ (List.mem_append_right _ h))
  refine lv_iconst (v := zI 0) hx hb dX9_debts_0 rfl ?_
  refine lv_istore_n (lv' := [(1, .int (zI 0)), (0, .ref (ma 0))]) hx hb dX9_debts_1 rfl hl (by decide) rfl (fun ls hl => ?_)
  refine lv_iconst (v := zI 0) hx hb dX9_debts_2 rfl ?_
  refine lv_istore_n (lv' := [(2, .int (zI 0)), (1, .int (zI 0)), (0, .ref (ma 0))]) hx hb dX9_debts_3 rfl hl (by decide) rfl (fun ls hl => ?_)
  have loop4 : ∀ (n9 : Nat) (i : Nat), te - i < n9 → (i ≤ te) → ∀ (x4_1 : Int), x4_1 = (sumI db i) → ∀ (x4_2 : Int), x4_2 = ((i : Nat) : Int) → ∀ ls : Array Slot, lv_has ls 3 [(0, .ref (ma 0)), (1, .int (zI x4_1)), (2, .int (zI x4_2))] → W p l e rm_X9_debts s m args below meth c s.heap [] 0 0 Q (F0 m 4 ls []) := by
    intro n9
    induction n9 with
    | zero => intro i h9; exact absurd h9 (Nat.not_lt_zero _)
    | succ n9 ih4 =>
      intro i hmu4 hi x4_1 ex4_1 x4_2 ex4_2 ls hl
      subst ex4_1
      subst ex4_2
      have hl : lv_has ls 3 [(0, .ref (ma 0)), (1, .int (zI (sumI db i))), (2, .int (zI ((i : Nat) : Int)))] := hl
      have hsb := sumI_bd db 9999 hNB.2.2.2 i
      have hdb := hNB.2.2.2 i
      refine lv_iload_n hx hb dX9_debts_4 rfl (lv_at hl 2 rfl) ?_
      refine lv_aload_n hx hb dX9_debts_5 rfl (lv_at hl 0 rfl) ?_
      refine va_get (D := D) (ci := 9) (v := .ref (ma 3)) (C := RX9) (T := TX9) (N := 22) hx hb hts hinX9 hown hK hP 0 rfl rfl 7 (by decide) (hts (.fieldLink RX9 16 "SilentRentModel" "house" "[I") (List.mem_of_getElem? (i := 1) rfl)) (fun _ h9 => h9) rfl dX9_debts_6 ?_
      refine lv_iconst (v := zI 1) hx hb dX9_debts_9 rfl ?_
      refine z_iald2 hx hb hK hP 3 0 (f := hs) (v := ((te : Nat) : Int)) rfl rfl 1 (by omega) (by omega) (by decide) (hHS.2.1) dX9_debts_10 ?_
      refine z_icmp_ge (tgt := 28) hx hb ⟨by omega, by omega⟩ ⟨by omega, by omega⟩ dX9_debts_11 (by decide) (fun c1 => ?_) (fun c1 => ?_)
      · have c1 : (te : Nat) ≤ (i : Nat) := by omega
        refine lv_iload_n hx hb dX9_debts_28 rfl (lv_at hl 1 rfl) ?_
        exact zr_iret hx hb hr hlocks hQ (by rw [show i = te from by omega]; exact sumI_z hte hDZ) dX9_debts_29
      · have c1 : ¬ ((te : Nat) ≤ (i : Nat)) := by omega
        refine lv_iload_n hx hb dX9_debts_14 rfl (lv_at hl 1 rfl) ?_
        refine lv_aload_n hx hb dX9_debts_15 rfl (lv_at hl 0 rfl) ?_
        refine lv_iload_n hx hb dX9_debts_16 rfl (lv_at hl 2 rfl) ?_
        refine zr_callV (rest := [.int (zI (sumI db i))]) (As := [.int (zI ((i : Nat) : Int))]) (v := (db i)) ⟨hx, hb, hml, hown, hts⟩ (c_X9_debt l D cy ma xt xl at0 bg tk0 td rd hs day hm tk py db un ud rs be bp gp ln wh lk wa so tr kp ((i : Nat) : Int) ro te ch pr sl mu wi ak he li (by omega) (by omega) (by omega) (by omega) hHB hHS hNB) (cwV 1 hts gX9_debts_X9_debt rfl rfl rfl (by decide +kernel) ⟨Nat.le_of_ble_eq_true rfl, Nat.le_of_ble_eq_true rfl⟩) hK hP 0 9 rfl rfl rfl hl.1 rfl (Nat.le_of_ble_eq_true rfl) dX9_debts_17 ⟨Nat.zero_le _, Nat.zero_le _⟩ ?_
        refine z_iadd (r := ((sumI db i) + (db i))) hx hb rfl dX9_debts_20 ?_
        refine lv_istore_n (lv' := [(1, .int (zI ((sumI db i) + (db i)))), (0, .ref (ma 0)), (2, .int (zI ((i : Nat) : Int)))]) hx hb dX9_debts_21 rfl hl (by decide) rfl (fun ls hl => ?_)
        refine z_iinc (r := ((i + 1 : Nat) : Int)) (lv' := [(2, .int (zI ((i + 1 : Nat) : Int))), (1, .int (zI ((sumI db i) + (db i)))), (0, .ref (ma 0))]) hx hb (by omega) dX9_debts_22 hl (k := 2) rfl (by decide) rfl (fun ls hl => ?_)
        refine lv_goto (tgt := 4) hx hb dX9_debts_25 (by decide) ?_
        exact ih4 (i + 1) (by omega) (by omega) ((sumI db i) + (db i)) rfl ((i + 1 : Nat) : Int) (by first | rfl | omega) ls (lv_sub hl [2, 1, 0] rfl)
  exact loop4 ((te - 0) + 1) 0 (by omega) (by omega) 0 rfl 0 (by first | rfl | omega | simp) ls (lv_sub hl [2, 1, 0] rfl)
abbrev rm_X9_lacksOf : Room := { frames := 2, cells := 0, slots := 0, locals := 43 }
set_option maxHeartbeats 4000000 in
set_option maxRecDepth 100000 in
theorem c_X9_lacksOf (l : Launch) (D : va_G) (cy : Nat → ClassId) (ma : Nat → Nat) (xt : Nat → Int) (xl : Nat) (at0 : Nat) (bg : Nat) (tk0 : Int) (td : Int) (rd : Nat → Int) (hs : Nat → Int) (day : Int) (hm : Nat → Int) (tk : Nat → Int) (py : Nat → Int) (db : Nat → Int) (un : Nat → Int) (ud : Nat) (rs : Nat → Int) (be : Int) (bp : Int) (gp : Nat → Int) (ln : Nat) (wh : Nat → Nat) (lk : Nat → Int) (wa : Int) (so : Nat → Nat) (tr : Int) (kp : Nat → Int) (t : Int) (ro : Nat) (te : Nat) (ch : Nat) (pr : Nat → Int) (sl : Nat → Int) (mu : Nat → Int) (wi : Nat → Int) (ak : Nat → Int) (he : Nat → Nat) (li : Nat → Nat) (ht0 : 0 ≤ t ∧ t < (te : Int)) (hro : ro ≤ 6) (hte : te ≤ 6) (hch : ch ≤ 5) (hHB : HB pr sl mu wi ak he li) (hHS : HS hs ro te ch pr sl mu wi ak he li) (hNB : NB hm tk py db) (hDZ : ∀ t, te ≤ t → db t = 0) : Met l yX9_lacksOf wsX9_lacksOf rm_X9_lacksOf (pR D cy [((ma 0), .inr (9, [.ref (ma 1), .int (zI ((xl : Nat) : Int)), .int (zI ((at0 : Nat) : Int)), .int (zI ((bg : Nat) : Int)), .int (zI tk0), .int (zI td), .ref (ma 2), .ref (ma 3), .ref (ma 4), .ref (ma 5), .int (zI ((ud : Nat) : Int)), .ref (ma 6), .int (zI be), .int (zI bp), .ref (ma 7), .int (zI ((ln : Nat) : Int)), .ref (ma 8), .ref (ma 9), .int (zI wa), .ref (ma 10), .long (zL tr), .ref (ma 11)])), ((ma 1), .inl (cy 0, 200, .inl (zA xt))), ((ma 2), .inl (cy 0, 44, .inl (zA rd))), ((ma 3), .inl (cy 0, 44, .inl (zA hs))), ((ma 4), .inl (cy 0, 25, .inl (zA (enc day hm tk py db)))), ((ma 5), .inl (cy 0, 250, .inl (zA un))), ((ma 6), .inl (cy 0, 6, .inl (zA rs))), ((ma 7), .inl (cy 0, 64, .inl (zA gp))), ((ma 8), .inl (cy 0, 6, .inl (zA (fun j => ((wh j : Nat) : Int))))), ((ma 9), .inl (cy 0, 6, .inl (zA lk))), ((ma 10), .inl (cy 0, 6, .inl (zA (fun j => ((so j : Nat) : Int))))), ((ma 11), .inl (cy 0, 554, .inl (zA kp)))] [.ref (ma 0), .int (zI t)]) (qR (lsh db te t.toNat)) 0 0 (fun _ => False) := by
  refine met_R (cc := cX9_lacksOf) (maxL := 3) (ret := (some .int)) RX9 (by decide) rfl rfl (Nat.le_of_ble_eq_true rfl) ?_
  intro p e s m args below meth c ls Q hx hb hr hml hts hown hlocks hQ hP hK hl
  have hl : lv_has ls 3 [(0, .ref (ma 0)), (1, .int (zI t))] := hl
  have hinX9 : ∀ w ∈ wsX90, w ∈ wsX9_lacksOf := (fun w h => List.mem_cons_of_mem _ (List.mem_append_right _ h))
  have hall := sumI_bd db 9999 (fun i => hNB.2.2.2 i) 6
  have hmod : 0 ≤ sumI db 6 % (te : Int) ∧ sumI db 6 % (te : Int) < te := ⟨Int.emod_nonneg _ (by omega), Int.emod_lt_of_pos _ (by omega)⟩
  have hdv : 0 ≤ sumI db 6 / (te : Int) ∧ sumI db 6 / (te : Int) ≤ sumI db 6 := ⟨Int.ediv_nonneg hall.1 (by omega), Int.ediv_le_self _ hall.1⟩
  refine lv_aload_n hx hb dX9_lacksOf_0 rfl (lv_at hl 0 rfl) ?_
  refine zr_callV (rest := []) (As := []) (v := (sumI db 6)) ⟨hx, hb, hml, hown, hts⟩ (c_X9_debts l D cy ma xt xl at0 bg tk0 td rd hs day hm tk py db un ud rs be bp gp ln wh lk wa so tr kp ro te ch pr sl mu wi ak he li (by omega) (by omega) (by omega) hHB hHS hNB hDZ) (cwV 0 hts gX9_lacksOf_X9_debts rfl rfl rfl (by decide +kernel) ⟨Nat.le_of_ble_eq_true rfl, Nat.le_of_ble_eq_true rfl⟩) hK hP 0 9 rfl rfl rfl hl.1 rfl (Nat.le_of_ble_eq_true rfl) dX9_lacksOf_1 ⟨Nat.zero_le _, Nat.zero_le _⟩ ?_
  refine lv_istore_n (lv' := [(2, .int (zI (sumI db 6))), (0, .ref (ma 0)), (1, .int (zI t))]) hx hb dX9_lacksOf_4 rfl hl (by decide) rfl (fun ls hl => ?_)
  refine lv_iload_n hx hb dX9_lacksOf_5 rfl (lv_at hl 0 rfl) ?_
  refine lv_aload_n hx hb dX9_lacksOf_6 rfl (lv_at hl 1 rfl) ?_
  refine va_get (D := D) (ci := 9) (v := .ref (ma 3)) (C := RX9) (T := TX9) (N := 22) hx hb hts hinX9 hown hK hP 0 rfl rfl 7 (by decide) (hts (.fieldLink RX9 16 "SilentRentModel" "house" "[I") (List.mem_of_getElem? (i := 1) rfl)) (fun _ h9 => h9) rfl dX9_lacksOf_7 ?_
  refine lv_iconst (v := zI 1) hx hb dX9_lacksOf_10 rfl ?_
  refine z_iald2 hx hb hK hP 3 0 (f := hs) (v := ((te : Nat) : Int)) rfl rfl 1 (by omega) (by omega) (by decide) (hHS.2.1) dX9_lacksOf_11 ?_
  refine z_idiv (r := ((sumI db 6) / ((te : Nat) : Int))) hx hb ⟨by omega, by omega⟩ ⟨by omega, by omega⟩ rfl dX9_lacksOf_12 ?_
  refine lv_iload_n hx hb dX9_lacksOf_13 rfl (lv_at hl 2 rfl) ?_
  refine lv_iload_n hx hb dX9_lacksOf_14 rfl (lv_at hl 0 rfl) ?_
  refine lv_aload_n hx hb dX9_lacksOf_15 rfl (lv_at hl 1 rfl) ?_
  refine va_get (D := D) (ci := 9) (v := .ref (ma 3)) (C := RX9) (T := TX9) (N := 22) hx hb hts hinX9 hown hK hP 0 rfl rfl 7 (by decide) (hts (.fieldLink RX9 16 "SilentRentModel" "house" "[I") (List.mem_of_getElem? (i := 1) rfl)) (fun _ h9 => h9) rfl dX9_lacksOf_16 ?_
  refine lv_iconst (v := zI 1) hx hb dX9_lacksOf_19 rfl ?_
  refine z_iald2 hx hb hK hP 3 0 (f := hs) (v := ((te : Nat) : Int)) rfl rfl 1 (by omega) (by omega) (by decide) (hHS.2.1) dX9_lacksOf_20 ?_
  refine z_irem (r := ((sumI db 6) % ((te : Nat) : Int))) hx hb ⟨by omega, by omega⟩ ⟨by omega, by omega⟩ rfl dX9_lacksOf_21 ?_
  have J3 : ∀ (z2 : Int), z2 = (if ((sumI db 6) % ((te : Nat) : Int)) ≤ t then 0 else 1) → ∀ ls : Array Slot, lv_has ls 3 [(0, .ref (ma 0)), (1, .int (zI t)), (2, .int (zI (sumI db 6)))] → W p l e rm_X9_lacksOf s m args below meth c s.heap [] 0 0 Q (F0 m 30 ls [.int (zI z2), .int (zI ((sumI db 6) / ((te : Nat) : Int)))]) := by
    intro z2 ez2 ls hl
    subst ez2
    refine z_iadd (r := (((sumI db 6) / ((te : Nat) : Int)) + (if ((sumI db 6) % ((te : Nat) : Int)) ≤ t then 0 else 1))) hx hb rfl dX9_lacksOf_30 ?_
    refine lv_aload_n hx hb dX9_lacksOf_31 rfl (lv_at hl 0 rfl) ?_
    refine lv_iload_n hx hb dX9_lacksOf_32 rfl (lv_at hl 1 rfl) ?_
    refine zr_callV (rest := [.int (zI (((sumI db 6) / ((te : Nat) : Int)) + (if ((sumI db 6) % ((te : Nat) : Int)) ≤ t then 0 else 1)))]) (As := [.int (zI t)]) (v := (db t.toNat)) ⟨hx, hb, hml, hown, hts⟩ (c_X9_debt l D cy ma xt xl at0 bg tk0 td rd hs day hm tk py db un ud rs be bp gp ln wh lk wa so tr kp t ro te ch pr sl mu wi ak he li (by omega) (by omega) (by omega) (by omega) hHB hHS hNB) (cwV 1 hts gX9_lacksOf_X9_debt rfl rfl rfl (by decide +kernel) ⟨Nat.le_of_ble_eq_true rfl, Nat.le_of_ble_eq_true rfl⟩) hK hP 0 9 rfl rfl rfl hl.1 rfl (Nat.le_of_ble_eq_true rfl) dX9_lacksOf_33 ⟨Nat.zero_le _, Nat.zero_le _⟩ ?_
    refine z_isub (r := ((((sumI db 6) / ((te : Nat) : Int)) + (if ((sumI db 6) % ((te : Nat) : Int)) ≤ t then 0 else 1)) - (db t.toNat))) hx hb rfl dX9_lacksOf_36 ?_
    exact zr_iret hx hb hr hlocks hQ (by have e9 : ((t.toNat : Nat) : Int) = t := (by omega); unfold lsh; rw [if_neg (show ¬ te = 0 by omega), e9]; by_cases h9 : sumI db 6 % (te : Int) ≤ t; (rw [if_pos h9, if_neg (by omega)]); (rw [if_neg h9, if_pos (by omega)])) dX9_lacksOf_37
  refine z_icmp_ge (tgt := 29) hx hb ⟨by omega, by omega⟩ ⟨by omega, by omega⟩ dX9_lacksOf_22 (by decide) (fun c1 => ?_) (fun c1 => ?_)
  · refine lv_iconst (v := zI 0) hx hb dX9_lacksOf_29 rfl ?_
    exact J3 0 (by rw [if_pos c1]) ls (lv_sub hl [1, 2, 0] rfl)
  · refine lv_iconst (v := zI 1) hx hb dX9_lacksOf_25 rfl ?_
    refine lv_goto (tgt := 30) hx hb dX9_lacksOf_26 (by decide) ?_
    exact J3 1 (by rw [if_neg c1]) ls (lv_sub hl [1, 2, 0] rfl)
abbrev rm_X9_settled : Room := { frames := 3, cells := 0, slots := 0, locals := 65 }
set_option maxHeartbeats 4000000 in
set_option maxRecDepth 100000 in
theorem c_X9_settled (l : Launch) (D : va_G) (cy : Nat → ClassId) (ma : Nat → Nat) (xt : Nat → Int) (xl : Nat) (at0 : Nat) (bg : Nat) (tk0 : Int) (td : Int) (rd : Nat → Int) (hs : Nat → Int) (day : Int) (hm : Nat → Int) (tk : Nat → Int) (py : Nat → Int) (db : Nat → Int) (un : Nat → Int) (ud : Nat) (rs : Nat → Int) (be : Int) (bp : Int) (gp : Nat → Int) (ln : Nat) (wh : Nat → Nat) (lk : Nat → Int) (wa : Int) (so : Nat → Nat) (tr : Int) (kp : Nat → Int) (t : Int) (ro : Nat) (te : Nat) (ch : Nat) (pr : Nat → Int) (sl : Nat → Int) (mu : Nat → Int) (wi : Nat → Int) (ak : Nat → Int) (he : Nat → Nat) (li : Nat → Nat) (ht0 : inR t) (hro : ro ≤ 6) (hte : te ≤ 6) (hch : ch ≤ 5) (hHB : HB pr sl mu wi ak he li) (hHS : HS hs ro te ch pr sl mu wi ak he li) (hNB : NB hm tk py db) (hDZ : ∀ t, te ≤ t → db t = 0) : Met l yX9_settled wsX9_settled rm_X9_settled (pR D cy [((ma 0), .inr (9, [.ref (ma 1), .int (zI ((xl : Nat) : Int)), .int (zI ((at0 : Nat) : Int)), .int (zI ((bg : Nat) : Int)), .int (zI tk0), .int (zI td), .ref (ma 2), .ref (ma 3), .ref (ma 4), .ref (ma 5), .int (zI ((ud : Nat) : Int)), .ref (ma 6), .int (zI be), .int (zI bp), .ref (ma 7), .int (zI ((ln : Nat) : Int)), .ref (ma 8), .ref (ma 9), .int (zI wa), .ref (ma 10), .long (zL tr), .ref (ma 11)])), ((ma 1), .inl (cy 0, 200, .inl (zA xt))), ((ma 2), .inl (cy 0, 44, .inl (zA rd))), ((ma 3), .inl (cy 0, 44, .inl (zA hs))), ((ma 4), .inl (cy 0, 25, .inl (zA (enc day hm tk py db)))), ((ma 5), .inl (cy 0, 250, .inl (zA un))), ((ma 6), .inl (cy 0, 6, .inl (zA rs))), ((ma 7), .inl (cy 0, 64, .inl (zA gp))), ((ma 8), .inl (cy 0, 6, .inl (zA (fun j => ((wh j : Nat) : Int))))), ((ma 9), .inl (cy 0, 6, .inl (zA lk))), ((ma 10), .inl (cy 0, 6, .inl (zA (fun j => ((so j : Nat) : Int))))), ((ma 11), .inl (cy 0, 554, .inl (zA kp)))] [.ref (ma 0), .int (zI t)]) (qR (if 0 ≤ t ∧ t < (te : Int) then lsh db te t.toNat else -1000000)) 0 0 (fun _ => False) := by
  refine met_R (cc := cX9_settled) (maxL := 2) (ret := (some .int)) RX9 (by decide) rfl rfl (Nat.le_of_ble_eq_true rfl) ?_
  intro p e s m args below meth c ls Q hx hb hr hml hts hown hlocks hQ hP hK hl
  have hl : lv_has ls 2 [(0, .ref (ma 0)), (1, .int (zI t))] := hl
  refine lv_aload_n hx hb dX9_settled_0 rfl (lv_at hl 0 rfl) ?_
  refine lv_iload_n hx hb dX9_settled_1 rfl (lv_at hl 1 rfl) ?_
  refine zr_callV (rest := []) (As := [.int (zI t)]) (v := (if 0 ≤ t ∧ t ≤ ((te : Nat) : Int) - 1 then 1 else 0)) ⟨hx, hb, hml, hown, hts⟩ (c_X9_isTenant l D cy ma xt xl at0 bg tk0 td rd hs day hm tk py db un ud rs be bp gp ln wh lk wa so tr kp t ro te ch pr sl mu wi ak he li (by omega) (by omega) (by omega) (by omega) hHB hHS) (cwV 1 hts gX9_settled_X9_isTenant rfl rfl rfl (by decide +kernel) ⟨Nat.le_of_ble_eq_true rfl, Nat.le_of_ble_eq_true rfl⟩) hK hP 0 9 rfl rfl rfl hl.1 rfl (Nat.le_of_ble_eq_true rfl) dX9_settled_2 ⟨Nat.zero_le _, Nat.zero_le _⟩ ?_
  refine z_if_eq (tgt := 16) hx hb bo_r dX9_settled_5 (by decide) (fun c1 => ?_) (fun c1 => ?_)
  · have c1 := bo_f c1
    refine lv_ldc (v := zI (-1000000)) hx hb hown (hts (.constant RX9 184 (-1000000)) (List.mem_of_getElem? (i := 1) rfl)) dX9_settled_16 ?_
    exact zr_iret hx hb hr hlocks hQ (by first | exact (if_pos (by omega)).symm | exact (if_neg (by omega)).symm) dX9_settled_18
  · have c1 := bo_t c1
    refine lv_aload_n hx hb dX9_settled_8 rfl (lv_at hl 0 rfl) ?_
    refine lv_iload_n hx hb dX9_settled_9 rfl (lv_at hl 1 rfl) ?_
    refine zr_callV (rest := []) (As := [.int (zI t)]) (v := (lsh db te t.toNat)) ⟨hx, hb, hml, hown, hts⟩ (c_X9_lacksOf l D cy ma xt xl at0 bg tk0 td rd hs day hm tk py db un ud rs be bp gp ln wh lk wa so tr kp t ro te ch pr sl mu wi ak he li (by omega) (by omega) (by omega) (by omega) hHB hHS hNB hDZ) (cwV 1 hts gX9_settled_X9_lacksOf rfl rfl rfl (by decide +kernel) ⟨Nat.le_of_ble_eq_true rfl, Nat.le_of_ble_eq_true rfl⟩) hK hP 0 9 rfl rfl rfl hl.1 rfl (Nat.le_of_ble_eq_true rfl) dX9_settled_10 ⟨Nat.zero_le _, Nat.zero_le _⟩ ?_
    refine lv_goto (tgt := 18) hx hb dX9_settled_13 (by decide) ?_
    exact zr_iret hx hb hr hlocks hQ (by first | exact (if_pos (by omega)).symm | exact (if_neg (by omega)).symm) dX9_settled_18
abbrev rm_X9_type : Room := { frames := 1, cells := 0, slots := 0, locals := 25 }
set_option maxHeartbeats 4000000 in
set_option maxRecDepth 100000 in
theorem c_X9_type (l : Launch) (D : va_G) (cy : Nat → ClassId) (ma : Nat → Nat) (xt : Nat → Int) (xl : Nat) (at0 : Nat) (bg : Nat) (tk0 : Int) (td : Int) (rd : Nat → Int) (hs : Nat → Int) (day : Int) (hm : Nat → Int) (tk : Nat → Int) (py : Nat → Int) (db : Nat → Int) (un : Nat → Int) (ud : Nat) (rs : Nat → Int) (be : Int) (bp : Int) (gp : Nat → Int) (ln : Nat) (wh : Nat → Nat) (lk : Nat → Int) (wa : Int) (so : Nat → Nat) (tr : Int) (kp : Nat → Int) (c0 : Int) (hc0 : inR c0) (hxl : xl ≤ 200) : Met l yX9_type wsX9_type rm_X9_type (pM D cy [((ma 0), .inr (9, [.ref (ma 1), .int (zI ((xl : Nat) : Int)), .int (zI ((at0 : Nat) : Int)), .int (zI ((bg : Nat) : Int)), .int (zI tk0), .int (zI td), .ref (ma 2), .ref (ma 3), .ref (ma 4), .ref (ma 5), .int (zI ((ud : Nat) : Int)), .ref (ma 6), .int (zI be), .int (zI bp), .ref (ma 7), .int (zI ((ln : Nat) : Int)), .ref (ma 8), .ref (ma 9), .int (zI wa), .ref (ma 10), .long (zL tr), .ref (ma 11)])), ((ma 1), .inl (cy 0, 200, .inl (zA xt))), ((ma 2), .inl (cy 0, 44, .inl (zA rd))), ((ma 3), .inl (cy 0, 44, .inl (zA hs))), ((ma 4), .inl (cy 0, 25, .inl (zA (enc day hm tk py db)))), ((ma 5), .inl (cy 0, 250, .inl (zA un))), ((ma 6), .inl (cy 0, 6, .inl (zA rs))), ((ma 7), .inl (cy 0, 64, .inl (zA gp))), ((ma 8), .inl (cy 0, 6, .inl (zA (fun j => ((wh j : Nat) : Int))))), ((ma 9), .inl (cy 0, 6, .inl (zA lk))), ((ma 10), .inl (cy 0, 6, .inl (zA (fun j => ((so j : Nat) : Int))))), ((ma 11), .inl (cy 0, 554, .inl (zA kp)))] [.ref (ma 0), .int (zI c0)]) (qM D (some (.int (zI (if 0 ≤ c0 ∧ c0 ≤ 255 then (if xl < 200 then ((xl + 1 : Nat) : Int) else -3) else -1)))) [((ma 0), .inr (9, [.ref (ma 1), .int (zI ((xl : Nat) : Int)), .int (zI ((at0 : Nat) : Int)), .int (zI ((bg : Nat) : Int)), .int (zI tk0), .int (zI td), .ref (ma 2), .ref (ma 3), .ref (ma 4), .ref (ma 5), .int (zI ((ud : Nat) : Int)), .ref (ma 6), .int (zI be), .int (zI bp), .ref (ma 7), .int (zI ((ln : Nat) : Int)), .ref (ma 8), .ref (ma 9), .int (zI wa), .ref (ma 10), .long (zL tr), .ref (ma 11)])), ((ma 1), .inl (cy 0, 200, .inl (zA xt))), ((ma 2), .inl (cy 0, 44, .inl (zA rd))), ((ma 3), .inl (cy 0, 44, .inl (zA hs))), ((ma 4), .inl (cy 0, 25, .inl (zA (enc day hm tk py db)))), ((ma 5), .inl (cy 0, 250, .inl (zA un))), ((ma 6), .inl (cy 0, 6, .inl (zA rs))), ((ma 7), .inl (cy 0, 64, .inl (zA gp))), ((ma 8), .inl (cy 0, 6, .inl (zA (fun j => ((wh j : Nat) : Int))))), ((ma 9), .inl (cy 0, 6, .inl (zA lk))), ((ma 10), .inl (cy 0, 6, .inl (zA (fun j => ((so j : Nat) : Int))))), ((ma 11), .inl (cy 0, 554, .inl (zA kp)))] [((ma 0), .inr (9, [.ref (ma 1), .int (zI ((if (0 ≤ c0 ∧ c0 ≤ 255) ∧ xl < 200 then xl + 1 else xl : Nat) : Int)), .int (zI ((at0 : Nat) : Int)), .int (zI ((bg : Nat) : Int)), .int (zI tk0), .int (zI td), .ref (ma 2), .ref (ma 3), .ref (ma 4), .ref (ma 5), .int (zI ((ud : Nat) : Int)), .ref (ma 6), .int (zI be), .int (zI bp), .ref (ma 7), .int (zI ((ln : Nat) : Int)), .ref (ma 8), .ref (ma 9), .int (zI wa), .ref (ma 10), .long (zL tr), .ref (ma 11)])), ((ma 1), .inl (cy 0, 200, .inl (zA (if (0 ≤ c0 ∧ c0 ≤ 255) ∧ xl < 200 then va_up xt xl c0 else xt)))), ((ma 2), .inl (cy 0, 44, .inl (zA rd))), ((ma 3), .inl (cy 0, 44, .inl (zA hs))), ((ma 4), .inl (cy 0, 25, .inl (zA (enc day hm tk py db)))), ((ma 5), .inl (cy 0, 250, .inl (zA un))), ((ma 6), .inl (cy 0, 6, .inl (zA rs))), ((ma 7), .inl (cy 0, 64, .inl (zA gp))), ((ma 8), .inl (cy 0, 6, .inl (zA (fun j => ((wh j : Nat) : Int))))), ((ma 9), .inl (cy 0, 6, .inl (zA lk))), ((ma 10), .inl (cy 0, 6, .inl (zA (fun j => ((so j : Nat) : Int))))), ((ma 11), .inl (cy 0, 554, .inl (zA kp)))]) 0 0 (inW [((ma 0), .inr (9, [.ref (ma 1), .int (zI ((xl : Nat) : Int)), .int (zI ((at0 : Nat) : Int)), .int (zI ((bg : Nat) : Int)), .int (zI tk0), .int (zI td), .ref (ma 2), .ref (ma 3), .ref (ma 4), .ref (ma 5), .int (zI ((ud : Nat) : Int)), .ref (ma 6), .int (zI be), .int (zI bp), .ref (ma 7), .int (zI ((ln : Nat) : Int)), .ref (ma 8), .ref (ma 9), .int (zI wa), .ref (ma 10), .long (zL tr), .ref (ma 11)])), ((ma 1), .inl (cy 0, 200, .inl (zA xt))), ((ma 2), .inl (cy 0, 44, .inl (zA rd))), ((ma 3), .inl (cy 0, 44, .inl (zA hs))), ((ma 4), .inl (cy 0, 25, .inl (zA (enc day hm tk py db)))), ((ma 5), .inl (cy 0, 250, .inl (zA un))), ((ma 6), .inl (cy 0, 6, .inl (zA rs))), ((ma 7), .inl (cy 0, 64, .inl (zA gp))), ((ma 8), .inl (cy 0, 6, .inl (zA (fun j => ((wh j : Nat) : Int))))), ((ma 9), .inl (cy 0, 6, .inl (zA lk))), ((ma 10), .inl (cy 0, 6, .inl (zA (fun j => ((so j : Nat) : Int))))), ((ma 11), .inl (cy 0, 554, .inl (zA kp)))]) := by
  refine met_M (cc := cX9_type) (maxL := 2) (ret := (some .int)) RX9 (by decide) rfl rfl (Nat.le_of_ble_eq_true rfl) ?_
  intro p e s m args below meth c ls Q A0 hx hb hr hml hts hown hlocks hQ hA0 hP hK hD hS hl
  have hl : lv_has ls 2 [(0, .ref (ma 0)), (1, .int (zI c0))] := hl
  have hP : va_P D vwCl [((ma 0), .inr (9, [.ref (ma 1), .int (zI ((xl : Nat) : Int)), .int (zI ((at0 : Nat) : Int)), .int (zI ((bg : Nat) : Int)), .int (zI tk0), .int (zI td), .ref (ma 2), .ref (ma 3), .ref (ma 4), .ref (ma 5), .int (zI ((ud : Nat) : Int)), .ref (ma 6), .int (zI be), .int (zI bp), .ref (ma 7), .int (zI ((ln : Nat) : Int)), .ref (ma 8), .ref (ma 9), .int (zI wa), .ref (ma 10), .long (zL tr), .ref (ma 11)])), ((ma 1), .inl (cy 0, 200, .inl (zA xt))), ((ma 2), .inl (cy 0, 44, .inl (zA rd))), ((ma 3), .inl (cy 0, 44, .inl (zA hs))), ((ma 4), .inl (cy 0, 25, .inl (zA (enc day hm tk py db)))), ((ma 5), .inl (cy 0, 250, .inl (zA un))), ((ma 6), .inl (cy 0, 6, .inl (zA rs))), ((ma 7), .inl (cy 0, 64, .inl (zA gp))), ((ma 8), .inl (cy 0, 6, .inl (zA (fun j => ((wh j : Nat) : Int))))), ((ma 9), .inl (cy 0, 6, .inl (zA lk))), ((ma 10), .inl (cy 0, 6, .inl (zA (fun j => ((so j : Nat) : Int))))), ((ma 11), .inl (cy 0, 554, .inl (zA kp)))] s.heap := hP
  have hinX9 : ∀ w ∈ wsX90, w ∈ wsX9_type := (fun w h => List.mem_cons_of_mem _ (List.mem_append_right _ h))
  refine lv_iload_n hx hb dX9_type_0 rfl (lv_at hl 1 rfl) ?_
  refine z_i2l hx hb ⟨by omega, by omega⟩ dX9_type_1 ?_
  refine lv_lconst (v := zL 0) hx hb dX9_type_2 rfl ?_
  refine lv_ldc2 (v := zL 255) hx hb hown (hts (.constantLong RX9 46 (255)) (List.mem_of_getElem? (i := 1) rfl)) dX9_type_3 ?_
  have hPc1 := hP.sub (ws' := []) [] rfl
  refine zr_callS (rest := []) (As := [.long (zL c0), .long (zL 0), .long (zL 255)]) (v := (if 0 ≤ c0 ∧ c0 ≤ 255 then 1 else 0)) (wd := []) ⟨hx, hb, hml, hown, hts⟩ (c_X9_in l D cy c0 0 255 (by omega) (by omega) (by omega)) (va_cwS 3 hts gX9_type_X9_in rfl rfl rfl (by decide +kernel) ⟨Nat.le_of_ble_eq_true rfl, Nat.le_of_ble_eq_true rfl⟩) hK (fun k q h => by cases h) rfl hl.1 rfl (Nat.le_of_ble_eq_true rfl) dX9_type_6 ⟨Nat.zero_le _, Nat.zero_le _⟩ ?_
  refine z_if_ne (tgt := 14) hx hb bo_r dX9_type_9 (by decide) (fun c2 => ?_) (fun c2 => ?_)
  · have c2 := bo_t c2
    refine lv_aload_n hx hb dX9_type_14 rfl (lv_at hl 0 rfl) ?_
    refine va_get (D := D) (ci := 9) (v := .int (zI ((xl : Nat) : Int))) (C := RX9) (T := TX9) (N := 22) hx hb hts hinX9 hown hK hP 0 rfl rfl 1 (by decide) (hts (.fieldLink RX9 52 "SilentRentModel" "size" "I") (List.mem_of_getElem? (i := 2) rfl)) (fun _ h9 => h9) rfl dX9_type_15 ?_
    refine lv_sipush (v := zI 200) hx hb dX9_type_18 (by decide) ?_
    refine z_icmp_ne (tgt := 27) hx hb ⟨by omega, by omega⟩ ⟨by omega, by omega⟩ dX9_type_21 (by decide) (fun c3 => ?_) (fun c3 => ?_)
    · have c3 : ¬ ((xl : Nat) = (200 : Nat)) := by omega
      refine lv_aload_n hx hb dX9_type_27 rfl (lv_at hl 0 rfl) ?_
      refine va_get (D := D) (ci := 9) (v := .ref (ma 1)) (C := RX9) (T := TX9) (N := 22) hx hb hts hinX9 hown hK hP 0 rfl rfl 0 (by decide) (hts (.fieldLink RX9 7 "SilentRentModel" "text" "[I") (List.mem_of_getElem? (i := 3) rfl)) (fun _ h9 => h9) rfl dX9_type_28 ?_
      refine lv_aload_n hx hb dX9_type_31 rfl (lv_at hl 0 rfl) ?_
      refine va_get (D := D) (ci := 9) (v := .int (zI ((xl : Nat) : Int))) (C := RX9) (T := TX9) (N := 22) hx hb hts hinX9 hown hK hP 0 rfl rfl 1 (by decide) (hts (.fieldLink RX9 52 "SilentRentModel" "size" "I") (List.mem_of_getElem? (i := 2) rfl)) (fun _ h9 => h9) rfl dX9_type_32 ?_
      refine lv_iload_n hx hb dX9_type_35 rfl (lv_at hl 1 rfl) ?_
      refine z_iast hx hb hK hP hD hS 1 0 (f := xt) rfl rfl (x := c0) xl rfl (by omega) (by decide) dX9_type_36 (fun H locs hP hD hS => ?_)
      have hP : va_P D vwCl [((ma 0), .inr (9, [.ref (ma 1), .int (zI ((xl : Nat) : Int)), .int (zI ((at0 : Nat) : Int)), .int (zI ((bg : Nat) : Int)), .int (zI tk0), .int (zI td), .ref (ma 2), .ref (ma 3), .ref (ma 4), .ref (ma 5), .int (zI ((ud : Nat) : Int)), .ref (ma 6), .int (zI be), .int (zI bp), .ref (ma 7), .int (zI ((ln : Nat) : Int)), .ref (ma 8), .ref (ma 9), .int (zI wa), .ref (ma 10), .long (zL tr), .ref (ma 11)])), ((ma 1), .inl (cy 0, 200, .inl (zA (va_up xt xl c0)))), ((ma 2), .inl (cy 0, 44, .inl (zA rd))), ((ma 3), .inl (cy 0, 44, .inl (zA hs))), ((ma 4), .inl (cy 0, 25, .inl (zA (enc day hm tk py db)))), ((ma 5), .inl (cy 0, 250, .inl (zA un))), ((ma 6), .inl (cy 0, 6, .inl (zA rs))), ((ma 7), .inl (cy 0, 64, .inl (zA gp))), ((ma 8), .inl (cy 0, 6, .inl (zA (fun j => ((wh j : Nat) : Int))))), ((ma 9), .inl (cy 0, 6, .inl (zA lk))), ((ma 10), .inl (cy 0, 6, .inl (zA (fun j => ((so j : Nat) : Int))))), ((ma 11), .inl (cy 0, 554, .inl (zA kp)))] H := hP
      have hD : va_D A0 [((ma 0), .inr (9, [.ref (ma 1), .int (zI ((xl : Nat) : Int)), .int (zI ((at0 : Nat) : Int)), .int (zI ((bg : Nat) : Int)), .int (zI tk0), .int (zI td), .ref (ma 2), .ref (ma 3), .ref (ma 4), .ref (ma 5), .int (zI ((ud : Nat) : Int)), .ref (ma 6), .int (zI be), .int (zI bp), .ref (ma 7), .int (zI ((ln : Nat) : Int)), .ref (ma 8), .ref (ma 9), .int (zI wa), .ref (ma 10), .long (zL tr), .ref (ma 11)])), ((ma 1), .inl (cy 0, 200, .inl (zA (va_up xt xl c0)))), ((ma 2), .inl (cy 0, 44, .inl (zA rd))), ((ma 3), .inl (cy 0, 44, .inl (zA hs))), ((ma 4), .inl (cy 0, 25, .inl (zA (enc day hm tk py db)))), ((ma 5), .inl (cy 0, 250, .inl (zA un))), ((ma 6), .inl (cy 0, 6, .inl (zA rs))), ((ma 7), .inl (cy 0, 64, .inl (zA gp))), ((ma 8), .inl (cy 0, 6, .inl (zA (fun j => ((wh j : Nat) : Int))))), ((ma 9), .inl (cy 0, 6, .inl (zA lk))), ((ma 10), .inl (cy 0, 6, .inl (zA (fun j => ((so j : Nat) : Int))))), ((ma 11), .inl (cy 0, 554, .inl (zA kp)))] := hD
      refine lv_aload_n hx hb dX9_type_37 rfl (lv_at hl 0 rfl) ?_
      refine lv_dup hx hb dX9_type_38 rfl ?_
      refine va_get (D := D) (ci := 9) (v := .int (zI ((xl : Nat) : Int))) (C := RX9) (T := TX9) (N := 22) hx hb hts hinX9 hown hK hP 0 rfl rfl 1 (by decide) (hts (.fieldLink RX9 52 "SilentRentModel" "size" "I") (List.mem_of_getElem? (i := 2) rfl)) (fun _ h9 => h9) rfl dX9_type_39 ?_
      refine lv_iconst (v := zI 1) hx hb dX9_type_42 rfl ?_
      refine z_iadd (r := ((xl + 1 : Nat) : Int)) hx hb (by omega) dX9_type_43 ?_
      refine va_put (D := D) (ci := 9) (v := .int (zI ((xl + 1 : Nat) : Int))) (ty := .int) (C := RX9) (T := TX9) (N := 22) hx hb hts hinX9 tyX9 tyX9_ok nmX9 hown hK hP hD hS 0 rfl rfl 1 (by decide) (hts (.fieldLink RX9 52 "SilentRentModel" "size" "I") (List.mem_of_getElem? (i := 2) rfl)) (fun _ h9 => h9) rfl (by decide +kernel) rfl rfl (Nat.le_of_ble_eq_true rfl) dX9_type_44 (fun H locs hP hD hS => ?_)
      have hP : va_P D vwCl [((ma 0), .inr (9, [.ref (ma 1), .int (zI ((xl + 1 : Nat) : Int)), .int (zI ((at0 : Nat) : Int)), .int (zI ((bg : Nat) : Int)), .int (zI tk0), .int (zI td), .ref (ma 2), .ref (ma 3), .ref (ma 4), .ref (ma 5), .int (zI ((ud : Nat) : Int)), .ref (ma 6), .int (zI be), .int (zI bp), .ref (ma 7), .int (zI ((ln : Nat) : Int)), .ref (ma 8), .ref (ma 9), .int (zI wa), .ref (ma 10), .long (zL tr), .ref (ma 11)])), ((ma 1), .inl (cy 0, 200, .inl (zA (va_up xt xl c0)))), ((ma 2), .inl (cy 0, 44, .inl (zA rd))), ((ma 3), .inl (cy 0, 44, .inl (zA hs))), ((ma 4), .inl (cy 0, 25, .inl (zA (enc day hm tk py db)))), ((ma 5), .inl (cy 0, 250, .inl (zA un))), ((ma 6), .inl (cy 0, 6, .inl (zA rs))), ((ma 7), .inl (cy 0, 64, .inl (zA gp))), ((ma 8), .inl (cy 0, 6, .inl (zA (fun j => ((wh j : Nat) : Int))))), ((ma 9), .inl (cy 0, 6, .inl (zA lk))), ((ma 10), .inl (cy 0, 6, .inl (zA (fun j => ((so j : Nat) : Int))))), ((ma 11), .inl (cy 0, 554, .inl (zA kp)))] H := hP
      have hD : va_D A0 [((ma 0), .inr (9, [.ref (ma 1), .int (zI ((xl + 1 : Nat) : Int)), .int (zI ((at0 : Nat) : Int)), .int (zI ((bg : Nat) : Int)), .int (zI tk0), .int (zI td), .ref (ma 2), .ref (ma 3), .ref (ma 4), .ref (ma 5), .int (zI ((ud : Nat) : Int)), .ref (ma 6), .int (zI be), .int (zI bp), .ref (ma 7), .int (zI ((ln : Nat) : Int)), .ref (ma 8), .ref (ma 9), .int (zI wa), .ref (ma 10), .long (zL tr), .ref (ma 11)])), ((ma 1), .inl (cy 0, 200, .inl (zA (va_up xt xl c0)))), ((ma 2), .inl (cy 0, 44, .inl (zA rd))), ((ma 3), .inl (cy 0, 44, .inl (zA hs))), ((ma 4), .inl (cy 0, 25, .inl (zA (enc day hm tk py db)))), ((ma 5), .inl (cy 0, 250, .inl (zA un))), ((ma 6), .inl (cy 0, 6, .inl (zA rs))), ((ma 7), .inl (cy 0, 64, .inl (zA gp))), ((ma 8), .inl (cy 0, 6, .inl (zA (fun j => ((wh j : Nat) : Int))))), ((ma 9), .inl (cy 0, 6, .inl (zA lk))), ((ma 10), .inl (cy 0, 6, .inl (zA (fun j => ((so j : Nat) : Int))))), ((ma 11), .inl (cy 0, 554, .inl (zA kp)))] := hD
      refine lv_aload_n hx hb dX9_type_47 rfl (lv_at hl 0 rfl) ?_
      refine va_get (D := D) (ci := 9) (v := .int (zI ((xl + 1 : Nat) : Int))) (C := RX9) (T := TX9) (N := 22) hx hb hts hinX9 hown hK hP 0 rfl rfl 1 (by decide) (hts (.fieldLink RX9 52 "SilentRentModel" "size" "I") (List.mem_of_getElem? (i := 2) rfl)) (fun _ h9 => h9) rfl dX9_type_48 ?_
      have hw4 : (((xl + 1 : Nat) : Int) : Int) = ((if (0 ≤ c0 ∧ c0 ≤ 255) ∧ xl < 200 then xl + 1 else xl : Nat) : Int) := by first | exact (if_pos (by omega)).symm | exact (if_neg (by omega)).symm | ((repeat' split) <;> first | rfl | omega)
      have hw5 : ((va_up xt xl c0) : Nat → Int) = (if (0 ≤ c0 ∧ c0 ≤ 255) ∧ xl < 200 then va_up xt xl c0 else xt) := by first | exact (if_pos (by omega)).symm | exact (if_neg (by omega)).symm | ((repeat' split) <;> first | rfl | omega)
      have hP : va_P D vwCl [((ma 0), .inr (9, [.ref (ma 1), .int (zI ((if (0 ≤ c0 ∧ c0 ≤ 255) ∧ xl < 200 then xl + 1 else xl : Nat) : Int)), .int (zI ((at0 : Nat) : Int)), .int (zI ((bg : Nat) : Int)), .int (zI tk0), .int (zI td), .ref (ma 2), .ref (ma 3), .ref (ma 4), .ref (ma 5), .int (zI ((ud : Nat) : Int)), .ref (ma 6), .int (zI be), .int (zI bp), .ref (ma 7), .int (zI ((ln : Nat) : Int)), .ref (ma 8), .ref (ma 9), .int (zI wa), .ref (ma 10), .long (zL tr), .ref (ma 11)])), ((ma 1), .inl (cy 0, 200, .inl (zA (if (0 ≤ c0 ∧ c0 ≤ 255) ∧ xl < 200 then va_up xt xl c0 else xt)))), ((ma 2), .inl (cy 0, 44, .inl (zA rd))), ((ma 3), .inl (cy 0, 44, .inl (zA hs))), ((ma 4), .inl (cy 0, 25, .inl (zA (enc day hm tk py db)))), ((ma 5), .inl (cy 0, 250, .inl (zA un))), ((ma 6), .inl (cy 0, 6, .inl (zA rs))), ((ma 7), .inl (cy 0, 64, .inl (zA gp))), ((ma 8), .inl (cy 0, 6, .inl (zA (fun j => ((wh j : Nat) : Int))))), ((ma 9), .inl (cy 0, 6, .inl (zA lk))), ((ma 10), .inl (cy 0, 6, .inl (zA (fun j => ((so j : Nat) : Int))))), ((ma 11), .inl (cy 0, 554, .inl (zA kp)))] H := by rw [← hw4, ← hw5]; exact hP
      exact zm_iret hx hb hr hlocks hQ hA0 hP hS (by (repeat' split) <;> first | rfl | omega) dX9_type_51
    · have c3 : (xl : Nat) = (200 : Nat) := by omega
      refine lv_bipush (v := zI (-3)) hx hb dX9_type_24 (by decide) ?_
      have hw6 : (((xl : Nat) : Int) : Int) = ((if (0 ≤ c0 ∧ c0 ≤ 255) ∧ xl < 200 then xl + 1 else xl : Nat) : Int) := by first | exact (if_pos (by omega)).symm | exact (if_neg (by omega)).symm | ((repeat' split) <;> first | rfl | omega)
      have hw7 : (xt : Nat → Int) = (if (0 ≤ c0 ∧ c0 ≤ 255) ∧ xl < 200 then va_up xt xl c0 else xt) := by first | exact (if_pos (by omega)).symm | exact (if_neg (by omega)).symm | ((repeat' split) <;> first | rfl | omega)
      have hP : va_P D vwCl [((ma 0), .inr (9, [.ref (ma 1), .int (zI ((if (0 ≤ c0 ∧ c0 ≤ 255) ∧ xl < 200 then xl + 1 else xl : Nat) : Int)), .int (zI ((at0 : Nat) : Int)), .int (zI ((bg : Nat) : Int)), .int (zI tk0), .int (zI td), .ref (ma 2), .ref (ma 3), .ref (ma 4), .ref (ma 5), .int (zI ((ud : Nat) : Int)), .ref (ma 6), .int (zI be), .int (zI bp), .ref (ma 7), .int (zI ((ln : Nat) : Int)), .ref (ma 8), .ref (ma 9), .int (zI wa), .ref (ma 10), .long (zL tr), .ref (ma 11)])), ((ma 1), .inl (cy 0, 200, .inl (zA (if (0 ≤ c0 ∧ c0 ≤ 255) ∧ xl < 200 then va_up xt xl c0 else xt)))), ((ma 2), .inl (cy 0, 44, .inl (zA rd))), ((ma 3), .inl (cy 0, 44, .inl (zA hs))), ((ma 4), .inl (cy 0, 25, .inl (zA (enc day hm tk py db)))), ((ma 5), .inl (cy 0, 250, .inl (zA un))), ((ma 6), .inl (cy 0, 6, .inl (zA rs))), ((ma 7), .inl (cy 0, 64, .inl (zA gp))), ((ma 8), .inl (cy 0, 6, .inl (zA (fun j => ((wh j : Nat) : Int))))), ((ma 9), .inl (cy 0, 6, .inl (zA lk))), ((ma 10), .inl (cy 0, 6, .inl (zA (fun j => ((so j : Nat) : Int))))), ((ma 11), .inl (cy 0, 554, .inl (zA kp)))] s.heap := by rw [← hw6, ← hw7]; exact hP
      exact zm_iret hx hb hr hlocks hQ hA0 hP hS (by (repeat' split) <;> first | rfl | omega) dX9_type_26
  · have c2 := bo_f c2
    refine lv_iconst (v := zI (-1)) hx hb dX9_type_12 rfl ?_
    have hw8 : (((xl : Nat) : Int) : Int) = ((if (0 ≤ c0 ∧ c0 ≤ 255) ∧ xl < 200 then xl + 1 else xl : Nat) : Int) := by first | exact (if_pos (by omega)).symm | exact (if_neg (by omega)).symm | ((repeat' split) <;> first | rfl | omega)
    have hw9 : (xt : Nat → Int) = (if (0 ≤ c0 ∧ c0 ≤ 255) ∧ xl < 200 then va_up xt xl c0 else xt) := by first | exact (if_pos (by omega)).symm | exact (if_neg (by omega)).symm | ((repeat' split) <;> first | rfl | omega)
    have hP : va_P D vwCl [((ma 0), .inr (9, [.ref (ma 1), .int (zI ((if (0 ≤ c0 ∧ c0 ≤ 255) ∧ xl < 200 then xl + 1 else xl : Nat) : Int)), .int (zI ((at0 : Nat) : Int)), .int (zI ((bg : Nat) : Int)), .int (zI tk0), .int (zI td), .ref (ma 2), .ref (ma 3), .ref (ma 4), .ref (ma 5), .int (zI ((ud : Nat) : Int)), .ref (ma 6), .int (zI be), .int (zI bp), .ref (ma 7), .int (zI ((ln : Nat) : Int)), .ref (ma 8), .ref (ma 9), .int (zI wa), .ref (ma 10), .long (zL tr), .ref (ma 11)])), ((ma 1), .inl (cy 0, 200, .inl (zA (if (0 ≤ c0 ∧ c0 ≤ 255) ∧ xl < 200 then va_up xt xl c0 else xt)))), ((ma 2), .inl (cy 0, 44, .inl (zA rd))), ((ma 3), .inl (cy 0, 44, .inl (zA hs))), ((ma 4), .inl (cy 0, 25, .inl (zA (enc day hm tk py db)))), ((ma 5), .inl (cy 0, 250, .inl (zA un))), ((ma 6), .inl (cy 0, 6, .inl (zA rs))), ((ma 7), .inl (cy 0, 64, .inl (zA gp))), ((ma 8), .inl (cy 0, 6, .inl (zA (fun j => ((wh j : Nat) : Int))))), ((ma 9), .inl (cy 0, 6, .inl (zA lk))), ((ma 10), .inl (cy 0, 6, .inl (zA (fun j => ((so j : Nat) : Int))))), ((ma 11), .inl (cy 0, 554, .inl (zA kp)))] s.heap := by rw [← hw8, ← hw9]; exact hP
    exact zm_iret hx hb hr hlocks hQ hA0 hP hS (by (repeat' split) <;> first | rfl | omega) dX9_type_13
abbrev rm_X9_clear : Room := { frames := 0, cells := 0, slots := 0, locals := 0 }
set_option maxHeartbeats 4000000 in
set_option maxRecDepth 100000 in
theorem c_X9_clear (l : Launch) (D : va_G) (cy : Nat → ClassId) (ma : Nat → Nat) (xt : Nat → Int) (xl : Nat) (at0 : Nat) (bg : Nat) (tk0 : Int) (td : Int) (rd : Nat → Int) (hs : Nat → Int) (day : Int) (hm : Nat → Int) (tk : Nat → Int) (py : Nat → Int) (db : Nat → Int) (un : Nat → Int) (ud : Nat) (rs : Nat → Int) (be : Int) (bp : Int) (gp : Nat → Int) (ln : Nat) (wh : Nat → Nat) (lk : Nat → Int) (wa : Int) (so : Nat → Nat) (tr : Int) (kp : Nat → Int)  : Met l yX9_clear wsX9_clear rm_X9_clear (pM D cy [((ma 0), .inr (9, [.ref (ma 1), .int (zI ((xl : Nat) : Int)), .int (zI ((at0 : Nat) : Int)), .int (zI ((bg : Nat) : Int)), .int (zI tk0), .int (zI td), .ref (ma 2), .ref (ma 3), .ref (ma 4), .ref (ma 5), .int (zI ((ud : Nat) : Int)), .ref (ma 6), .int (zI be), .int (zI bp), .ref (ma 7), .int (zI ((ln : Nat) : Int)), .ref (ma 8), .ref (ma 9), .int (zI wa), .ref (ma 10), .long (zL tr), .ref (ma 11)])), ((ma 1), .inl (cy 0, 200, .inl (zA xt))), ((ma 2), .inl (cy 0, 44, .inl (zA rd))), ((ma 3), .inl (cy 0, 44, .inl (zA hs))), ((ma 4), .inl (cy 0, 25, .inl (zA (enc day hm tk py db)))), ((ma 5), .inl (cy 0, 250, .inl (zA un))), ((ma 6), .inl (cy 0, 6, .inl (zA rs))), ((ma 7), .inl (cy 0, 64, .inl (zA gp))), ((ma 8), .inl (cy 0, 6, .inl (zA (fun j => ((wh j : Nat) : Int))))), ((ma 9), .inl (cy 0, 6, .inl (zA lk))), ((ma 10), .inl (cy 0, 6, .inl (zA (fun j => ((so j : Nat) : Int))))), ((ma 11), .inl (cy 0, 554, .inl (zA kp)))] [.ref (ma 0)]) (qM D (some (.int (zI ((xl : Nat) : Int)))) [((ma 0), .inr (9, [.ref (ma 1), .int (zI ((xl : Nat) : Int)), .int (zI ((at0 : Nat) : Int)), .int (zI ((bg : Nat) : Int)), .int (zI tk0), .int (zI td), .ref (ma 2), .ref (ma 3), .ref (ma 4), .ref (ma 5), .int (zI ((ud : Nat) : Int)), .ref (ma 6), .int (zI be), .int (zI bp), .ref (ma 7), .int (zI ((ln : Nat) : Int)), .ref (ma 8), .ref (ma 9), .int (zI wa), .ref (ma 10), .long (zL tr), .ref (ma 11)])), ((ma 1), .inl (cy 0, 200, .inl (zA xt))), ((ma 2), .inl (cy 0, 44, .inl (zA rd))), ((ma 3), .inl (cy 0, 44, .inl (zA hs))), ((ma 4), .inl (cy 0, 25, .inl (zA (enc day hm tk py db)))), ((ma 5), .inl (cy 0, 250, .inl (zA un))), ((ma 6), .inl (cy 0, 6, .inl (zA rs))), ((ma 7), .inl (cy 0, 64, .inl (zA gp))), ((ma 8), .inl (cy 0, 6, .inl (zA (fun j => ((wh j : Nat) : Int))))), ((ma 9), .inl (cy 0, 6, .inl (zA lk))), ((ma 10), .inl (cy 0, 6, .inl (zA (fun j => ((so j : Nat) : Int))))), ((ma 11), .inl (cy 0, 554, .inl (zA kp)))] [((ma 0), .inr (9, [.ref (ma 1), .int (zI ((0 : Nat) : Int)), .int (zI ((at0 : Nat) : Int)), .int (zI ((bg : Nat) : Int)), .int (zI tk0), .int (zI td), .ref (ma 2), .ref (ma 3), .ref (ma 4), .ref (ma 5), .int (zI ((ud : Nat) : Int)), .ref (ma 6), .int (zI be), .int (zI bp), .ref (ma 7), .int (zI ((ln : Nat) : Int)), .ref (ma 8), .ref (ma 9), .int (zI wa), .ref (ma 10), .long (zL tr), .ref (ma 11)])), ((ma 1), .inl (cy 0, 200, .inl (zA xt))), ((ma 2), .inl (cy 0, 44, .inl (zA rd))), ((ma 3), .inl (cy 0, 44, .inl (zA hs))), ((ma 4), .inl (cy 0, 25, .inl (zA (enc day hm tk py db)))), ((ma 5), .inl (cy 0, 250, .inl (zA un))), ((ma 6), .inl (cy 0, 6, .inl (zA rs))), ((ma 7), .inl (cy 0, 64, .inl (zA gp))), ((ma 8), .inl (cy 0, 6, .inl (zA (fun j => ((wh j : Nat) : Int))))), ((ma 9), .inl (cy 0, 6, .inl (zA lk))), ((ma 10), .inl (cy 0, 6, .inl (zA (fun j => ((so j : Nat) : Int))))), ((ma 11), .inl (cy 0, 554, .inl (zA kp)))]) 0 0 (inW [((ma 0), .inr (9, [.ref (ma 1), .int (zI ((xl : Nat) : Int)), .int (zI ((at0 : Nat) : Int)), .int (zI ((bg : Nat) : Int)), .int (zI tk0), .int (zI td), .ref (ma 2), .ref (ma 3), .ref (ma 4), .ref (ma 5), .int (zI ((ud : Nat) : Int)), .ref (ma 6), .int (zI be), .int (zI bp), .ref (ma 7), .int (zI ((ln : Nat) : Int)), .ref (ma 8), .ref (ma 9), .int (zI wa), .ref (ma 10), .long (zL tr), .ref (ma 11)])), ((ma 1), .inl (cy 0, 200, .inl (zA xt))), ((ma 2), .inl (cy 0, 44, .inl (zA rd))), ((ma 3), .inl (cy 0, 44, .inl (zA hs))), ((ma 4), .inl (cy 0, 25, .inl (zA (enc day hm tk py db)))), ((ma 5), .inl (cy 0, 250, .inl (zA un))), ((ma 6), .inl (cy 0, 6, .inl (zA rs))), ((ma 7), .inl (cy 0, 64, .inl (zA gp))), ((ma 8), .inl (cy 0, 6, .inl (zA (fun j => ((wh j : Nat) : Int))))), ((ma 9), .inl (cy 0, 6, .inl (zA lk))), ((ma 10), .inl (cy 0, 6, .inl (zA (fun j => ((so j : Nat) : Int))))), ((ma 11), .inl (cy 0, 554, .inl (zA kp)))]) := by
  refine met_M (cc := cX9_clear) (maxL := 2) (ret := (some .int)) RX9 (by decide) rfl rfl (Nat.le_of_ble_eq_true rfl) ?_
  intro p e s m args below meth c ls Q A0 hx hb hr hml hts hown hlocks hQ hA0 hP hK hD hS hl
  have hl : lv_has ls 2 [(0, .ref (ma 0))] := hl
  have hP : va_P D vwCl [((ma 0), .inr (9, [.ref (ma 1), .int (zI ((xl : Nat) : Int)), .int (zI ((at0 : Nat) : Int)), .int (zI ((bg : Nat) : Int)), .int (zI tk0), .int (zI td), .ref (ma 2), .ref (ma 3), .ref (ma 4), .ref (ma 5), .int (zI ((ud : Nat) : Int)), .ref (ma 6), .int (zI be), .int (zI bp), .ref (ma 7), .int (zI ((ln : Nat) : Int)), .ref (ma 8), .ref (ma 9), .int (zI wa), .ref (ma 10), .long (zL tr), .ref (ma 11)])), ((ma 1), .inl (cy 0, 200, .inl (zA xt))), ((ma 2), .inl (cy 0, 44, .inl (zA rd))), ((ma 3), .inl (cy 0, 44, .inl (zA hs))), ((ma 4), .inl (cy 0, 25, .inl (zA (enc day hm tk py db)))), ((ma 5), .inl (cy 0, 250, .inl (zA un))), ((ma 6), .inl (cy 0, 6, .inl (zA rs))), ((ma 7), .inl (cy 0, 64, .inl (zA gp))), ((ma 8), .inl (cy 0, 6, .inl (zA (fun j => ((wh j : Nat) : Int))))), ((ma 9), .inl (cy 0, 6, .inl (zA lk))), ((ma 10), .inl (cy 0, 6, .inl (zA (fun j => ((so j : Nat) : Int))))), ((ma 11), .inl (cy 0, 554, .inl (zA kp)))] s.heap := hP
  have hinX9 : ∀ w ∈ wsX90, w ∈ wsX9_clear := (fun w h => List.mem_cons_of_mem _ (List.mem_append_right _ h))
  refine lv_aload_n hx hb dX9_clear_0 rfl (lv_at hl 0 rfl) ?_
  refine va_get (D := D) (ci := 9) (v := .int (zI ((xl : Nat) : Int))) (C := RX9) (T := TX9) (N := 22) hx hb hts hinX9 hown hK hP 0 rfl rfl 1 (by decide) (hts (.fieldLink RX9 52 "SilentRentModel" "size" "I") (List.mem_of_getElem? (i := 1) rfl)) (fun _ h9 => h9) rfl dX9_clear_1 ?_
  refine lv_istore_n (lv' := [(1, .int (zI ((xl : Nat) : Int))), (0, .ref (ma 0))]) hx hb dX9_clear_4 rfl hl (by decide) rfl (fun ls hl => ?_)
  refine lv_aload_n hx hb dX9_clear_5 rfl (lv_at hl 1 rfl) ?_
  refine lv_iconst (v := zI 0) hx hb dX9_clear_6 rfl ?_
  refine va_put (D := D) (ci := 9) (v := .int (zI 0)) (ty := .int) (C := RX9) (T := TX9) (N := 22) hx hb hts hinX9 tyX9 tyX9_ok nmX9 hown hK hP hD hS 0 rfl rfl 1 (by decide) (hts (.fieldLink RX9 52 "SilentRentModel" "size" "I") (List.mem_of_getElem? (i := 1) rfl)) (fun _ h9 => h9) rfl (by decide +kernel) rfl rfl (Nat.le_of_ble_eq_true rfl) dX9_clear_7 (fun H locs hP hD hS => ?_)
  have hP : va_P D vwCl [((ma 0), .inr (9, [.ref (ma 1), .int (zI 0), .int (zI ((at0 : Nat) : Int)), .int (zI ((bg : Nat) : Int)), .int (zI tk0), .int (zI td), .ref (ma 2), .ref (ma 3), .ref (ma 4), .ref (ma 5), .int (zI ((ud : Nat) : Int)), .ref (ma 6), .int (zI be), .int (zI bp), .ref (ma 7), .int (zI ((ln : Nat) : Int)), .ref (ma 8), .ref (ma 9), .int (zI wa), .ref (ma 10), .long (zL tr), .ref (ma 11)])), ((ma 1), .inl (cy 0, 200, .inl (zA xt))), ((ma 2), .inl (cy 0, 44, .inl (zA rd))), ((ma 3), .inl (cy 0, 44, .inl (zA hs))), ((ma 4), .inl (cy 0, 25, .inl (zA (enc day hm tk py db)))), ((ma 5), .inl (cy 0, 250, .inl (zA un))), ((ma 6), .inl (cy 0, 6, .inl (zA rs))), ((ma 7), .inl (cy 0, 64, .inl (zA gp))), ((ma 8), .inl (cy 0, 6, .inl (zA (fun j => ((wh j : Nat) : Int))))), ((ma 9), .inl (cy 0, 6, .inl (zA lk))), ((ma 10), .inl (cy 0, 6, .inl (zA (fun j => ((so j : Nat) : Int))))), ((ma 11), .inl (cy 0, 554, .inl (zA kp)))] H := hP
  have hD : va_D A0 [((ma 0), .inr (9, [.ref (ma 1), .int (zI 0), .int (zI ((at0 : Nat) : Int)), .int (zI ((bg : Nat) : Int)), .int (zI tk0), .int (zI td), .ref (ma 2), .ref (ma 3), .ref (ma 4), .ref (ma 5), .int (zI ((ud : Nat) : Int)), .ref (ma 6), .int (zI be), .int (zI bp), .ref (ma 7), .int (zI ((ln : Nat) : Int)), .ref (ma 8), .ref (ma 9), .int (zI wa), .ref (ma 10), .long (zL tr), .ref (ma 11)])), ((ma 1), .inl (cy 0, 200, .inl (zA xt))), ((ma 2), .inl (cy 0, 44, .inl (zA rd))), ((ma 3), .inl (cy 0, 44, .inl (zA hs))), ((ma 4), .inl (cy 0, 25, .inl (zA (enc day hm tk py db)))), ((ma 5), .inl (cy 0, 250, .inl (zA un))), ((ma 6), .inl (cy 0, 6, .inl (zA rs))), ((ma 7), .inl (cy 0, 64, .inl (zA gp))), ((ma 8), .inl (cy 0, 6, .inl (zA (fun j => ((wh j : Nat) : Int))))), ((ma 9), .inl (cy 0, 6, .inl (zA lk))), ((ma 10), .inl (cy 0, 6, .inl (zA (fun j => ((so j : Nat) : Int))))), ((ma 11), .inl (cy 0, 554, .inl (zA kp)))] := hD
  refine lv_iload_n hx hb dX9_clear_10 rfl (lv_at hl 0 rfl) ?_
  have hP : va_P D vwCl [((ma 0), .inr (9, [.ref (ma 1), .int (zI ((0 : Nat) : Int)), .int (zI ((at0 : Nat) : Int)), .int (zI ((bg : Nat) : Int)), .int (zI tk0), .int (zI td), .ref (ma 2), .ref (ma 3), .ref (ma 4), .ref (ma 5), .int (zI ((ud : Nat) : Int)), .ref (ma 6), .int (zI be), .int (zI bp), .ref (ma 7), .int (zI ((ln : Nat) : Int)), .ref (ma 8), .ref (ma 9), .int (zI wa), .ref (ma 10), .long (zL tr), .ref (ma 11)])), ((ma 1), .inl (cy 0, 200, .inl (zA xt))), ((ma 2), .inl (cy 0, 44, .inl (zA rd))), ((ma 3), .inl (cy 0, 44, .inl (zA hs))), ((ma 4), .inl (cy 0, 25, .inl (zA (enc day hm tk py db)))), ((ma 5), .inl (cy 0, 250, .inl (zA un))), ((ma 6), .inl (cy 0, 6, .inl (zA rs))), ((ma 7), .inl (cy 0, 64, .inl (zA gp))), ((ma 8), .inl (cy 0, 6, .inl (zA (fun j => ((wh j : Nat) : Int))))), ((ma 9), .inl (cy 0, 6, .inl (zA lk))), ((ma 10), .inl (cy 0, 6, .inl (zA (fun j => ((so j : Nat) : Int))))), ((ma 11), .inl (cy 0, 554, .inl (zA kp)))] H := hP
  exact zm_iret hx hb hr hlocks hQ hA0 hP hS (by rfl) dX9_clear_11
abbrev rm_X9_book : Room := { frames := 2, cells := 0, slots := 0, locals := 46 }
set_option maxHeartbeats 4000000 in
set_option maxRecDepth 100000 in
theorem c_X9_book (l : Launch) (D : va_G) (cy : Nat → ClassId) (ma : Nat → Nat) (xt : Nat → Int) (xl : Nat) (at0 : Nat) (bg : Nat) (tk0 : Int) (td : Int) (rd : Nat → Int) (hs : Nat → Int) (day : Int) (hm : Nat → Int) (tk : Nat → Int) (py : Nat → Int) (db : Nat → Int) (un : Nat → Int) (ud : Nat) (rs : Nat → Int) (be : Int) (bp : Int) (gp : Nat → Int) (ln : Nat) (wh : Nat → Nat) (lk : Nat → Int) (wa : Int) (so : Nat → Nat) (tr : Int) (kp : Nat → Int) (t : Int) (lack : Int) (ro : Nat) (te : Nat) (ch : Nat) (pr : Nat → Int) (sl : Nat → Int) (mu : Nat → Int) (wi : Nat → Int) (ak : Nat → Int) (he : Nat → Nat) (li : Nat → Nat) (ht0 : inR t) (hl0 : inR lack) (hro : ro ≤ 6) (hte : te ≤ 6) (hch : ch ≤ 5) (hHB : HB pr sl mu wi ak he li) (hHS : HS hs ro te ch pr sl mu wi ak he li) (hln : ln ≤ 6) : Met l yX9_book wsX9_book rm_X9_book (pM D cy [((ma 0), .inr (9, [.ref (ma 1), .int (zI ((xl : Nat) : Int)), .int (zI ((at0 : Nat) : Int)), .int (zI ((bg : Nat) : Int)), .int (zI tk0), .int (zI td), .ref (ma 2), .ref (ma 3), .ref (ma 4), .ref (ma 5), .int (zI ((ud : Nat) : Int)), .ref (ma 6), .int (zI be), .int (zI bp), .ref (ma 7), .int (zI ((ln : Nat) : Int)), .ref (ma 8), .ref (ma 9), .int (zI wa), .ref (ma 10), .long (zL tr), .ref (ma 11)])), ((ma 1), .inl (cy 0, 200, .inl (zA xt))), ((ma 2), .inl (cy 0, 44, .inl (zA rd))), ((ma 3), .inl (cy 0, 44, .inl (zA hs))), ((ma 4), .inl (cy 0, 25, .inl (zA (enc day hm tk py db)))), ((ma 5), .inl (cy 0, 250, .inl (zA un))), ((ma 6), .inl (cy 0, 6, .inl (zA rs))), ((ma 7), .inl (cy 0, 64, .inl (zA gp))), ((ma 8), .inl (cy 0, 6, .inl (zA (fun j => ((wh j : Nat) : Int))))), ((ma 9), .inl (cy 0, 6, .inl (zA lk))), ((ma 10), .inl (cy 0, 6, .inl (zA (fun j => ((so j : Nat) : Int))))), ((ma 11), .inl (cy 0, 554, .inl (zA kp)))] [.ref (ma 0), .int (zI t), .int (zI lack)]) (qM D (some (.int (zI (if (0 ≤ t ∧ t < (te : Int)) ∧ 0 ≤ lack ∧ lack ≤ 24 then (if ln < 6 then ((ln + 1 : Nat) : Int) else -3) else -1)))) [((ma 0), .inr (9, [.ref (ma 1), .int (zI ((xl : Nat) : Int)), .int (zI ((at0 : Nat) : Int)), .int (zI ((bg : Nat) : Int)), .int (zI tk0), .int (zI td), .ref (ma 2), .ref (ma 3), .ref (ma 4), .ref (ma 5), .int (zI ((ud : Nat) : Int)), .ref (ma 6), .int (zI be), .int (zI bp), .ref (ma 7), .int (zI ((ln : Nat) : Int)), .ref (ma 8), .ref (ma 9), .int (zI wa), .ref (ma 10), .long (zL tr), .ref (ma 11)])), ((ma 1), .inl (cy 0, 200, .inl (zA xt))), ((ma 2), .inl (cy 0, 44, .inl (zA rd))), ((ma 3), .inl (cy 0, 44, .inl (zA hs))), ((ma 4), .inl (cy 0, 25, .inl (zA (enc day hm tk py db)))), ((ma 5), .inl (cy 0, 250, .inl (zA un))), ((ma 6), .inl (cy 0, 6, .inl (zA rs))), ((ma 7), .inl (cy 0, 64, .inl (zA gp))), ((ma 8), .inl (cy 0, 6, .inl (zA (fun j => ((wh j : Nat) : Int))))), ((ma 9), .inl (cy 0, 6, .inl (zA lk))), ((ma 10), .inl (cy 0, 6, .inl (zA (fun j => ((so j : Nat) : Int))))), ((ma 11), .inl (cy 0, 554, .inl (zA kp)))] [((ma 0), .inr (9, [.ref (ma 1), .int (zI ((xl : Nat) : Int)), .int (zI ((at0 : Nat) : Int)), .int (zI ((bg : Nat) : Int)), .int (zI tk0), .int (zI td), .ref (ma 2), .ref (ma 3), .ref (ma 4), .ref (ma 5), .int (zI ((ud : Nat) : Int)), .ref (ma 6), .int (zI be), .int (zI bp), .ref (ma 7), .int (zI ((if ((0 ≤ t ∧ t < (te : Int)) ∧ 0 ≤ lack ∧ lack ≤ 24) ∧ ln < 6 then ln + 1 else ln : Nat) : Int)), .ref (ma 8), .ref (ma 9), .int (zI wa), .ref (ma 10), .long (zL tr), .ref (ma 11)])), ((ma 1), .inl (cy 0, 200, .inl (zA xt))), ((ma 2), .inl (cy 0, 44, .inl (zA rd))), ((ma 3), .inl (cy 0, 44, .inl (zA hs))), ((ma 4), .inl (cy 0, 25, .inl (zA (enc day hm tk py db)))), ((ma 5), .inl (cy 0, 250, .inl (zA un))), ((ma 6), .inl (cy 0, 6, .inl (zA rs))), ((ma 7), .inl (cy 0, 64, .inl (zA gp))), ((ma 8), .inl (cy 0, 6, .inl (zA (fun j => (((if ((0 ≤ t ∧ t < (te : Int)) ∧ 0 ≤ lack ∧ lack ≤ 24) ∧ ln < 6 then va_up wh ln t.toNat else wh) j : Nat) : Int))))), ((ma 9), .inl (cy 0, 6, .inl (zA (if ((0 ≤ t ∧ t < (te : Int)) ∧ 0 ≤ lack ∧ lack ≤ 24) ∧ ln < 6 then va_up lk ln lack else lk)))), ((ma 10), .inl (cy 0, 6, .inl (zA (fun j => ((so j : Nat) : Int))))), ((ma 11), .inl (cy 0, 554, .inl (zA kp)))]) 0 0 (inW [((ma 0), .inr (9, [.ref (ma 1), .int (zI ((xl : Nat) : Int)), .int (zI ((at0 : Nat) : Int)), .int (zI ((bg : Nat) : Int)), .int (zI tk0), .int (zI td), .ref (ma 2), .ref (ma 3), .ref (ma 4), .ref (ma 5), .int (zI ((ud : Nat) : Int)), .ref (ma 6), .int (zI be), .int (zI bp), .ref (ma 7), .int (zI ((ln : Nat) : Int)), .ref (ma 8), .ref (ma 9), .int (zI wa), .ref (ma 10), .long (zL tr), .ref (ma 11)])), ((ma 1), .inl (cy 0, 200, .inl (zA xt))), ((ma 2), .inl (cy 0, 44, .inl (zA rd))), ((ma 3), .inl (cy 0, 44, .inl (zA hs))), ((ma 4), .inl (cy 0, 25, .inl (zA (enc day hm tk py db)))), ((ma 5), .inl (cy 0, 250, .inl (zA un))), ((ma 6), .inl (cy 0, 6, .inl (zA rs))), ((ma 7), .inl (cy 0, 64, .inl (zA gp))), ((ma 8), .inl (cy 0, 6, .inl (zA (fun j => ((wh j : Nat) : Int))))), ((ma 9), .inl (cy 0, 6, .inl (zA lk))), ((ma 10), .inl (cy 0, 6, .inl (zA (fun j => ((so j : Nat) : Int))))), ((ma 11), .inl (cy 0, 554, .inl (zA kp)))]) := by
  refine met_M (cc := cX9_book) (maxL := 3) (ret := (some .int)) RX9 (by decide) rfl rfl (Nat.le_of_ble_eq_true rfl) ?_
  intro p e s m args below meth c ls Q A0 hx hb hr hml hts hown hlocks hQ hA0 hP hK hD hS hl
  have hl : lv_has ls 3 [(0, .ref (ma 0)), (1, .int (zI t)), (2, .int (zI lack))] := hl
  have hP : va_P D vwCl [((ma 0), .inr (9, [.ref (ma 1), .int (zI ((xl : Nat) : Int)), .int (zI ((at0 : Nat) : Int)), .int (zI ((bg : Nat) : Int)), .int (zI tk0), .int (zI td), .ref (ma 2), .ref (ma 3), .ref (ma 4), .ref (ma 5), .int (zI ((ud : Nat) : Int)), .ref (ma 6), .int (zI be), .int (zI bp), .ref (ma 7), .int (zI ((ln : Nat) : Int)), .ref (ma 8), .ref (ma 9), .int (zI wa), .ref (ma 10), .long (zL tr), .ref (ma 11)])), ((ma 1), .inl (cy 0, 200, .inl (zA xt))), ((ma 2), .inl (cy 0, 44, .inl (zA rd))), ((ma 3), .inl (cy 0, 44, .inl (zA hs))), ((ma 4), .inl (cy 0, 25, .inl (zA (enc day hm tk py db)))), ((ma 5), .inl (cy 0, 250, .inl (zA un))), ((ma 6), .inl (cy 0, 6, .inl (zA rs))), ((ma 7), .inl (cy 0, 64, .inl (zA gp))), ((ma 8), .inl (cy 0, 6, .inl (zA (fun j => ((wh j : Nat) : Int))))), ((ma 9), .inl (cy 0, 6, .inl (zA lk))), ((ma 10), .inl (cy 0, 6, .inl (zA (fun j => ((so j : Nat) : Int))))), ((ma 11), .inl (cy 0, 554, .inl (zA kp)))] s.heap := hP
  have hinX9 : ∀ w ∈ wsX90, w ∈ wsX9_book := (fun w h => List.mem_cons_of_mem _ (List.mem_append_right _ h))
  refine lv_aload_n hx hb dX9_book_0 rfl (lv_at hl 0 rfl) ?_
  refine lv_iload_n hx hb dX9_book_1 rfl (lv_at hl 1 rfl) ?_
  refine zr_callV (rest := []) (As := [.int (zI t)]) (v := (if 0 ≤ t ∧ t ≤ ((te : Nat) : Int) - 1 then 1 else 0)) ⟨hx, hb, hml, hown, hts⟩ (c_X9_isTenant l D cy ma xt xl at0 bg tk0 td rd hs day hm tk py db un ud rs be bp gp ln wh lk wa so tr kp t ro te ch pr sl mu wi ak he li (by omega) (by omega) (by omega) (by omega) hHB hHS) (cwV 1 hts gX9_book_X9_isTenant rfl rfl rfl (by decide +kernel) ⟨Nat.le_of_ble_eq_true rfl, Nat.le_of_ble_eq_true rfl⟩) hK hP 0 9 rfl rfl rfl hl.1 rfl (Nat.le_of_ble_eq_true rfl) dX9_book_2 ⟨Nat.zero_le _, Nat.zero_le _⟩ ?_
  refine z_if_eq (tgt := 20) hx hb bo_r dX9_book_5 (by decide) (fun c1 => ?_) (fun c1 => ?_)
  · have c1 := bo_f c1
    refine lv_iconst (v := zI (-1)) hx hb dX9_book_20 rfl ?_
    have hw2 : (((ln : Nat) : Int) : Int) = ((if ((0 ≤ t ∧ t < (te : Int)) ∧ 0 ≤ lack ∧ lack ≤ 24) ∧ ln < 6 then ln + 1 else ln : Nat) : Int) := by first | exact (if_pos (by omega)).symm | exact (if_neg (by omega)).symm | ((repeat' split) <;> first | rfl | omega)
    have hw3 : (wh : Nat → Nat) = (if ((0 ≤ t ∧ t < (te : Int)) ∧ 0 ≤ lack ∧ lack ≤ 24) ∧ ln < 6 then va_up wh ln t.toNat else wh) := by first | exact (if_pos (by omega)).symm | exact (if_neg (by omega)).symm | ((repeat' split) <;> first | rfl | omega)
    have hw4 : (lk : Nat → Int) = (if ((0 ≤ t ∧ t < (te : Int)) ∧ 0 ≤ lack ∧ lack ≤ 24) ∧ ln < 6 then va_up lk ln lack else lk) := by first | exact (if_pos (by omega)).symm | exact (if_neg (by omega)).symm | ((repeat' split) <;> first | rfl | omega)
    have hP : va_P D vwCl [((ma 0), .inr (9, [.ref (ma 1), .int (zI ((xl : Nat) : Int)), .int (zI ((at0 : Nat) : Int)), .int (zI ((bg : Nat) : Int)), .int (zI tk0), .int (zI td), .ref (ma 2), .ref (ma 3), .ref (ma 4), .ref (ma 5), .int (zI ((ud : Nat) : Int)), .ref (ma 6), .int (zI be), .int (zI bp), .ref (ma 7), .int (zI ((if ((0 ≤ t ∧ t < (te : Int)) ∧ 0 ≤ lack ∧ lack ≤ 24) ∧ ln < 6 then ln + 1 else ln : Nat) : Int)), .ref (ma 8), .ref (ma 9), .int (zI wa), .ref (ma 10), .long (zL tr), .ref (ma 11)])), ((ma 1), .inl (cy 0, 200, .inl (zA xt))), ((ma 2), .inl (cy 0, 44, .inl (zA rd))), ((ma 3), .inl (cy 0, 44, .inl (zA hs))), ((ma 4), .inl (cy 0, 25, .inl (zA (enc day hm tk py db)))), ((ma 5), .inl (cy 0, 250, .inl (zA un))), ((ma 6), .inl (cy 0, 6, .inl (zA rs))), ((ma 7), .inl (cy 0, 64, .inl (zA gp))), ((ma 8), .inl (cy 0, 6, .inl (zA (fun j => (((if ((0 ≤ t ∧ t < (te : Int)) ∧ 0 ≤ lack ∧ lack ≤ 24) ∧ ln < 6 then va_up wh ln t.toNat else wh) j : Nat) : Int))))), ((ma 9), .inl (cy 0, 6, .inl (zA (if ((0 ≤ t ∧ t < (te : Int)) ∧ 0 ≤ lack ∧ lack ≤ 24) ∧ ln < 6 then va_up lk ln lack else lk)))), ((ma 10), .inl (cy 0, 6, .inl (zA (fun j => ((so j : Nat) : Int))))), ((ma 11), .inl (cy 0, 554, .inl (zA kp)))] s.heap := by rw [← hw2, ← hw3, ← hw4]; exact hP
    exact zm_iret hx hb hr hlocks hQ hA0 hP hS (by (repeat' split) <;> first | rfl | omega) dX9_book_21
  · have c1 := bo_t c1
    refine lv_iload_n hx hb dX9_book_8 rfl (lv_at hl 2 rfl) ?_
    refine z_i2l hx hb ⟨by omega, by omega⟩ dX9_book_9 ?_
    refine lv_lconst (v := zL 0) hx hb dX9_book_10 rfl ?_
    refine lv_ldc2 (v := zL 24) hx hb hown (hts (.constantLong RX9 153 (24)) (List.mem_of_getElem? (i := 1) rfl)) dX9_book_11 ?_
    have hPc5 := hP.sub (ws' := []) [] rfl
    refine zr_callS (rest := []) (As := [.long (zL lack), .long (zL 0), .long (zL 24)]) (v := (if 0 ≤ lack ∧ lack ≤ 24 then 1 else 0)) (wd := []) ⟨hx, hb, hml, hown, hts⟩ (c_X9_in l D cy lack 0 24 (by omega) (by omega) (by omega)) (va_cwS 3 hts gX9_book_X9_in rfl rfl rfl (by decide +kernel) ⟨Nat.le_of_ble_eq_true rfl, Nat.le_of_ble_eq_true rfl⟩) hK (fun k q h => by cases h) rfl hl.1 rfl (Nat.le_of_ble_eq_true rfl) dX9_book_14 ⟨Nat.zero_le _, Nat.zero_le _⟩ ?_
    refine z_if_ne (tgt := 22) hx hb bo_r dX9_book_17 (by decide) (fun c6 => ?_) (fun c6 => ?_)
    · have c6 := bo_t c6
      refine lv_aload_n hx hb dX9_book_22 rfl (lv_at hl 0 rfl) ?_
      refine va_get (D := D) (ci := 9) (v := .int (zI ((ln : Nat) : Int))) (C := RX9) (T := TX9) (N := 22) hx hb hts hinX9 hown hK hP 0 rfl rfl 15 (by decide) (hts (.fieldLink RX9 109 "SilentRentModel" "lines" "I") (List.mem_of_getElem? (i := 2) rfl)) (fun _ h9 => h9) rfl dX9_book_23 ?_
      refine lv_bipush (v := zI 6) hx hb dX9_book_26 (by decide) ?_
      refine z_icmp_ne (tgt := 34) hx hb ⟨by omega, by omega⟩ ⟨by omega, by omega⟩ dX9_book_28 (by decide) (fun c7 => ?_) (fun c7 => ?_)
      · have c7 : ¬ ((ln : Nat) = (6 : Nat)) := by omega
        have hr8 : t = ((t.toNat : Nat) : Int) := by omega
        rw [hr8] at hl
        have hl : lv_has ls 3 [(0, .ref (ma 0)), (1, .int (zI ((t.toNat : Nat) : Int))), (2, .int (zI lack))] := hl
        refine lv_aload_n hx hb dX9_book_34 rfl (lv_at hl 0 rfl) ?_
        refine va_get (D := D) (ci := 9) (v := .ref (ma 8)) (C := RX9) (T := TX9) (N := 22) hx hb hts hinX9 hown hK hP 0 rfl rfl 16 (by decide) (hts (.fieldLink RX9 31 "SilentRentModel" "who" "[I") (List.mem_of_getElem? (i := 3) rfl)) (fun _ h9 => h9) rfl dX9_book_35 ?_
        refine lv_aload_n hx hb dX9_book_38 rfl (lv_at hl 0 rfl) ?_
        refine va_get (D := D) (ci := 9) (v := .int (zI ((ln : Nat) : Int))) (C := RX9) (T := TX9) (N := 22) hx hb hts hinX9 hown hK hP 0 rfl rfl 15 (by decide) (hts (.fieldLink RX9 109 "SilentRentModel" "lines" "I") (List.mem_of_getElem? (i := 2) rfl)) (fun _ h9 => h9) rfl dX9_book_39 ?_
        refine lv_iload_n hx hb dX9_book_42 rfl (lv_at hl 1 rfl) ?_
        refine z_iast hx hb hK hP hD hS 8 0 (f := (fun j => ((wh j : Nat) : Int))) rfl rfl (x := ((t.toNat : Nat) : Int)) ln rfl (by omega) (by decide) dX9_book_43 (fun H locs hP hD hS => ?_)
        rw [zA_upN] at hP hD
        have hP : va_P D vwCl [((ma 0), .inr (9, [.ref (ma 1), .int (zI ((xl : Nat) : Int)), .int (zI ((at0 : Nat) : Int)), .int (zI ((bg : Nat) : Int)), .int (zI tk0), .int (zI td), .ref (ma 2), .ref (ma 3), .ref (ma 4), .ref (ma 5), .int (zI ((ud : Nat) : Int)), .ref (ma 6), .int (zI be), .int (zI bp), .ref (ma 7), .int (zI ((ln : Nat) : Int)), .ref (ma 8), .ref (ma 9), .int (zI wa), .ref (ma 10), .long (zL tr), .ref (ma 11)])), ((ma 1), .inl (cy 0, 200, .inl (zA xt))), ((ma 2), .inl (cy 0, 44, .inl (zA rd))), ((ma 3), .inl (cy 0, 44, .inl (zA hs))), ((ma 4), .inl (cy 0, 25, .inl (zA (enc day hm tk py db)))), ((ma 5), .inl (cy 0, 250, .inl (zA un))), ((ma 6), .inl (cy 0, 6, .inl (zA rs))), ((ma 7), .inl (cy 0, 64, .inl (zA gp))), ((ma 8), .inl (cy 0, 6, .inl (zA (fun j => (((va_up wh ln t.toNat) j : Nat) : Int))))), ((ma 9), .inl (cy 0, 6, .inl (zA lk))), ((ma 10), .inl (cy 0, 6, .inl (zA (fun j => ((so j : Nat) : Int))))), ((ma 11), .inl (cy 0, 554, .inl (zA kp)))] H := hP
        have hD : va_D A0 [((ma 0), .inr (9, [.ref (ma 1), .int (zI ((xl : Nat) : Int)), .int (zI ((at0 : Nat) : Int)), .int (zI ((bg : Nat) : Int)), .int (zI tk0), .int (zI td), .ref (ma 2), .ref (ma 3), .ref (ma 4), .ref (ma 5), .int (zI ((ud : Nat) : Int)), .ref (ma 6), .int (zI be), .int (zI bp), .ref (ma 7), .int (zI ((ln : Nat) : Int)), .ref (ma 8), .ref (ma 9), .int (zI wa), .ref (ma 10), .long (zL tr), .ref (ma 11)])), ((ma 1), .inl (cy 0, 200, .inl (zA xt))), ((ma 2), .inl (cy 0, 44, .inl (zA rd))), ((ma 3), .inl (cy 0, 44, .inl (zA hs))), ((ma 4), .inl (cy 0, 25, .inl (zA (enc day hm tk py db)))), ((ma 5), .inl (cy 0, 250, .inl (zA un))), ((ma 6), .inl (cy 0, 6, .inl (zA rs))), ((ma 7), .inl (cy 0, 64, .inl (zA gp))), ((ma 8), .inl (cy 0, 6, .inl (zA (fun j => (((va_up wh ln t.toNat) j : Nat) : Int))))), ((ma 9), .inl (cy 0, 6, .inl (zA lk))), ((ma 10), .inl (cy 0, 6, .inl (zA (fun j => ((so j : Nat) : Int))))), ((ma 11), .inl (cy 0, 554, .inl (zA kp)))] := hD
        refine lv_aload_n hx hb dX9_book_44 rfl (lv_at hl 0 rfl) ?_
        refine va_get (D := D) (ci := 9) (v := .ref (ma 9)) (C := RX9) (T := TX9) (N := 22) hx hb hts hinX9 hown hK hP 0 rfl rfl 17 (by decide) (hts (.fieldLink RX9 34 "SilentRentModel" "lacked" "[I") (List.mem_of_getElem? (i := 4) rfl)) (fun _ h9 => h9) rfl dX9_book_45 ?_
        refine lv_aload_n hx hb dX9_book_48 rfl (lv_at hl 0 rfl) ?_
        refine va_get (D := D) (ci := 9) (v := .int (zI ((ln : Nat) : Int))) (C := RX9) (T := TX9) (N := 22) hx hb hts hinX9 hown hK hP 0 rfl rfl 15 (by decide) (hts (.fieldLink RX9 109 "SilentRentModel" "lines" "I") (List.mem_of_getElem? (i := 2) rfl)) (fun _ h9 => h9) rfl dX9_book_49 ?_
        refine lv_iload_n hx hb dX9_book_52 rfl (lv_at hl 2 rfl) ?_
        refine z_iast hx hb hK hP hD hS 9 0 (f := lk) rfl rfl (x := lack) ln rfl (by omega) (by decide) dX9_book_53 (fun H locs hP hD hS => ?_)
        have hP : va_P D vwCl [((ma 0), .inr (9, [.ref (ma 1), .int (zI ((xl : Nat) : Int)), .int (zI ((at0 : Nat) : Int)), .int (zI ((bg : Nat) : Int)), .int (zI tk0), .int (zI td), .ref (ma 2), .ref (ma 3), .ref (ma 4), .ref (ma 5), .int (zI ((ud : Nat) : Int)), .ref (ma 6), .int (zI be), .int (zI bp), .ref (ma 7), .int (zI ((ln : Nat) : Int)), .ref (ma 8), .ref (ma 9), .int (zI wa), .ref (ma 10), .long (zL tr), .ref (ma 11)])), ((ma 1), .inl (cy 0, 200, .inl (zA xt))), ((ma 2), .inl (cy 0, 44, .inl (zA rd))), ((ma 3), .inl (cy 0, 44, .inl (zA hs))), ((ma 4), .inl (cy 0, 25, .inl (zA (enc day hm tk py db)))), ((ma 5), .inl (cy 0, 250, .inl (zA un))), ((ma 6), .inl (cy 0, 6, .inl (zA rs))), ((ma 7), .inl (cy 0, 64, .inl (zA gp))), ((ma 8), .inl (cy 0, 6, .inl (zA (fun j => (((va_up wh ln t.toNat) j : Nat) : Int))))), ((ma 9), .inl (cy 0, 6, .inl (zA (va_up lk ln lack)))), ((ma 10), .inl (cy 0, 6, .inl (zA (fun j => ((so j : Nat) : Int))))), ((ma 11), .inl (cy 0, 554, .inl (zA kp)))] H := hP
        have hD : va_D A0 [((ma 0), .inr (9, [.ref (ma 1), .int (zI ((xl : Nat) : Int)), .int (zI ((at0 : Nat) : Int)), .int (zI ((bg : Nat) : Int)), .int (zI tk0), .int (zI td), .ref (ma 2), .ref (ma 3), .ref (ma 4), .ref (ma 5), .int (zI ((ud : Nat) : Int)), .ref (ma 6), .int (zI be), .int (zI bp), .ref (ma 7), .int (zI ((ln : Nat) : Int)), .ref (ma 8), .ref (ma 9), .int (zI wa), .ref (ma 10), .long (zL tr), .ref (ma 11)])), ((ma 1), .inl (cy 0, 200, .inl (zA xt))), ((ma 2), .inl (cy 0, 44, .inl (zA rd))), ((ma 3), .inl (cy 0, 44, .inl (zA hs))), ((ma 4), .inl (cy 0, 25, .inl (zA (enc day hm tk py db)))), ((ma 5), .inl (cy 0, 250, .inl (zA un))), ((ma 6), .inl (cy 0, 6, .inl (zA rs))), ((ma 7), .inl (cy 0, 64, .inl (zA gp))), ((ma 8), .inl (cy 0, 6, .inl (zA (fun j => (((va_up wh ln t.toNat) j : Nat) : Int))))), ((ma 9), .inl (cy 0, 6, .inl (zA (va_up lk ln lack)))), ((ma 10), .inl (cy 0, 6, .inl (zA (fun j => ((so j : Nat) : Int))))), ((ma 11), .inl (cy 0, 554, .inl (zA kp)))] := hD
        refine lv_aload_n hx hb dX9_book_54 rfl (lv_at hl 0 rfl) ?_
        refine lv_dup hx hb dX9_book_55 rfl ?_
        refine va_get (D := D) (ci := 9) (v := .int (zI ((ln : Nat) : Int))) (C := RX9) (T := TX9) (N := 22) hx hb hts hinX9 hown hK hP 0 rfl rfl 15 (by decide) (hts (.fieldLink RX9 109 "SilentRentModel" "lines" "I") (List.mem_of_getElem? (i := 2) rfl)) (fun _ h9 => h9) rfl dX9_book_56 ?_
        refine lv_iconst (v := zI 1) hx hb dX9_book_59 rfl ?_
        refine z_iadd (r := ((ln + 1 : Nat) : Int)) hx hb (by omega) dX9_book_60 ?_
        refine va_put (D := D) (ci := 9) (v := .int (zI ((ln + 1 : Nat) : Int))) (ty := .int) (C := RX9) (T := TX9) (N := 22) hx hb hts hinX9 tyX9 tyX9_ok nmX9 hown hK hP hD hS 0 rfl rfl 15 (by decide) (hts (.fieldLink RX9 109 "SilentRentModel" "lines" "I") (List.mem_of_getElem? (i := 2) rfl)) (fun _ h9 => h9) rfl (by decide +kernel) rfl rfl (Nat.le_of_ble_eq_true rfl) dX9_book_61 (fun H locs hP hD hS => ?_)
        have hP : va_P D vwCl [((ma 0), .inr (9, [.ref (ma 1), .int (zI ((xl : Nat) : Int)), .int (zI ((at0 : Nat) : Int)), .int (zI ((bg : Nat) : Int)), .int (zI tk0), .int (zI td), .ref (ma 2), .ref (ma 3), .ref (ma 4), .ref (ma 5), .int (zI ((ud : Nat) : Int)), .ref (ma 6), .int (zI be), .int (zI bp), .ref (ma 7), .int (zI ((ln + 1 : Nat) : Int)), .ref (ma 8), .ref (ma 9), .int (zI wa), .ref (ma 10), .long (zL tr), .ref (ma 11)])), ((ma 1), .inl (cy 0, 200, .inl (zA xt))), ((ma 2), .inl (cy 0, 44, .inl (zA rd))), ((ma 3), .inl (cy 0, 44, .inl (zA hs))), ((ma 4), .inl (cy 0, 25, .inl (zA (enc day hm tk py db)))), ((ma 5), .inl (cy 0, 250, .inl (zA un))), ((ma 6), .inl (cy 0, 6, .inl (zA rs))), ((ma 7), .inl (cy 0, 64, .inl (zA gp))), ((ma 8), .inl (cy 0, 6, .inl (zA (fun j => (((va_up wh ln t.toNat) j : Nat) : Int))))), ((ma 9), .inl (cy 0, 6, .inl (zA (va_up lk ln lack)))), ((ma 10), .inl (cy 0, 6, .inl (zA (fun j => ((so j : Nat) : Int))))), ((ma 11), .inl (cy 0, 554, .inl (zA kp)))] H := hP
        have hD : va_D A0 [((ma 0), .inr (9, [.ref (ma 1), .int (zI ((xl : Nat) : Int)), .int (zI ((at0 : Nat) : Int)), .int (zI ((bg : Nat) : Int)), .int (zI tk0), .int (zI td), .ref (ma 2), .ref (ma 3), .ref (ma 4), .ref (ma 5), .int (zI ((ud : Nat) : Int)), .ref (ma 6), .int (zI be), .int (zI bp), .ref (ma 7), .int (zI ((ln + 1 : Nat) : Int)), .ref (ma 8), .ref (ma 9), .int (zI wa), .ref (ma 10), .long (zL tr), .ref (ma 11)])), ((ma 1), .inl (cy 0, 200, .inl (zA xt))), ((ma 2), .inl (cy 0, 44, .inl (zA rd))), ((ma 3), .inl (cy 0, 44, .inl (zA hs))), ((ma 4), .inl (cy 0, 25, .inl (zA (enc day hm tk py db)))), ((ma 5), .inl (cy 0, 250, .inl (zA un))), ((ma 6), .inl (cy 0, 6, .inl (zA rs))), ((ma 7), .inl (cy 0, 64, .inl (zA gp))), ((ma 8), .inl (cy 0, 6, .inl (zA (fun j => (((va_up wh ln t.toNat) j : Nat) : Int))))), ((ma 9), .inl (cy 0, 6, .inl (zA (va_up lk ln lack)))), ((ma 10), .inl (cy 0, 6, .inl (zA (fun j => ((so j : Nat) : Int))))), ((ma 11), .inl (cy 0, 554, .inl (zA kp)))] := hD
        refine lv_aload_n hx hb dX9_book_64 rfl (lv_at hl 0 rfl) ?_
        refine va_get (D := D) (ci := 9) (v := .int (zI ((ln + 1 : Nat) : Int))) (C := RX9) (T := TX9) (N := 22) hx hb hts hinX9 hown hK hP 0 rfl rfl 15 (by decide) (hts (.fieldLink RX9 109 "SilentRentModel" "lines" "I") (List.mem_of_getElem? (i := 2) rfl)) (fun _ h9 => h9) rfl dX9_book_65 ?_
        have hw9 : (((ln + 1 : Nat) : Int) : Int) = ((if ((0 ≤ t ∧ t < (te : Int)) ∧ 0 ≤ lack ∧ lack ≤ 24) ∧ ln < 6 then ln + 1 else ln : Nat) : Int) := by first | exact (if_pos (by omega)).symm | exact (if_neg (by omega)).symm | ((repeat' split) <;> first | rfl | omega)
        have hw10 : ((va_up wh ln t.toNat) : Nat → Nat) = (if ((0 ≤ t ∧ t < (te : Int)) ∧ 0 ≤ lack ∧ lack ≤ 24) ∧ ln < 6 then va_up wh ln t.toNat else wh) := by first | exact (if_pos (by omega)).symm | exact (if_neg (by omega)).symm | ((repeat' split) <;> first | rfl | omega)
        have hw11 : ((va_up lk ln lack) : Nat → Int) = (if ((0 ≤ t ∧ t < (te : Int)) ∧ 0 ≤ lack ∧ lack ≤ 24) ∧ ln < 6 then va_up lk ln lack else lk) := by first | exact (if_pos (by omega)).symm | exact (if_neg (by omega)).symm | ((repeat' split) <;> first | rfl | omega)
        have hP : va_P D vwCl [((ma 0), .inr (9, [.ref (ma 1), .int (zI ((xl : Nat) : Int)), .int (zI ((at0 : Nat) : Int)), .int (zI ((bg : Nat) : Int)), .int (zI tk0), .int (zI td), .ref (ma 2), .ref (ma 3), .ref (ma 4), .ref (ma 5), .int (zI ((ud : Nat) : Int)), .ref (ma 6), .int (zI be), .int (zI bp), .ref (ma 7), .int (zI ((if ((0 ≤ t ∧ t < (te : Int)) ∧ 0 ≤ lack ∧ lack ≤ 24) ∧ ln < 6 then ln + 1 else ln : Nat) : Int)), .ref (ma 8), .ref (ma 9), .int (zI wa), .ref (ma 10), .long (zL tr), .ref (ma 11)])), ((ma 1), .inl (cy 0, 200, .inl (zA xt))), ((ma 2), .inl (cy 0, 44, .inl (zA rd))), ((ma 3), .inl (cy 0, 44, .inl (zA hs))), ((ma 4), .inl (cy 0, 25, .inl (zA (enc day hm tk py db)))), ((ma 5), .inl (cy 0, 250, .inl (zA un))), ((ma 6), .inl (cy 0, 6, .inl (zA rs))), ((ma 7), .inl (cy 0, 64, .inl (zA gp))), ((ma 8), .inl (cy 0, 6, .inl (zA (fun j => (((if ((0 ≤ t ∧ t < (te : Int)) ∧ 0 ≤ lack ∧ lack ≤ 24) ∧ ln < 6 then va_up wh ln t.toNat else wh) j : Nat) : Int))))), ((ma 9), .inl (cy 0, 6, .inl (zA (if ((0 ≤ t ∧ t < (te : Int)) ∧ 0 ≤ lack ∧ lack ≤ 24) ∧ ln < 6 then va_up lk ln lack else lk)))), ((ma 10), .inl (cy 0, 6, .inl (zA (fun j => ((so j : Nat) : Int))))), ((ma 11), .inl (cy 0, 554, .inl (zA kp)))] H := by rw [← hw9, ← hw10, ← hw11]; exact hP
        exact zm_iret hx hb hr hlocks hQ hA0 hP hS (by (repeat' split) <;> first | rfl | omega) dX9_book_68
      · have c7 : (ln : Nat) = (6 : Nat) := by omega
        refine lv_bipush (v := zI (-3)) hx hb dX9_book_31 (by decide) ?_
        have hw12 : (((ln : Nat) : Int) : Int) = ((if ((0 ≤ t ∧ t < (te : Int)) ∧ 0 ≤ lack ∧ lack ≤ 24) ∧ ln < 6 then ln + 1 else ln : Nat) : Int) := by first | exact (if_pos (by omega)).symm | exact (if_neg (by omega)).symm | ((repeat' split) <;> first | rfl | omega)
        have hw13 : (wh : Nat → Nat) = (if ((0 ≤ t ∧ t < (te : Int)) ∧ 0 ≤ lack ∧ lack ≤ 24) ∧ ln < 6 then va_up wh ln t.toNat else wh) := by first | exact (if_pos (by omega)).symm | exact (if_neg (by omega)).symm | ((repeat' split) <;> first | rfl | omega)
        have hw14 : (lk : Nat → Int) = (if ((0 ≤ t ∧ t < (te : Int)) ∧ 0 ≤ lack ∧ lack ≤ 24) ∧ ln < 6 then va_up lk ln lack else lk) := by first | exact (if_pos (by omega)).symm | exact (if_neg (by omega)).symm | ((repeat' split) <;> first | rfl | omega)
        have hP : va_P D vwCl [((ma 0), .inr (9, [.ref (ma 1), .int (zI ((xl : Nat) : Int)), .int (zI ((at0 : Nat) : Int)), .int (zI ((bg : Nat) : Int)), .int (zI tk0), .int (zI td), .ref (ma 2), .ref (ma 3), .ref (ma 4), .ref (ma 5), .int (zI ((ud : Nat) : Int)), .ref (ma 6), .int (zI be), .int (zI bp), .ref (ma 7), .int (zI ((if ((0 ≤ t ∧ t < (te : Int)) ∧ 0 ≤ lack ∧ lack ≤ 24) ∧ ln < 6 then ln + 1 else ln : Nat) : Int)), .ref (ma 8), .ref (ma 9), .int (zI wa), .ref (ma 10), .long (zL tr), .ref (ma 11)])), ((ma 1), .inl (cy 0, 200, .inl (zA xt))), ((ma 2), .inl (cy 0, 44, .inl (zA rd))), ((ma 3), .inl (cy 0, 44, .inl (zA hs))), ((ma 4), .inl (cy 0, 25, .inl (zA (enc day hm tk py db)))), ((ma 5), .inl (cy 0, 250, .inl (zA un))), ((ma 6), .inl (cy 0, 6, .inl (zA rs))), ((ma 7), .inl (cy 0, 64, .inl (zA gp))), ((ma 8), .inl (cy 0, 6, .inl (zA (fun j => (((if ((0 ≤ t ∧ t < (te : Int)) ∧ 0 ≤ lack ∧ lack ≤ 24) ∧ ln < 6 then va_up wh ln t.toNat else wh) j : Nat) : Int))))), ((ma 9), .inl (cy 0, 6, .inl (zA (if ((0 ≤ t ∧ t < (te : Int)) ∧ 0 ≤ lack ∧ lack ≤ 24) ∧ ln < 6 then va_up lk ln lack else lk)))), ((ma 10), .inl (cy 0, 6, .inl (zA (fun j => ((so j : Nat) : Int))))), ((ma 11), .inl (cy 0, 554, .inl (zA kp)))] s.heap := by rw [← hw12, ← hw13, ← hw14]; exact hP
        exact zm_iret hx hb hr hlocks hQ hA0 hP hS (by (repeat' split) <;> first | rfl | omega) dX9_book_33
    · have c6 := bo_f c6
      refine lv_iconst (v := zI (-1)) hx hb dX9_book_20 rfl ?_
      have hw15 : (((ln : Nat) : Int) : Int) = ((if ((0 ≤ t ∧ t < (te : Int)) ∧ 0 ≤ lack ∧ lack ≤ 24) ∧ ln < 6 then ln + 1 else ln : Nat) : Int) := by first | exact (if_pos (by omega)).symm | exact (if_neg (by omega)).symm | ((repeat' split) <;> first | rfl | omega)
      have hw16 : (wh : Nat → Nat) = (if ((0 ≤ t ∧ t < (te : Int)) ∧ 0 ≤ lack ∧ lack ≤ 24) ∧ ln < 6 then va_up wh ln t.toNat else wh) := by first | exact (if_pos (by omega)).symm | exact (if_neg (by omega)).symm | ((repeat' split) <;> first | rfl | omega)
      have hw17 : (lk : Nat → Int) = (if ((0 ≤ t ∧ t < (te : Int)) ∧ 0 ≤ lack ∧ lack ≤ 24) ∧ ln < 6 then va_up lk ln lack else lk) := by first | exact (if_pos (by omega)).symm | exact (if_neg (by omega)).symm | ((repeat' split) <;> first | rfl | omega)
      have hP : va_P D vwCl [((ma 0), .inr (9, [.ref (ma 1), .int (zI ((xl : Nat) : Int)), .int (zI ((at0 : Nat) : Int)), .int (zI ((bg : Nat) : Int)), .int (zI tk0), .int (zI td), .ref (ma 2), .ref (ma 3), .ref (ma 4), .ref (ma 5), .int (zI ((ud : Nat) : Int)), .ref (ma 6), .int (zI be), .int (zI bp), .ref (ma 7), .int (zI ((if ((0 ≤ t ∧ t < (te : Int)) ∧ 0 ≤ lack ∧ lack ≤ 24) ∧ ln < 6 then ln + 1 else ln : Nat) : Int)), .ref (ma 8), .ref (ma 9), .int (zI wa), .ref (ma 10), .long (zL tr), .ref (ma 11)])), ((ma 1), .inl (cy 0, 200, .inl (zA xt))), ((ma 2), .inl (cy 0, 44, .inl (zA rd))), ((ma 3), .inl (cy 0, 44, .inl (zA hs))), ((ma 4), .inl (cy 0, 25, .inl (zA (enc day hm tk py db)))), ((ma 5), .inl (cy 0, 250, .inl (zA un))), ((ma 6), .inl (cy 0, 6, .inl (zA rs))), ((ma 7), .inl (cy 0, 64, .inl (zA gp))), ((ma 8), .inl (cy 0, 6, .inl (zA (fun j => (((if ((0 ≤ t ∧ t < (te : Int)) ∧ 0 ≤ lack ∧ lack ≤ 24) ∧ ln < 6 then va_up wh ln t.toNat else wh) j : Nat) : Int))))), ((ma 9), .inl (cy 0, 6, .inl (zA (if ((0 ≤ t ∧ t < (te : Int)) ∧ 0 ≤ lack ∧ lack ≤ 24) ∧ ln < 6 then va_up lk ln lack else lk)))), ((ma 10), .inl (cy 0, 6, .inl (zA (fun j => ((so j : Nat) : Int))))), ((ma 11), .inl (cy 0, 554, .inl (zA kp)))] s.heap := by rw [← hw15, ← hw16, ← hw17]; exact hP
      exact zm_iret hx hb hr hlocks hQ hA0 hP hS (by (repeat' split) <;> first | rfl | omega) dX9_book_21
abbrev rm_X9_burn : Room := { frames := 0, cells := 0, slots := 0, locals := 0 }
set_option maxHeartbeats 4000000 in
set_option maxRecDepth 100000 in
theorem c_X9_burn (l : Launch) (D : va_G) (cy : Nat → ClassId) (ma : Nat → Nat) (xt : Nat → Int) (xl : Nat) (at0 : Nat) (bg : Nat) (tk0 : Int) (td : Int) (rd : Nat → Int) (hs : Nat → Int) (day : Int) (hm : Nat → Int) (tk : Nat → Int) (py : Nat → Int) (db : Nat → Int) (un : Nat → Int) (ud : Nat) (rs : Nat → Int) (be : Int) (bp : Int) (gp : Nat → Int) (ln : Nat) (wh : Nat → Nat) (lk : Nat → Int) (wa : Int) (so : Nat → Nat) (tr : Int) (kp : Nat → Int)  : Met l yX9_burn wsX9_burn rm_X9_burn (pM D cy [((ma 0), .inr (9, [.ref (ma 1), .int (zI ((xl : Nat) : Int)), .int (zI ((at0 : Nat) : Int)), .int (zI ((bg : Nat) : Int)), .int (zI tk0), .int (zI td), .ref (ma 2), .ref (ma 3), .ref (ma 4), .ref (ma 5), .int (zI ((ud : Nat) : Int)), .ref (ma 6), .int (zI be), .int (zI bp), .ref (ma 7), .int (zI ((ln : Nat) : Int)), .ref (ma 8), .ref (ma 9), .int (zI wa), .ref (ma 10), .long (zL tr), .ref (ma 11)])), ((ma 1), .inl (cy 0, 200, .inl (zA xt))), ((ma 2), .inl (cy 0, 44, .inl (zA rd))), ((ma 3), .inl (cy 0, 44, .inl (zA hs))), ((ma 4), .inl (cy 0, 25, .inl (zA (enc day hm tk py db)))), ((ma 5), .inl (cy 0, 250, .inl (zA un))), ((ma 6), .inl (cy 0, 6, .inl (zA rs))), ((ma 7), .inl (cy 0, 64, .inl (zA gp))), ((ma 8), .inl (cy 0, 6, .inl (zA (fun j => ((wh j : Nat) : Int))))), ((ma 9), .inl (cy 0, 6, .inl (zA lk))), ((ma 10), .inl (cy 0, 6, .inl (zA (fun j => ((so j : Nat) : Int))))), ((ma 11), .inl (cy 0, 554, .inl (zA kp)))] [.ref (ma 0)]) (qM D (some (.int (zI ((ln : Nat) : Int)))) [((ma 0), .inr (9, [.ref (ma 1), .int (zI ((xl : Nat) : Int)), .int (zI ((at0 : Nat) : Int)), .int (zI ((bg : Nat) : Int)), .int (zI tk0), .int (zI td), .ref (ma 2), .ref (ma 3), .ref (ma 4), .ref (ma 5), .int (zI ((ud : Nat) : Int)), .ref (ma 6), .int (zI be), .int (zI bp), .ref (ma 7), .int (zI ((ln : Nat) : Int)), .ref (ma 8), .ref (ma 9), .int (zI wa), .ref (ma 10), .long (zL tr), .ref (ma 11)])), ((ma 1), .inl (cy 0, 200, .inl (zA xt))), ((ma 2), .inl (cy 0, 44, .inl (zA rd))), ((ma 3), .inl (cy 0, 44, .inl (zA hs))), ((ma 4), .inl (cy 0, 25, .inl (zA (enc day hm tk py db)))), ((ma 5), .inl (cy 0, 250, .inl (zA un))), ((ma 6), .inl (cy 0, 6, .inl (zA rs))), ((ma 7), .inl (cy 0, 64, .inl (zA gp))), ((ma 8), .inl (cy 0, 6, .inl (zA (fun j => ((wh j : Nat) : Int))))), ((ma 9), .inl (cy 0, 6, .inl (zA lk))), ((ma 10), .inl (cy 0, 6, .inl (zA (fun j => ((so j : Nat) : Int))))), ((ma 11), .inl (cy 0, 554, .inl (zA kp)))] [((ma 0), .inr (9, [.ref (ma 1), .int (zI ((xl : Nat) : Int)), .int (zI ((at0 : Nat) : Int)), .int (zI ((bg : Nat) : Int)), .int (zI tk0), .int (zI td), .ref (ma 2), .ref (ma 3), .ref (ma 4), .ref (ma 5), .int (zI ((ud : Nat) : Int)), .ref (ma 6), .int (zI be), .int (zI bp), .ref (ma 7), .int (zI ((0 : Nat) : Int)), .ref (ma 8), .ref (ma 9), .int (zI wa), .ref (ma 10), .long (zL tr), .ref (ma 11)])), ((ma 1), .inl (cy 0, 200, .inl (zA xt))), ((ma 2), .inl (cy 0, 44, .inl (zA rd))), ((ma 3), .inl (cy 0, 44, .inl (zA hs))), ((ma 4), .inl (cy 0, 25, .inl (zA (enc day hm tk py db)))), ((ma 5), .inl (cy 0, 250, .inl (zA un))), ((ma 6), .inl (cy 0, 6, .inl (zA rs))), ((ma 7), .inl (cy 0, 64, .inl (zA gp))), ((ma 8), .inl (cy 0, 6, .inl (zA (fun j => ((wh j : Nat) : Int))))), ((ma 9), .inl (cy 0, 6, .inl (zA lk))), ((ma 10), .inl (cy 0, 6, .inl (zA (fun j => ((so j : Nat) : Int))))), ((ma 11), .inl (cy 0, 554, .inl (zA kp)))]) 0 0 (inW [((ma 0), .inr (9, [.ref (ma 1), .int (zI ((xl : Nat) : Int)), .int (zI ((at0 : Nat) : Int)), .int (zI ((bg : Nat) : Int)), .int (zI tk0), .int (zI td), .ref (ma 2), .ref (ma 3), .ref (ma 4), .ref (ma 5), .int (zI ((ud : Nat) : Int)), .ref (ma 6), .int (zI be), .int (zI bp), .ref (ma 7), .int (zI ((ln : Nat) : Int)), .ref (ma 8), .ref (ma 9), .int (zI wa), .ref (ma 10), .long (zL tr), .ref (ma 11)])), ((ma 1), .inl (cy 0, 200, .inl (zA xt))), ((ma 2), .inl (cy 0, 44, .inl (zA rd))), ((ma 3), .inl (cy 0, 44, .inl (zA hs))), ((ma 4), .inl (cy 0, 25, .inl (zA (enc day hm tk py db)))), ((ma 5), .inl (cy 0, 250, .inl (zA un))), ((ma 6), .inl (cy 0, 6, .inl (zA rs))), ((ma 7), .inl (cy 0, 64, .inl (zA gp))), ((ma 8), .inl (cy 0, 6, .inl (zA (fun j => ((wh j : Nat) : Int))))), ((ma 9), .inl (cy 0, 6, .inl (zA lk))), ((ma 10), .inl (cy 0, 6, .inl (zA (fun j => ((so j : Nat) : Int))))), ((ma 11), .inl (cy 0, 554, .inl (zA kp)))]) := by
  refine met_M (cc := cX9_burn) (maxL := 2) (ret := (some .int)) RX9 (by decide) rfl rfl (Nat.le_of_ble_eq_true rfl) ?_
  intro p e s m args below meth c ls Q A0 hx hb hr hml hts hown hlocks hQ hA0 hP hK hD hS hl
  have hl : lv_has ls 2 [(0, .ref (ma 0))] := hl
  have hP : va_P D vwCl [((ma 0), .inr (9, [.ref (ma 1), .int (zI ((xl : Nat) : Int)), .int (zI ((at0 : Nat) : Int)), .int (zI ((bg : Nat) : Int)), .int (zI tk0), .int (zI td), .ref (ma 2), .ref (ma 3), .ref (ma 4), .ref (ma 5), .int (zI ((ud : Nat) : Int)), .ref (ma 6), .int (zI be), .int (zI bp), .ref (ma 7), .int (zI ((ln : Nat) : Int)), .ref (ma 8), .ref (ma 9), .int (zI wa), .ref (ma 10), .long (zL tr), .ref (ma 11)])), ((ma 1), .inl (cy 0, 200, .inl (zA xt))), ((ma 2), .inl (cy 0, 44, .inl (zA rd))), ((ma 3), .inl (cy 0, 44, .inl (zA hs))), ((ma 4), .inl (cy 0, 25, .inl (zA (enc day hm tk py db)))), ((ma 5), .inl (cy 0, 250, .inl (zA un))), ((ma 6), .inl (cy 0, 6, .inl (zA rs))), ((ma 7), .inl (cy 0, 64, .inl (zA gp))), ((ma 8), .inl (cy 0, 6, .inl (zA (fun j => ((wh j : Nat) : Int))))), ((ma 9), .inl (cy 0, 6, .inl (zA lk))), ((ma 10), .inl (cy 0, 6, .inl (zA (fun j => ((so j : Nat) : Int))))), ((ma 11), .inl (cy 0, 554, .inl (zA kp)))] s.heap := hP
  have hinX9 : ∀ w ∈ wsX90, w ∈ wsX9_burn := (fun w h => List.mem_cons_of_mem _ (List.mem_append_right _ h))
  refine lv_aload_n hx hb dX9_burn_0 rfl (lv_at hl 0 rfl) ?_
  refine va_get (D := D) (ci := 9) (v := .int (zI ((ln : Nat) : Int))) (C := RX9) (T := TX9) (N := 22) hx hb hts hinX9 hown hK hP 0 rfl rfl 15 (by decide) (hts (.fieldLink RX9 109 "SilentRentModel" "lines" "I") (List.mem_of_getElem? (i := 1) rfl)) (fun _ h9 => h9) rfl dX9_burn_1 ?_
  refine lv_istore_n (lv' := [(1, .int (zI ((ln : Nat) : Int))), (0, .ref (ma 0))]) hx hb dX9_burn_4 rfl hl (by decide) rfl (fun ls hl => ?_)
  refine lv_aload_n hx hb dX9_burn_5 rfl (lv_at hl 1 rfl) ?_
  refine lv_iconst (v := zI 0) hx hb dX9_burn_6 rfl ?_
  refine va_put (D := D) (ci := 9) (v := .int (zI 0)) (ty := .int) (C := RX9) (T := TX9) (N := 22) hx hb hts hinX9 tyX9 tyX9_ok nmX9 hown hK hP hD hS 0 rfl rfl 15 (by decide) (hts (.fieldLink RX9 109 "SilentRentModel" "lines" "I") (List.mem_of_getElem? (i := 1) rfl)) (fun _ h9 => h9) rfl (by decide +kernel) rfl rfl (Nat.le_of_ble_eq_true rfl) dX9_burn_7 (fun H locs hP hD hS => ?_)
  have hP : va_P D vwCl [((ma 0), .inr (9, [.ref (ma 1), .int (zI ((xl : Nat) : Int)), .int (zI ((at0 : Nat) : Int)), .int (zI ((bg : Nat) : Int)), .int (zI tk0), .int (zI td), .ref (ma 2), .ref (ma 3), .ref (ma 4), .ref (ma 5), .int (zI ((ud : Nat) : Int)), .ref (ma 6), .int (zI be), .int (zI bp), .ref (ma 7), .int (zI 0), .ref (ma 8), .ref (ma 9), .int (zI wa), .ref (ma 10), .long (zL tr), .ref (ma 11)])), ((ma 1), .inl (cy 0, 200, .inl (zA xt))), ((ma 2), .inl (cy 0, 44, .inl (zA rd))), ((ma 3), .inl (cy 0, 44, .inl (zA hs))), ((ma 4), .inl (cy 0, 25, .inl (zA (enc day hm tk py db)))), ((ma 5), .inl (cy 0, 250, .inl (zA un))), ((ma 6), .inl (cy 0, 6, .inl (zA rs))), ((ma 7), .inl (cy 0, 64, .inl (zA gp))), ((ma 8), .inl (cy 0, 6, .inl (zA (fun j => ((wh j : Nat) : Int))))), ((ma 9), .inl (cy 0, 6, .inl (zA lk))), ((ma 10), .inl (cy 0, 6, .inl (zA (fun j => ((so j : Nat) : Int))))), ((ma 11), .inl (cy 0, 554, .inl (zA kp)))] H := hP
  have hD : va_D A0 [((ma 0), .inr (9, [.ref (ma 1), .int (zI ((xl : Nat) : Int)), .int (zI ((at0 : Nat) : Int)), .int (zI ((bg : Nat) : Int)), .int (zI tk0), .int (zI td), .ref (ma 2), .ref (ma 3), .ref (ma 4), .ref (ma 5), .int (zI ((ud : Nat) : Int)), .ref (ma 6), .int (zI be), .int (zI bp), .ref (ma 7), .int (zI 0), .ref (ma 8), .ref (ma 9), .int (zI wa), .ref (ma 10), .long (zL tr), .ref (ma 11)])), ((ma 1), .inl (cy 0, 200, .inl (zA xt))), ((ma 2), .inl (cy 0, 44, .inl (zA rd))), ((ma 3), .inl (cy 0, 44, .inl (zA hs))), ((ma 4), .inl (cy 0, 25, .inl (zA (enc day hm tk py db)))), ((ma 5), .inl (cy 0, 250, .inl (zA un))), ((ma 6), .inl (cy 0, 6, .inl (zA rs))), ((ma 7), .inl (cy 0, 64, .inl (zA gp))), ((ma 8), .inl (cy 0, 6, .inl (zA (fun j => ((wh j : Nat) : Int))))), ((ma 9), .inl (cy 0, 6, .inl (zA lk))), ((ma 10), .inl (cy 0, 6, .inl (zA (fun j => ((so j : Nat) : Int))))), ((ma 11), .inl (cy 0, 554, .inl (zA kp)))] := hD
  refine lv_iload_n hx hb dX9_burn_10 rfl (lv_at hl 0 rfl) ?_
  have hP : va_P D vwCl [((ma 0), .inr (9, [.ref (ma 1), .int (zI ((xl : Nat) : Int)), .int (zI ((at0 : Nat) : Int)), .int (zI ((bg : Nat) : Int)), .int (zI tk0), .int (zI td), .ref (ma 2), .ref (ma 3), .ref (ma 4), .ref (ma 5), .int (zI ((ud : Nat) : Int)), .ref (ma 6), .int (zI be), .int (zI bp), .ref (ma 7), .int (zI ((0 : Nat) : Int)), .ref (ma 8), .ref (ma 9), .int (zI wa), .ref (ma 10), .long (zL tr), .ref (ma 11)])), ((ma 1), .inl (cy 0, 200, .inl (zA xt))), ((ma 2), .inl (cy 0, 44, .inl (zA rd))), ((ma 3), .inl (cy 0, 44, .inl (zA hs))), ((ma 4), .inl (cy 0, 25, .inl (zA (enc day hm tk py db)))), ((ma 5), .inl (cy 0, 250, .inl (zA un))), ((ma 6), .inl (cy 0, 6, .inl (zA rs))), ((ma 7), .inl (cy 0, 64, .inl (zA gp))), ((ma 8), .inl (cy 0, 6, .inl (zA (fun j => ((wh j : Nat) : Int))))), ((ma 9), .inl (cy 0, 6, .inl (zA lk))), ((ma 10), .inl (cy 0, 6, .inl (zA (fun j => ((so j : Nat) : Int))))), ((ma 11), .inl (cy 0, 554, .inl (zA kp)))] H := hP
  exact zm_iret hx hb hr hlocks hQ hA0 hP hS (by rfl) dX9_burn_11
abbrev rm_X9_trace : Room := { frames := 0, cells := 0, slots := 0, locals := 0 }
set_option maxHeartbeats 4000000 in
set_option maxRecDepth 100000 in
theorem c_X9_trace (l : Launch) (D : va_G) (cy : Nat → ClassId) (ma : Nat → Nat) (xt : Nat → Int) (xl : Nat) (at0 : Nat) (bg : Nat) (tk0 : Int) (td : Int) (rd : Nat → Int) (hs : Nat → Int) (day : Int) (hm : Nat → Int) (tk : Nat → Int) (py : Nat → Int) (db : Nat → Int) (un : Nat → Int) (ud : Nat) (rs : Nat → Int) (be : Int) (bp : Int) (gp : Nat → Int) (ln : Nat) (wh : Nat → Nat) (lk : Nat → Int) (wa : Int) (so : Nat → Nat) (tr : Int) (kp : Nat → Int)  : Met l yX9_trace wsX9_trace rm_X9_trace (pR D cy [((ma 0), .inr (9, [.ref (ma 1), .int (zI ((xl : Nat) : Int)), .int (zI ((at0 : Nat) : Int)), .int (zI ((bg : Nat) : Int)), .int (zI tk0), .int (zI td), .ref (ma 2), .ref (ma 3), .ref (ma 4), .ref (ma 5), .int (zI ((ud : Nat) : Int)), .ref (ma 6), .int (zI be), .int (zI bp), .ref (ma 7), .int (zI ((ln : Nat) : Int)), .ref (ma 8), .ref (ma 9), .int (zI wa), .ref (ma 10), .long (zL tr), .ref (ma 11)])), ((ma 1), .inl (cy 0, 200, .inl (zA xt))), ((ma 2), .inl (cy 0, 44, .inl (zA rd))), ((ma 3), .inl (cy 0, 44, .inl (zA hs))), ((ma 4), .inl (cy 0, 25, .inl (zA (enc day hm tk py db)))), ((ma 5), .inl (cy 0, 250, .inl (zA un))), ((ma 6), .inl (cy 0, 6, .inl (zA rs))), ((ma 7), .inl (cy 0, 64, .inl (zA gp))), ((ma 8), .inl (cy 0, 6, .inl (zA (fun j => ((wh j : Nat) : Int))))), ((ma 9), .inl (cy 0, 6, .inl (zA lk))), ((ma 10), .inl (cy 0, 6, .inl (zA (fun j => ((so j : Nat) : Int))))), ((ma 11), .inl (cy 0, 554, .inl (zA kp)))] [.ref (ma 0)]) (qRl tr) 0 0 (fun _ => False) := by
  refine met_R (cc := cX9_trace) (maxL := 1) (ret := (some .long)) RX9 (by decide) rfl rfl (Nat.le_of_ble_eq_true rfl) ?_
  intro p e s m args below meth c ls Q hx hb hr hml hts hown hlocks hQ hP hK hl
  have hl : lv_has ls 1 [(0, .ref (ma 0))] := hl
  have hinX9 : ∀ w ∈ wsX90, w ∈ wsX9_trace := (fun w h => List.mem_cons_of_mem _ (List.mem_append_right _ h))
  refine lv_aload_n hx hb dX9_trace_0 rfl (lv_at hl 0 rfl) ?_
  refine va_get (D := D) (ci := 9) (v := .long (zL tr)) (C := RX9) (T := TX9) (N := 22) hx hb hts hinX9 hown hK hP 0 rfl rfl 20 (by decide) (hts (.fieldLink RX9 207 "SilentRentModel" "trace" "J") (List.mem_of_getElem? (i := 1) rfl)) (fun _ h9 => h9) rfl dX9_trace_1 ?_
  exact zr_lret hx hb hr hlocks hQ (by rfl) dX9_trace_4
abbrev rm_X9_hear : Room := { frames := 0, cells := 0, slots := 0, locals := 0 }
set_option maxHeartbeats 4000000 in
set_option maxRecDepth 100000 in
theorem c_X9_hear (l : Launch) (D : va_G) (cy : Nat → ClassId) (ma : Nat → Nat) (xt : Nat → Int) (xl : Nat) (at0 : Nat) (bg : Nat) (tk0 : Int) (td : Int) (rd : Nat → Int) (hs : Nat → Int) (day : Int) (hm : Nat → Int) (tk : Nat → Int) (py : Nat → Int) (db : Nat → Int) (un : Nat → Int) (ud : Nat) (rs : Nat → Int) (be : Int) (bp : Int) (gp : Nat → Int) (ln : Nat) (wh : Nat → Nat) (lk : Nat → Int) (wa : Int) (so : Nat → Nat) (tr : Int) (kp : Nat → Int) (st0 : Nat) (ro : Nat) (te : Nat) (ch : Nat) (pr : Nat → Int) (sl : Nat → Int) (mu : Nat → Int) (wi : Nat → Int) (ak : Nat → Int) (he : Nat → Nat) (li : Nat → Nat) (hst : st0 < 64) (hro : ro ≤ 6) (hte : te ≤ 6) (hch : ch ≤ 5) (hHB : HB pr sl mu wi ak he li) (hHS : HS hs ro te ch pr sl mu wi ak he li) : Met l yX9_hear wsX9_hear rm_X9_hear (pR D cy [((ma 0), .inr (9, [.ref (ma 1), .int (zI ((xl : Nat) : Int)), .int (zI ((at0 : Nat) : Int)), .int (zI ((bg : Nat) : Int)), .int (zI tk0), .int (zI td), .ref (ma 2), .ref (ma 3), .ref (ma 4), .ref (ma 5), .int (zI ((ud : Nat) : Int)), .ref (ma 6), .int (zI be), .int (zI bp), .ref (ma 7), .int (zI ((ln : Nat) : Int)), .ref (ma 8), .ref (ma 9), .int (zI wa), .ref (ma 10), .long (zL tr), .ref (ma 11)])), ((ma 1), .inl (cy 0, 200, .inl (zA xt))), ((ma 2), .inl (cy 0, 44, .inl (zA rd))), ((ma 3), .inl (cy 0, 44, .inl (zA hs))), ((ma 4), .inl (cy 0, 25, .inl (zA (enc day hm tk py db)))), ((ma 5), .inl (cy 0, 250, .inl (zA un))), ((ma 6), .inl (cy 0, 6, .inl (zA rs))), ((ma 7), .inl (cy 0, 64, .inl (zA gp))), ((ma 8), .inl (cy 0, 6, .inl (zA (fun j => ((wh j : Nat) : Int))))), ((ma 9), .inl (cy 0, 6, .inl (zA lk))), ((ma 10), .inl (cy 0, 6, .inl (zA (fun j => ((so j : Nat) : Int))))), ((ma 11), .inl (cy 0, 554, .inl (zA kp)))] [.ref (ma 0), .int (zI ((st0 : Nat) : Int))]) (qR ((hrs he te st0 : Nat) : Int)) 0 0 (fun _ => False) := by
  refine met_R (cc := cX9_hear) (maxL := 4) (ret := (some .int)) RX9 (by decide) rfl rfl (Nat.le_of_ble_eq_true rfl) ?_
  intro p e s m args below meth c ls Q hx hb hr hml hts hown hlocks hQ hP hK hl
  have hl : lv_has ls 4 [(0, .ref (ma 0)), (1, .int (zI ((st0 : Nat) : Int)))] := hl
  have hinX9 : ∀ w ∈ wsX90, w ∈ wsX9_hear := (fun w h => List.mem_cons_of_mem _ (List.mem_append_right _ h))
  refine lv_iconst (v := zI 0) hx hb dX9_hear_0 rfl ?_
  refine lv_istore_n (lv' := [(2, .int (zI 0)), (0, .ref (ma 0)), (1, .int (zI ((st0 : Nat) : Int)))]) hx hb dX9_hear_1 rfl hl (by decide) rfl (fun ls hl => ?_)
  refine lv_iconst (v := zI 0) hx hb dX9_hear_2 rfl ?_
  refine lv_istore_n (lv' := [(3, .int (zI 0)), (2, .int (zI 0)), (0, .ref (ma 0)), (1, .int (zI ((st0 : Nat) : Int)))]) hx hb dX9_hear_3 rfl hl (by decide) rfl (fun ls hl => ?_)
  have loop4 : ∀ (n9 : Nat) (i : Nat), te - i < n9 → (i ≤ te) → ∀ (x4_2 : Int), x4_2 = ((bits (fun t => decide (¬ (he t &&& st0) = 0)) i : Nat) : Int) → ∀ (x4_3 : Int), x4_3 = ((i : Nat) : Int) → ∀ ls : Array Slot, lv_has ls 4 [(0, .ref (ma 0)), (1, .int (zI ((st0 : Nat) : Int))), (2, .int (zI x4_2)), (3, .int (zI x4_3))] → W p l e rm_X9_hear s m args below meth c s.heap [] 0 0 Q (F0 m 4 ls []) := by
    intro n9
    induction n9 with
    | zero => intro i h9; exact absurd h9 (Nat.not_lt_zero _)
    | succ n9 ih4 =>
      intro i hmu4 hi x4_2 ex4_2 x4_3 ex4_3 ls hl
      subst ex4_2
      subst ex4_3
      have hl : lv_has ls 4 [(0, .ref (ma 0)), (1, .int (zI ((st0 : Nat) : Int))), (2, .int (zI ((bits (fun t => decide (¬ (he t &&& st0) = 0)) i : Nat) : Int))), (3, .int (zI ((i : Nat) : Int)))] := hl
      have hf1 := bits_lt64 (fun t => decide (¬ (he t &&& st0) = 0)) i (by omega)
      refine lv_iload_n hx hb dX9_hear_4 rfl (lv_at hl 3 rfl) ?_
      refine lv_aload_n hx hb dX9_hear_5 rfl (lv_at hl 0 rfl) ?_
      refine va_get (D := D) (ci := 9) (v := .ref (ma 3)) (C := RX9) (T := TX9) (N := 22) hx hb hts hinX9 hown hK hP 0 rfl rfl 7 (by decide) (hts (.fieldLink RX9 16 "SilentRentModel" "house" "[I") (List.mem_of_getElem? (i := 1) rfl)) (fun _ h9 => h9) rfl dX9_hear_6 ?_
      refine lv_iconst (v := zI 1) hx hb dX9_hear_9 rfl ?_
      refine z_iald2 hx hb hK hP 3 0 (f := hs) (v := ((te : Nat) : Int)) rfl rfl 1 (by omega) (by omega) (by decide) (hHS.2.1) dX9_hear_10 ?_
      refine z_icmp_ge (tgt := 48) hx hb ⟨by omega, by omega⟩ ⟨by omega, by omega⟩ dX9_hear_11 (by decide) (fun c1 => ?_) (fun c1 => ?_)
      · have c1 : (te : Nat) ≤ (i : Nat) := by omega
        refine lv_iload_n hx hb dX9_hear_48 rfl (lv_at hl 2 rfl) ?_
        exact zr_iret hx hb hr hlocks hQ (by rw [show i = te from by omega]; rfl) dX9_hear_49
      · have c1 : ¬ ((te : Nat) ≤ (i : Nat)) := by omega
        refine lv_iload_n hx hb dX9_hear_14 rfl (lv_at hl 2 rfl) ?_
        refine lv_aload_n hx hb dX9_hear_15 rfl (lv_at hl 0 rfl) ?_
        refine va_get (D := D) (ci := 9) (v := .ref (ma 3)) (C := RX9) (T := TX9) (N := 22) hx hb hts hinX9 hown hK hP 0 rfl rfl 7 (by decide) (hts (.fieldLink RX9 16 "SilentRentModel" "house" "[I") (List.mem_of_getElem? (i := 1) rfl)) (fun _ h9 => h9) rfl dX9_hear_16 ?_
        refine lv_bipush (v := zI 9) hx hb dX9_hear_19 (by decide) ?_
        refine lv_iconst (v := zI 5) hx hb dX9_hear_21 rfl ?_
        refine lv_iload_n hx hb dX9_hear_22 rfl (lv_at hl 3 rfl) ?_
        refine z_imul (r := ((5 * i : Nat) : Int)) hx hb (by first | rfl | omega) dX9_hear_23 ?_
        refine z_iadd (r := ((9 + (5 * i) : Nat) : Int)) hx hb (by omega) dX9_hear_24 ?_
        refine lv_iconst (v := zI 4) hx hb dX9_hear_25 rfl ?_
        refine z_iadd (r := (((9 + (5 * i)) + 4 : Nat) : Int)) hx hb (by omega) dX9_hear_26 ?_
        refine z_iald2 hx hb hK hP 3 0 (f := hs) (v := ((he i : Nat) : Int)) rfl rfl (9 + 5 * i + 4) (by omega) (by omega) (by decide) ((hHS.2.2.2.2.1 i (by omega)).2.2.2.2) dX9_hear_27 ?_
        have hb2 := hHB.2.2.2.2.2.1 i
        refine lv_iload_n hx hb dX9_hear_28 rfl (lv_at hl 1 rfl) ?_
        have hq3 : (he i) &&& st0 ≤ (he i) := Nat.and_le_left
        refine z_iand (r := (((he i) &&& st0 : Nat) : Int)) hx hb (zI_and (a := he i) (b := st0) (by omega) (by omega)) dX9_hear_29 ?_
        refine z_if_eq (tgt := 39) hx hb ⟨by omega, by omega⟩ dX9_hear_30 (by decide) (fun c4 => ?_) (fun c4 => ?_)
        · have c4 : ((he i) &&& st0 : Nat) = (0 : Nat) := by omega
          refine lv_iconst (v := zI 0) hx hb dX9_hear_39 rfl ?_
          have hq5 := or_lt64 (a := (bits (fun t => decide (¬ (he t &&& st0) = 0)) i)) (b := 0) (by omega) (by omega)
          refine z_ior (r := (((bits (fun t => decide (¬ (he t &&& st0) = 0)) i) ||| 0 : Nat) : Int)) hx hb (zI_or (a := bits (fun t => decide (¬ (he t &&& st0) = 0)) i) (b := 0) (by omega) (by omega)) dX9_hear_40 ?_
          refine lv_istore_n (lv' := [(2, .int (zI (((bits (fun t => decide (¬ (he t &&& st0) = 0)) i) ||| 0 : Nat) : Int))), (0, .ref (ma 0)), (1, .int (zI ((st0 : Nat) : Int))), (3, .int (zI ((i : Nat) : Int)))]) hx hb dX9_hear_41 rfl hl (by decide) rfl (fun ls hl => ?_)
          refine z_iinc (r := ((i + 1 : Nat) : Int)) (lv' := [(3, .int (zI ((i + 1 : Nat) : Int))), (2, .int (zI (((bits (fun t => decide (¬ (he t &&& st0) = 0)) i) ||| 0 : Nat) : Int))), (0, .ref (ma 0)), (1, .int (zI ((st0 : Nat) : Int)))]) hx hb (by omega) dX9_hear_42 hl (k := 3) rfl (by decide) rfl (fun ls hl => ?_)
          refine lv_goto (tgt := 4) hx hb dX9_hear_45 (by decide) ?_
          exact ih4 (i + 1) (by omega) (by omega) (((bits (fun t => decide (¬ (he t &&& st0) = 0)) i) ||| 0 : Nat) : Int) (by (simp only [bits, decide_eq_true_eq]) <;> (repeat' split) <;> first | rfl | omega | (simp; done)) ((i + 1 : Nat) : Int) (by first | rfl | omega) ls (lv_sub hl [2, 3, 1, 0] rfl)
        · have c4 : ¬ (((he i) &&& st0 : Nat) = (0 : Nat)) := by omega
          refine lv_iconst (v := zI 1) hx hb dX9_hear_33 rfl ?_
          refine lv_iload_n hx hb dX9_hear_34 rfl (lv_at hl 3 rfl) ?_
          have hp6 := pow_le3 i (by omega)
          refine z_ishl (r := ((2 ^ i : Nat) : Int)) hx hb (zI_shl1 i (by omega)) dX9_hear_35 ?_
          refine lv_goto (tgt := 40) hx hb dX9_hear_36 (by decide) ?_
          have hq7 := or_lt64 (a := (bits (fun t => decide (¬ (he t &&& st0) = 0)) i)) (b := (2 ^ i)) (by omega) (by omega)
          refine z_ior (r := (((bits (fun t => decide (¬ (he t &&& st0) = 0)) i) ||| (2 ^ i) : Nat) : Int)) hx hb (zI_or (a := bits (fun t => decide (¬ (he t &&& st0) = 0)) i) (b := 2 ^ i) (by omega) (by omega)) dX9_hear_40 ?_
          refine lv_istore_n (lv' := [(2, .int (zI (((bits (fun t => decide (¬ (he t &&& st0) = 0)) i) ||| (2 ^ i) : Nat) : Int))), (0, .ref (ma 0)), (1, .int (zI ((st0 : Nat) : Int))), (3, .int (zI ((i : Nat) : Int)))]) hx hb dX9_hear_41 rfl hl (by decide) rfl (fun ls hl => ?_)
          refine z_iinc (r := ((i + 1 : Nat) : Int)) (lv' := [(3, .int (zI ((i + 1 : Nat) : Int))), (2, .int (zI (((bits (fun t => decide (¬ (he t &&& st0) = 0)) i) ||| (2 ^ i) : Nat) : Int))), (0, .ref (ma 0)), (1, .int (zI ((st0 : Nat) : Int)))]) hx hb (by omega) dX9_hear_42 hl (k := 3) rfl (by decide) rfl (fun ls hl => ?_)
          refine lv_goto (tgt := 4) hx hb dX9_hear_45 (by decide) ?_
          exact ih4 (i + 1) (by omega) (by omega) (((bits (fun t => decide (¬ (he t &&& st0) = 0)) i) ||| (2 ^ i) : Nat) : Int) (by (simp only [bits, decide_eq_true_eq]) <;> (repeat' split) <;> first | rfl | omega | (simp; done)) ((i + 1 : Nat) : Int) (by first | rfl | omega) ls (lv_sub hl [2, 3, 1, 0] rfl)
  exact loop4 ((te - 0) + 1) 0 (by omega) (by omega) 0 (by first | rfl | omega | simp) 0 (by first | rfl | omega | simp) ls (lv_sub hl [2, 3, 1, 0] rfl)
