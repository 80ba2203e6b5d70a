/-! the law: its loop -/
theorem and31 (x : Int32) : ∃ r : Int, (0 ≤ r ∧ r ≤ 31) ∧ x &&& zI 31 = zI r := by
  refine ⟨(x &&& zI 31).toInt, ?_, (zI_of _).symm⟩
  have h : (x &&& zI 31).toBitVec.toNat ≤ 31 := by
    rw [Int32.toBitVec_and, BitVec.toNat_and]
    exact Nat.le_trans Nat.and_le_right (by decide)
  have e : (x &&& zI 31).toInt = (((x &&& zI 31).toBitVec.toNat : Nat) : Int) := BitVec.toInt_eq_toNat_of_lt (by omega)
  rw [e]
  omega
theorem c31 {r : Int} (h : 0 ≤ r ∧ r ≤ 31) : r = 0 ∨ r = 1 ∨ r = 2 ∨ r = 3 ∨ r = 4 ∨ r = 5 ∨ r = 6 ∨ r = 7 ∨ r = 8 ∨ r = 9 ∨ r = 10 ∨ r = 11 ∨ r = 12 ∨ r = 13 ∨ r = 14 ∨ r = 15 ∨ r = 16 ∨ r = 17 ∨ r = 18 ∨ r = 19 ∨ r = 20 ∨ r = 21 ∨ r = 22 ∨ r = 23 ∨ r = 24 ∨ r = 25 ∨ r = 26 ∨ r = 27 ∨ r = 28 ∨ r = 29 ∨ r = 30 ∨ r = 31 := by omega
set_option maxHeartbeats 8000000 in
set_option maxRecDepth 100000 in
theorem lw_loop {p : Program} {l : Launch} {e : Env} {s : State} {m : MethodId} {below : List Frame} {meth : Method} {c : Code} {Q : State → Prop} {args : Array Value} {D : va_G} {cy : Nat → ClassId} {A0 : Nat → Prop} {b L : Nat} {scr : Nat → Int32} (F : lwF p s m meth c args D cy A0 b L scr) (hend : ∀ (H : Heap) (locs : List Loc) (ls : Array Slot), va_S A0 s.heap H locs → W p l e room_1 s m args below meth c H locs 223 3227 Q (F0 m 913 ls [])) : ∀ n q, 65 - q ≤ n → lwK p l e s m args below meth c Q D cy A0 b q := by
  intro n
  induction n with
  | zero =>
    intro q hn sa xa h h2 na pa ia ba ho fa ga na3 pa3 na4 pa4 ma tr xt xl xn xs xk xv ro te ch pr sl mu wi ak he li ro2 te2 ch2 pr2 sl2 mu2 wi2 ak2 he2 li2 day hm tk py db kn rot sad sS kp0 kp1 ln wh lk hh bt wy rc op fr gr day3 hm3 tk3 py3 db3 kn3 rot3 sad3 sS3 day4 hm4 tk4 py4 db4 kn4 rot4 sad4 sS4 at0 bg tk0 td rd hs un rs be bp gp wa so kp hI
    have := hI.1
    omega
  | succ n ih =>
    intro q hn sa xa h h2 na pa ia ba ho fa ga na3 pa3 na4 pa4 ma tr xt xl xn xs xk xv ro te ch pr sl mu wi ak he li ro2 te2 ch2 pr2 sl2 mu2 wi2 ak2 he2 li2 day hm tk py db kn rot sad sS kp0 kp1 ln wh lk hh bt wy rc op fr gr day3 hm3 tk3 py3 db3 kn3 rot3 sad3 sS3 day4 hm4 tk4 py4 db4 kn4 rot4 sad4 sS4 at0 bg tk0 td rd hs un rs be bp gp wa so kp hI H locs hP hD hS ls hl
    obtain ⟨hx, hb, hml, hts, hown, hK, hXs, hbl, hbA, hL⟩ := id F
    have hq64 : q ≤ 64 := hI.1
    refine lv_iload_n hx hb dL_law_18 rfl (lv_at hl 0 rfl) ?_
    refine lv_aload_n hx hb dL_law_19 rfl (lv_at hl 1 rfl) ?_
    refine va_slen hx hb hXs hbl hbA hS dL_law_20 ?_
    rw [show Int32.ofNat L = zI ((L : Nat) : Int) from (zI_n L).symm]
    refine lv_iconst (v := zI 4) hx hb dL_law_21 rfl ?_
    refine z_isub (r := (L : Int) - 4) hx hb rfl dL_law_22 ?_
    refine z_icmp_gt (tgt := 913) hx hb ⟨by omega, by omega⟩ ⟨by omega, by omega⟩ dL_law_23 (by decide) (fun c1 => hend H locs ls hS) (fun c1 => ?_)
    have hq : 4 * q + 4 ≤ L := by omega
    obtain ⟨a0, r0, e0⟩ := zI_ex (scr (4 * q))
    obtain ⟨a1, r1, e1⟩ := zI_ex (scr (4 * q + 1))
    obtain ⟨a2, r2, e2⟩ := zI_ex (scr (4 * q + 2))
    obtain ⟨a3, r3, e3⟩ := zI_ex (scr (4 * q + 3))
    obtain ⟨r, hr, er⟩ := and31 (zI a0)
    refine lv_aload_n hx hb dL_law_26 rfl (lv_at hl 1 rfl) ?_
    refine lv_iload_n hx hb dL_law_27 rfl (lv_at hl 0 rfl) ?_
    refine z_sld hx hb hXs hbl hbA hS (4 * q) rfl (by omega) (by omega) e0 dL_law_28 ?_
    refine lv_bipush (v := zI 31) hx hb dL_law_29 (by decide) ?_
    refine z_iand (r := r) hx hb er dL_law_31 ?_
    have hk : lwK p l e s m args below meth c Q D cy A0 b (q + 1) := ih (q + 1) (by omega)
    rcases c31 hr with h99 | h99 | h99 | h99 | h99 | h99 | h99 | h99 | h99 | h99 | h99 | h99 | h99 | h99 | h99 | h99 | h99 | h99 | h99 | h99 | h99 | h99 | h99 | h99 | h99 | h99 | h99 | h99 | h99 | h99 | h99 | h99
    · refine z_tableIn (tgt := 172) hx hb 0 h99 ⟨by decide, by decide⟩ dL_law_32 (by decide) (by decide) rfl (by decide) ?_
      exact lw_type sa xa h h2 na pa ia ba ho fa ga na3 pa3 na4 pa4 ma tr xt xl xn xs xk xv ro te ch pr sl mu wi ak he li ro2 te2 ch2 pr2 sl2 mu2 wi2 ak2 he2 li2 day hm tk py db kn rot sad sS kp0 kp1 ln wh lk hh bt wy rc op fr gr day3 hm3 tk3 py3 db3 kn3 rot3 sad3 sS3 day4 hm4 tk4 py4 db4 kn4 rot4 sad4 sS4 at0 bg tk0 td rd hs un rs be bp gp wa so kp F hq e1 r1 hI hk H locs hP hD hS ls hl
    · refine z_tableIn (tgt := 195) hx hb 1 h99 ⟨by decide, by decide⟩ dL_law_32 (by decide) (by decide) rfl (by decide) ?_
      exact lw_clear sa xa h h2 na pa ia ba ho fa ga na3 pa3 na4 pa4 ma tr xt xl xn xs xk xv ro te ch pr sl mu wi ak he li ro2 te2 ch2 pr2 sl2 mu2 wi2 ak2 he2 li2 day hm tk py db kn rot sad sS kp0 kp1 ln wh lk hh bt wy rc op fr gr day3 hm3 tk3 py3 db3 kn3 rot3 sad3 sS3 day4 hm4 tk4 py4 db4 kn4 rot4 sad4 sS4 at0 bg tk0 td rd hs un rs be bp gp wa so kp F hq hI hk H locs hP hD hS ls hl
    · refine z_tableIn (tgt := 208) hx hb 2 h99 ⟨by decide, by decide⟩ dL_law_32 (by decide) (by decide) rfl (by decide) ?_
      by_cases hsg : (rdF xt xl (xl + 1) 0 ((0, xs, xk, xv), (0, 0, 0), (pr2, sl2, mu2, wi2, ak2), (he2, li2))).1 < 0
      · exact lw_house_bad sa xa h h2 na pa ia ba ho fa ga na3 pa3 na4 pa4 ma tr xt xl xn xs xk xv ro te ch pr sl mu wi ak he li ro2 te2 ch2 pr2 sl2 mu2 wi2 ak2 he2 li2 day hm tk py db kn rot sad sS kp0 kp1 ln wh lk hh bt wy rc op fr gr day3 hm3 tk3 py3 db3 kn3 rot3 sad3 sS3 day4 hm4 tk4 py4 db4 kn4 rot4 sad4 sS4 at0 bg tk0 td rd hs un rs be bp gp wa so kp F hq hI hsg hk H locs hP hD hS ls hl
      · exact lw_house_ok sa xa h h2 na pa ia ba ho fa ga na3 pa3 na4 pa4 ma tr xt xl xn xs xk xv ro te ch pr sl mu wi ak he li ro2 te2 ch2 pr2 sl2 mu2 wi2 ak2 he2 li2 day hm tk py db kn rot sad sS kp0 kp1 ln wh lk hh bt wy rc op fr gr day3 hm3 tk3 py3 db3 kn3 rot3 sad3 sS3 day4 hm4 tk4 py4 db4 kn4 rot4 sad4 sS4 at0 bg tk0 td rd hs un rs be bp gp wa so kp F hq hI (by omega) hk H locs hP hD hS ls hl
    · refine z_tableIn (tgt := 221) hx hb 3 h99 ⟨by decide, by decide⟩ dL_law_32 (by decide) (by decide) rfl (by decide) ?_
      exact lw_room sa xa h h2 na pa ia ba ho fa ga na3 pa3 na4 pa4 ma tr xt xl xn xs xk xv ro te ch pr sl mu wi ak he li ro2 te2 ch2 pr2 sl2 mu2 wi2 ak2 he2 li2 day hm tk py db kn rot sad sS kp0 kp1 ln wh lk hh bt wy rc op fr gr day3 hm3 tk3 py3 db3 kn3 rot3 sad3 sS3 day4 hm4 tk4 py4 db4 kn4 rot4 sad4 sS4 at0 bg tk0 td rd hs un rs be bp gp wa so kp F hq e1 r1 e2 r2 hI hk H locs hP hD hS ls hl
    · refine z_tableIn (tgt := 254) hx hb 4 h99 ⟨by decide, by decide⟩ dL_law_32 (by decide) (by decide) rfl (by decide) ?_
      exact lw_tenant sa xa h h2 na pa ia ba ho fa ga na3 pa3 na4 pa4 ma tr xt xl xn xs xk xv ro te ch pr sl mu wi ak he li ro2 te2 ch2 pr2 sl2 mu2 wi2 ak2 he2 li2 day hm tk py db kn rot sad sS kp0 kp1 ln wh lk hh bt wy rc op fr gr day3 hm3 tk3 py3 db3 kn3 rot3 sad3 sS3 day4 hm4 tk4 py4 db4 kn4 rot4 sad4 sS4 at0 bg tk0 td rd hs un rs be bp gp wa so kp F hq e1 r1 e2 r2 hI hk H locs hP hD hS ls hl
    · refine z_tableIn (tgt := 287) hx hb 5 h99 ⟨by decide, by decide⟩ dL_law_32 (by decide) (by decide) rfl (by decide) ?_
      exact lw_chair sa xa h h2 na pa ia ba ho fa ga na3 pa3 na4 pa4 ma tr xt xl xn xs xk xv ro te ch pr sl mu wi ak he li ro2 te2 ch2 pr2 sl2 mu2 wi2 ak2 he2 li2 day hm tk py db kn rot sad sS kp0 kp1 ln wh lk hh bt wy rc op fr gr day3 hm3 tk3 py3 db3 kn3 rot3 sad3 sS3 day4 hm4 tk4 py4 db4 kn4 rot4 sad4 sS4 at0 bg tk0 td rd hs un rs be bp gp wa so kp F hq e1 r1 hI hk H locs hP hD hS ls hl
    · refine z_tableIn (tgt := 310) hx hb 6 h99 ⟨by decide, by decide⟩ dL_law_32 (by decide) (by decide) rfl (by decide) ?_
      exact lw_moves sa xa h h2 na pa ia ba ho fa ga na3 pa3 na4 pa4 ma tr xt xl xn xs xk xv ro te ch pr sl mu wi ak he li ro2 te2 ch2 pr2 sl2 mu2 wi2 ak2 he2 li2 day hm tk py db kn rot sad sS kp0 kp1 ln wh lk hh bt wy rc op fr gr day3 hm3 tk3 py3 db3 kn3 rot3 sad3 sS3 day4 hm4 tk4 py4 db4 kn4 rot4 sad4 sS4 at0 bg tk0 td rd hs un rs be bp gp wa so kp F hq e1 r1 e2 r2 hI hk H locs hP hD hS ls hl
    · refine z_tableIn (tgt := 343) hx hb 7 h99 ⟨by decide, by decide⟩ dL_law_32 (by decide) (by decide) rfl (by decide) ?_
      exact lw_talks sa xa h h2 na pa ia ba ho fa ga na3 pa3 na4 pa4 ma tr xt xl xn xs xk xv ro te ch pr sl mu wi ak he li ro2 te2 ch2 pr2 sl2 mu2 wi2 ak2 he2 li2 day hm tk py db kn rot sad sS kp0 kp1 ln wh lk hh bt wy rc op fr gr day3 hm3 tk3 py3 db3 kn3 rot3 sad3 sS3 day4 hm4 tk4 py4 db4 kn4 rot4 sad4 sS4 at0 bg tk0 td rd hs un rs be bp gp wa so kp F hq e1 r1 e2 r2 e3 r3 hI hk H locs hP hD hS ls hl
    · refine z_tableIn (tgt := 386) hx hb 8 h99 ⟨by decide, by decide⟩ dL_law_32 (by decide) (by decide) rfl (by decide) ?_
      exact lw_evening sa xa h h2 na pa ia ba ho fa ga na3 pa3 na4 pa4 ma tr xt xl xn xs xk xv ro te ch pr sl mu wi ak he li ro2 te2 ch2 pr2 sl2 mu2 wi2 ak2 he2 li2 day hm tk py db kn rot sad sS kp0 kp1 ln wh lk hh bt wy rc op fr gr day3 hm3 tk3 py3 db3 kn3 rot3 sad3 sS3 day4 hm4 tk4 py4 db4 kn4 rot4 sad4 sS4 at0 bg tk0 td rd hs un rs be bp gp wa so kp F hq hI hk H locs hP hD hS ls hl
    · refine z_tableIn (tgt := 399) hx hb 9 h99 ⟨by decide, by decide⟩ dL_law_32 (by decide) (by decide) rfl (by decide) ?_
      exact lw_lends sa xa h h2 na pa ia ba ho fa ga na3 pa3 na4 pa4 ma tr xt xl xn xs xk xv ro te ch pr sl mu wi ak he li ro2 te2 ch2 pr2 sl2 mu2 wi2 ak2 he2 li2 day hm tk py db kn rot sad sS kp0 kp1 ln wh lk hh bt wy rc op fr gr day3 hm3 tk3 py3 db3 kn3 rot3 sad3 sS3 day4 hm4 tk4 py4 db4 kn4 rot4 sad4 sS4 at0 bg tk0 td rd hs un rs be bp gp wa so kp F hq e1 r1 e2 r2 e3 r3 hI hk H locs hP hD hS ls hl
    · refine z_tableIn (tgt := 442) hx hb 10 h99 ⟨by decide, by decide⟩ dL_law_32 (by decide) (by decide) rfl (by decide) ?_
      exact lw_undo sa xa h h2 na pa ia ba ho fa ga na3 pa3 na4 pa4 ma tr xt xl xn xs xk xv ro te ch pr sl mu wi ak he li ro2 te2 ch2 pr2 sl2 mu2 wi2 ak2 he2 li2 day hm tk py db kn rot sad sS kp0 kp1 ln wh lk hh bt wy rc op fr gr day3 hm3 tk3 py3 db3 kn3 rot3 sad3 sS3 day4 hm4 tk4 py4 db4 kn4 rot4 sad4 sS4 at0 bg tk0 td rd hs un rs be bp gp wa so kp F hq hI hk H locs hP hD hS ls hl
    · refine z_tableIn (tgt := 455) hx hb 11 h99 ⟨by decide, by decide⟩ dL_law_32 (by decide) (by decide) rfl (by decide) ?_
      exact lw_now sa xa h h2 na pa ia ba ho fa ga na3 pa3 na4 pa4 ma tr xt xl xn xs xk xv ro te ch pr sl mu wi ak he li ro2 te2 ch2 pr2 sl2 mu2 wi2 ak2 he2 li2 day hm tk py db kn rot sad sS kp0 kp1 ln wh lk hh bt wy rc op fr gr day3 hm3 tk3 py3 db3 kn3 rot3 sad3 sS3 day4 hm4 tk4 py4 db4 kn4 rot4 sad4 sS4 at0 bg tk0 td rd hs un rs be bp gp wa so kp F hq e1 r1 hI hk H locs hP hD hS ls hl
    · refine z_tableIn (tgt := 478) hx hb 12 h99 ⟨by decide, by decide⟩ dL_law_32 (by decide) (by decide) rfl (by decide) ?_
      exact lw_housed sa xa h h2 na pa ia ba ho fa ga na3 pa3 na4 pa4 ma tr xt xl xn xs xk xv ro te ch pr sl mu wi ak he li ro2 te2 ch2 pr2 sl2 mu2 wi2 ak2 he2 li2 day hm tk py db kn rot sad sS kp0 kp1 ln wh lk hh bt wy rc op fr gr day3 hm3 tk3 py3 db3 kn3 rot3 sad3 sS3 day4 hm4 tk4 py4 db4 kn4 rot4 sad4 sS4 at0 bg tk0 td rd hs un rs be bp gp wa so kp F hq e1 r1 hI hk H locs hP hD hS ls hl
    · refine z_tableIn (tgt := 501) hx hb 13 h99 ⟨by decide, by decide⟩ dL_law_32 (by decide) (by decide) rfl (by decide) ?_
      exact lw_crowd sa xa h h2 na pa ia ba ho fa ga na3 pa3 na4 pa4 ma tr xt xl xn xs xk xv ro te ch pr sl mu wi ak he li ro2 te2 ch2 pr2 sl2 mu2 wi2 ak2 he2 li2 day hm tk py db kn rot sad sS kp0 kp1 ln wh lk hh bt wy rc op fr gr day3 hm3 tk3 py3 db3 kn3 rot3 sad3 sS3 day4 hm4 tk4 py4 db4 kn4 rot4 sad4 sS4 at0 bg tk0 td rd hs un rs be bp gp wa so kp F hq hI hk H locs hP hD hS ls hl
    · refine z_tableIn (tgt := 514) hx hb 14 h99 ⟨by decide, by decide⟩ dL_law_32 (by decide) (by decide) rfl (by decide) ?_
      exact lw_spare sa xa h h2 na pa ia ba ho fa ga na3 pa3 na4 pa4 ma tr xt xl xn xs xk xv ro te ch pr sl mu wi ak he li ro2 te2 ch2 pr2 sl2 mu2 wi2 ak2 he2 li2 day hm tk py db kn rot sad sS kp0 kp1 ln wh lk hh bt wy rc op fr gr day3 hm3 tk3 py3 db3 kn3 rot3 sad3 sS3 day4 hm4 tk4 py4 db4 kn4 rot4 sad4 sS4 at0 bg tk0 td rd hs un rs be bp gp wa so kp F hq e1 r1 hI hk H locs hP hD hS ls hl
    · refine z_tableIn (tgt := 537) hx hb 15 h99 ⟨by decide, by decide⟩ dL_law_32 (by decide) (by decide) rfl (by decide) ?_
      exact lw_rest sa xa h h2 na pa ia ba ho fa ga na3 pa3 na4 pa4 ma tr xt xl xn xs xk xv ro te ch pr sl mu wi ak he li ro2 te2 ch2 pr2 sl2 mu2 wi2 ak2 he2 li2 day hm tk py db kn rot sad sS kp0 kp1 ln wh lk hh bt wy rc op fr gr day3 hm3 tk3 py3 db3 kn3 rot3 sad3 sS3 day4 hm4 tk4 py4 db4 kn4 rot4 sad4 sS4 at0 bg tk0 td rd hs un rs be bp gp wa so kp F hq e1 r1 hI hk H locs hP hD hS ls hl
    · refine z_tableIn (tgt := 560) hx hb 16 h99 ⟨by decide, by decide⟩ dL_law_32 (by decide) (by decide) rfl (by decide) ?_
      exact lw_payments sa xa h h2 na pa ia ba ho fa ga na3 pa3 na4 pa4 ma tr xt xl xn xs xk xv ro te ch pr sl mu wi ak he li ro2 te2 ch2 pr2 sl2 mu2 wi2 ak2 he2 li2 day hm tk py db kn rot sad sS kp0 kp1 ln wh lk hh bt wy rc op fr gr day3 hm3 tk3 py3 db3 kn3 rot3 sad3 sS3 day4 hm4 tk4 py4 db4 kn4 rot4 sad4 sS4 at0 bg tk0 td rd hs un rs be bp gp wa so kp F hq hI hk H locs hP hD hS ls hl
    · refine z_tableIn (tgt := 573) hx hb 17 h99 ⟨by decide, by decide⟩ dL_law_32 (by decide) (by decide) rfl (by decide) ?_
      exact lw_settled sa xa h h2 na pa ia ba ho fa ga na3 pa3 na4 pa4 ma tr xt xl xn xs xk xv ro te ch pr sl mu wi ak he li ro2 te2 ch2 pr2 sl2 mu2 wi2 ak2 he2 li2 day hm tk py db kn rot sad sS kp0 kp1 ln wh lk hh bt wy rc op fr gr day3 hm3 tk3 py3 db3 kn3 rot3 sad3 sS3 day4 hm4 tk4 py4 db4 kn4 rot4 sad4 sS4 at0 bg tk0 td rd hs un rs be bp gp wa so kp F hq e1 r1 hI hk H locs hP hD hS ls hl
    · refine z_tableIn (tgt := 596) hx hb 18 h99 ⟨by decide, by decide⟩ dL_law_32 (by decide) (by decide) rfl (by decide) ?_
      exact lw_told sa xa h h2 na pa ia ba ho fa ga na3 pa3 na4 pa4 ma tr xt xl xn xs xk xv ro te ch pr sl mu wi ak he li ro2 te2 ch2 pr2 sl2 mu2 wi2 ak2 he2 li2 day hm tk py db kn rot sad sS kp0 kp1 ln wh lk hh bt wy rc op fr gr day3 hm3 tk3 py3 db3 kn3 rot3 sad3 sS3 day4 hm4 tk4 py4 db4 kn4 rot4 sad4 sS4 at0 bg tk0 td rd hs un rs be bp gp wa so kp F hq e1 r1 hI hk H locs hP hD hS ls hl
    · refine z_tableIn (tgt := 619) hx hb 19 h99 ⟨by decide, by decide⟩ dL_law_32 (by decide) (by decide) rfl (by decide) ?_
      exact lw_rounds sa xa h h2 na pa ia ba ho fa ga na3 pa3 na4 pa4 ma tr xt xl xn xs xk xv ro te ch pr sl mu wi ak he li ro2 te2 ch2 pr2 sl2 mu2 wi2 ak2 he2 li2 day hm tk py db kn rot sad sS kp0 kp1 ln wh lk hh bt wy rc op fr gr day3 hm3 tk3 py3 db3 kn3 rot3 sad3 sS3 day4 hm4 tk4 py4 db4 kn4 rot4 sad4 sS4 at0 bg tk0 td rd hs un rs be bp gp wa so kp F hq e1 r1 hI hk H locs hP hD hS ls hl
    · refine z_tableIn (tgt := 642) hx hb 20 h99 ⟨by decide, by decide⟩ dL_law_32 (by decide) (by decide) rfl (by decide) ?_
      exact lw_watch sa xa h h2 na pa ia ba ho fa ga na3 pa3 na4 pa4 ma tr xt xl xn xs xk xv ro te ch pr sl mu wi ak he li ro2 te2 ch2 pr2 sl2 mu2 wi2 ak2 he2 li2 day hm tk py db kn rot sad sS kp0 kp1 ln wh lk hh bt wy rc op fr gr day3 hm3 tk3 py3 db3 kn3 rot3 sad3 sS3 day4 hm4 tk4 py4 db4 kn4 rot4 sad4 sS4 at0 bg tk0 td rd hs un rs be bp gp wa so kp F hq e1 r1 hI hk H locs hP hD hS ls hl
    · refine z_tableIn (tgt := 665) hx hb 21 h99 ⟨by decide, by decide⟩ dL_law_32 (by decide) (by decide) rfl (by decide) ?_
      exact lw_odds sa xa h h2 na pa ia ba ho fa ga na3 pa3 na4 pa4 ma tr xt xl xn xs xk xv ro te ch pr sl mu wi ak he li ro2 te2 ch2 pr2 sl2 mu2 wi2 ak2 he2 li2 day hm tk py db kn rot sad sS kp0 kp1 ln wh lk hh bt wy rc op fr gr day3 hm3 tk3 py3 db3 kn3 rot3 sad3 sS3 day4 hm4 tk4 py4 db4 kn4 rot4 sad4 sS4 at0 bg tk0 td rd hs un rs be bp gp wa so kp F hq e1 r1 e2 r2 hI hk H locs hP hD hS ls hl
    · refine z_tableIn (tgt := 699) hx hb 22 h99 ⟨by decide, by decide⟩ dL_law_32 (by decide) (by decide) rfl (by decide) ?_
      exact lw_book sa xa h h2 na pa ia ba ho fa ga na3 pa3 na4 pa4 ma tr xt xl xn xs xk xv ro te ch pr sl mu wi ak he li ro2 te2 ch2 pr2 sl2 mu2 wi2 ak2 he2 li2 day hm tk py db kn rot sad sS kp0 kp1 ln wh lk hh bt wy rc op fr gr day3 hm3 tk3 py3 db3 kn3 rot3 sad3 sS3 day4 hm4 tk4 py4 db4 kn4 rot4 sad4 sS4 at0 bg tk0 td rd hs un rs be bp gp wa so kp F hq e1 r1 e2 r2 hI hk H locs hP hD hS ls hl
    · refine z_tableIn (tgt := 732) hx hb 23 h99 ⟨by decide, by decide⟩ dL_law_32 (by decide) (by decide) rfl (by decide) ?_
      exact lw_burn sa xa h h2 na pa ia ba ho fa ga na3 pa3 na4 pa4 ma tr xt xl xn xs xk xv ro te ch pr sl mu wi ak he li ro2 te2 ch2 pr2 sl2 mu2 wi2 ak2 he2 li2 day hm tk py db kn rot sad sS kp0 kp1 ln wh lk hh bt wy rc op fr gr day3 hm3 tk3 py3 db3 kn3 rot3 sad3 sS3 day4 hm4 tk4 py4 db4 kn4 rot4 sad4 sS4 at0 bg tk0 td rd hs un rs be bp gp wa so kp F hq hI hk H locs hP hD hS ls hl
    · refine z_tableIn (tgt := 745) hx hb 24 h99 ⟨by decide, by decide⟩ dL_law_32 (by decide) (by decide) rfl (by decide) ?_
      exact lw_fits sa xa h h2 na pa ia ba ho fa ga na3 pa3 na4 pa4 ma tr xt xl xn xs xk xv ro te ch pr sl mu wi ak he li ro2 te2 ch2 pr2 sl2 mu2 wi2 ak2 he2 li2 day hm tk py db kn rot sad sS kp0 kp1 ln wh lk hh bt wy rc op fr gr day3 hm3 tk3 py3 db3 kn3 rot3 sad3 sS3 day4 hm4 tk4 py4 db4 kn4 rot4 sad4 sS4 at0 bg tk0 td rd hs un rs be bp gp wa so kp F hq e1 r1 hI hk H locs hP hD hS ls hl
    · refine z_tableIn (tgt := 768) hx hb 25 h99 ⟨by decide, by decide⟩ dL_law_32 (by decide) (by decide) rfl (by decide) ?_
      exact lw_may sa xa h h2 na pa ia ba ho fa ga na3 pa3 na4 pa4 ma tr xt xl xn xs xk xv ro te ch pr sl mu wi ak he li ro2 te2 ch2 pr2 sl2 mu2 wi2 ak2 he2 li2 day hm tk py db kn rot sad sS kp0 kp1 ln wh lk hh bt wy rc op fr gr day3 hm3 tk3 py3 db3 kn3 rot3 sad3 sS3 day4 hm4 tk4 py4 db4 kn4 rot4 sad4 sS4 at0 bg tk0 td rd hs un rs be bp gp wa so kp F hq e1 r1 hI hk H locs hP hD hS ls hl
    · refine z_tableIn (tgt := 791) hx hb 26 h99 ⟨by decide, by decide⟩ dL_law_32 (by decide) (by decide) rfl (by decide) ?_
      exact lw_mark sa xa h h2 na pa ia ba ho fa ga na3 pa3 na4 pa4 ma tr xt xl xn xs xk xv ro te ch pr sl mu wi ak he li ro2 te2 ch2 pr2 sl2 mu2 wi2 ak2 he2 li2 day hm tk py db kn rot sad sS kp0 kp1 ln wh lk hh bt wy rc op fr gr day3 hm3 tk3 py3 db3 kn3 rot3 sad3 sS3 day4 hm4 tk4 py4 db4 kn4 rot4 sad4 sS4 at0 bg tk0 td rd hs un rs be bp gp wa so kp F hq e1 r1 e2 r2 hI hk H locs hP hD hS ls hl
    · refine z_tableIn (tgt := 824) hx hb 27 h99 ⟨by decide, by decide⟩ dL_law_32 (by decide) (by decide) rfl (by decide) ?_
      exact lw_keep sa xa h h2 na pa ia ba ho fa ga na3 pa3 na4 pa4 ma tr xt xl xn xs xk xv ro te ch pr sl mu wi ak he li ro2 te2 ch2 pr2 sl2 mu2 wi2 ak2 he2 li2 day hm tk py db kn rot sad sS kp0 kp1 ln wh lk hh bt wy rc op fr gr day3 hm3 tk3 py3 db3 kn3 rot3 sad3 sS3 day4 hm4 tk4 py4 db4 kn4 rot4 sad4 sS4 at0 bg tk0 td rd hs un rs be bp gp wa so kp F hq e1 r1 hI hk H locs hP hD hS ls hl
    · refine z_tableIn (tgt := 847) hx hb 28 h99 ⟨by decide, by decide⟩ dL_law_32 (by decide) (by decide) rfl (by decide) ?_
      exact lw_back sa xa h h2 na pa ia ba ho fa ga na3 pa3 na4 pa4 ma tr xt xl xn xs xk xv ro te ch pr sl mu wi ak he li ro2 te2 ch2 pr2 sl2 mu2 wi2 ak2 he2 li2 day hm tk py db kn rot sad sS kp0 kp1 ln wh lk hh bt wy rc op fr gr day3 hm3 tk3 py3 db3 kn3 rot3 sad3 sS3 day4 hm4 tk4 py4 db4 kn4 rot4 sad4 sS4 at0 bg tk0 td rd hs un rs be bp gp wa so kp F hq e1 r1 hI hk H locs hP hD hS ls hl
    · refine z_tableIn (tgt := 870) hx hb 29 h99 ⟨by decide, by decide⟩ dL_law_32 (by decide) (by decide) rfl (by decide) ?_
      exact lw_count sa xa h h2 na pa ia ba ho fa ga na3 pa3 na4 pa4 ma tr xt xl xn xs xk xv ro te ch pr sl mu wi ak he li ro2 te2 ch2 pr2 sl2 mu2 wi2 ak2 he2 li2 day hm tk py db kn rot sad sS kp0 kp1 ln wh lk hh bt wy rc op fr gr day3 hm3 tk3 py3 db3 kn3 rot3 sad3 sS3 day4 hm4 tk4 py4 db4 kn4 rot4 sad4 sS4 at0 bg tk0 td rd hs un rs be bp gp wa so kp F hq e1 r1 hI hk H locs hP hD hS ls hl
    · refine z_tableIn (tgt := 893) hx hb 30 h99 ⟨by decide, by decide⟩ dL_law_32 (by decide) (by decide) rfl (by decide) ?_
      exact lw_trace sa xa h h2 na pa ia ba ho fa ga na3 pa3 na4 pa4 ma tr xt xl xn xs xk xv ro te ch pr sl mu wi ak he li ro2 te2 ch2 pr2 sl2 mu2 wi2 ak2 he2 li2 day hm tk py db kn rot sad sS kp0 kp1 ln wh lk hh bt wy rc op fr gr day3 hm3 tk3 py3 db3 kn3 rot3 sad3 sS3 day4 hm4 tk4 py4 db4 kn4 rot4 sad4 sS4 at0 bg tk0 td rd hs un rs be bp gp wa so kp F hq hI hk H locs hP hD hS ls hl
    · refine z_tableOut (tgt := 907) hx hb ⟨by omega, by omega⟩ dL_law_32 (Or.inr (by omega)) (by decide) ?_
      refine z_iinc (r := ((4 * (q + 1) : Nat) : Int)) (lv' := [(3, .int (zI ((4 * (q + 1) : Nat) : Int))), (0, .ref b), (1, .ref (sa 0)), (2, .ref (ma 0))]) hx hb (by omega) dL_law_907 hl (k := 0) rfl (by decide) rfl (fun ls hl => ?_)
      refine lv_goto (tgt := 18) hx hb dL_law_910 (by decide) ?_
      refine hk sa xa h h2 na pa ia ba ho fa ga na3 pa3 na4 pa4 ma tr xt xl xn xs xk xv ro te ch pr sl mu wi ak he li ro2 te2 ch2 pr2 sl2 mu2 wi2 ak2 he2 li2 day hm tk py db kn rot sad sS kp0 kp1 ln wh lk hh bt wy rc op fr gr day3 hm3 tk3 py3 db3 kn3 rot3 sad3 sS3 day4 hm4 tk4 py4 db4 kn4 rot4 sad4 sS4 at0 bg tk0 td rd hs un rs be bp gp wa so kp ?_ H locs hP hD hS ls hl
      obtain ⟨hq64, h1, h2, h3, h4, h5, h6, h7, h8, h9, h10⟩ := hI
      exact ⟨by omega, h1, h2, h3, h4.mono, h5.mono, h6.mono, h7.mono, h8, h9, h10⟩
