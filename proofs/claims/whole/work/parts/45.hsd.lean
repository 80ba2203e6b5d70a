/-! the model's search finds what the class's table holds -/
theorem and_or2 {a k r : Nat} (hr : r < 6) (ha : a < 64) (hk : k < 64) : (a &&& (k ||| 2 ^ r) = 0) ↔ (a &&& k = 0 ∧ (a >>> r) &&& 1 = 0) := by
  rw [Nat.and_comm, or2_and r hr k hk a ha, Nat.and_comm]
theorem Vt_row {pr sl mu : Nat → Int} {ro te : Nat} (hp : ∀ i, 0 ≤ pr i ∧ pr i ≤ 24) (hro : ro ≤ 6) : ∀ j k y, k < 64 → y < (ro + 1) ^ j → Vt pr sl mu ro te j k y = if fok pr sl mu ro te y j = 1 ∧ fme ro y j &&& k = 0 then 1000 * ((fmn ro y j : Nat) : Int) + fpr pr ro y j else -1
  | 0, k, y, _, _ => by
    exact ((if_pos (show fok pr sl mu ro te y 0 = 1 ∧ fme ro y 0 &&& k = 0 from ⟨rfl, Nat.zero_and k⟩)).trans (show 1000 * ((fmn ro y 0 : Nat) : Int) + fpr pr ro y 0 = Vt pr sl mu ro te 0 k y from rfl)).symm
  | j + 1, k, y, hk, hy => by
    have hB : 0 < (ro + 1) ^ j := Nat.pow_pos (by omega)
    have hz : y % (ro + 1) ^ j < (ro + 1) ^ j := Nat.mod_lt _ hB
    have hg : ∀ i, i < j → dg (ro + 1) (y % (ro + 1) ^ j) i = dg (ro + 1) y i := fun i hi => dg_mod hi
    have ht := dg_top hy
    have e1 := fok_c (pr := pr) (sl := sl) (mu := mu) (te := te) j hg
    have e2 := fme_c j hg
    have e3 := fmn_c j hg
    have e4 := fpr_c (pr := pr) j hg
    have ha := fme_lt hro y j
    have h01 := fok_01 pr sl mu ro te y j
    have hfp := fpr_in hp ro y j
    have hst : te - 1 - j = te - (j + 1) := by omega
    have u1 : fok pr sl mu ro te y (j + 1) = if dg (ro + 1) y j < ro then (if cT pr sl mu (te - (j + 1)) (fme ro y j) (dg (ro + 1) y j) then fok pr sl mu ro te y j else 0) else fok pr sl mu ro te y j := by rw [← hst]; rfl
    have u2 : fme ro y (j + 1) = if dg (ro + 1) y j < ro then fme ro y j ||| 2 ^ dg (ro + 1) y j else fme ro y j := rfl
    have u3 : fmn ro y (j + 1) = if dg (ro + 1) y j < ro then fmn ro y j + 1 else fmn ro y j := rfl
    have u4 : fpr pr ro y (j + 1) = if dg (ro + 1) y j < ro then fpr pr ro y j + pr (dg (ro + 1) y j) else fpr pr ro y j := rfl
    rw [u1, u2, u3, u4, ht]
    unfold Vt
    generalize hr : y / (ro + 1) ^ j = r at *
    by_cases h : r < ro
    · rw [if_pos h, if_pos h, if_pos h, if_pos h, if_pos h]
      have hpw := pow_le32 r (by omega)
      rw [Vt_row hp hro j (k ||| 2 ^ r) _ (or_lt64 hk (by omega)) hz, e1, e2, e3, e4]
      have i1 := and_or2 (r := r) (by omega) ha hk
      have i2 := or2_and r (by omega) _ ha k hk
      have hpr := hp r
      by_cases c1 : (k >>> r) &&& 1 = 0 <;> by_cases c2 : pr r ≤ 24 - sl (te - (j + 1)) - mu (te - (j + 1)) <;> by_cases c3 : fme ro y j >>> r &&& 1 = 0 <;> by_cases c4 : fme ro y j &&& k = 0 <;> by_cases c5 : fok pr sl mu ro te y j = 1 <;> simp only [cT, c1, c2, c3, c4, c5, i1, i2, and_self, and_true, true_and, and_false, false_and, if_true, if_false, Nat.zero_ne_one, reduceCtorEq] <;> (repeat' split) <;> omega
    · rw [if_neg h, if_neg h, if_neg h, if_neg h, if_neg h, Vt_row hp hro j k _ hk hz, e1, e2, e3, e4]
section HSD
variable {pr sl mu rs : Nat → Int} {ro te : Nat}
theorem U_eq (hp : ∀ i, 0 ≤ pr i ∧ pr i ≤ 24) (hro : ro ≤ 6) {x : Nat} (hx : x < (ro + 1) ^ te) : Vt pr sl mu ro te te 0 x = if fok pr sl mu ro te x te = 1 then 1000 * ((fmn ro x te : Nat) : Int) + fpr pr ro x te else -1 := by
  rw [Vt_row hp hro te 0 x (by decide) hx]
  by_cases h : fok pr sl mu ro te x te = 1
  · rw [if_pos ⟨h, Nat.and_zero _⟩, if_pos h]
  · rw [if_neg (fun q => h q.1), if_neg h]
theorem fnS_sp (hp : ∀ i, 0 ≤ pr i ∧ pr i ≤ 24) (hro : ro ≤ 6) (hte : te ≤ 6) : ∀ n, n ≤ (ro + 1) ^ te → ((∀ x, x < n → Vt pr sl mu ro te te 0 x < 0) ∧ fnS pr sl mu ro te rs n = ((-1, 0), rs)) ∨ (∃ a r0, a < n ∧ 0 ≤ Vt pr sl mu ro te te 0 a ∧ fnS pr sl mu ro te rs n = ((((fmn ro a te : Nat) : Int), fpr pr ro a te), rsD ro te a r0 te) ∧ (∀ x, x < a → Vt pr sl mu ro te te 0 x < Vt pr sl mu ro te te 0 a) ∧ ∀ x, x < n → Vt pr sl mu ro te te 0 x ≤ Vt pr sl mu ro te te 0 a)
  | 0, _ => Or.inl ⟨fun x h => absurd h (Nat.not_lt_zero _), rfl⟩
  | n + 1, hn => by
    have ih := fnS_sp hp hro hte n (by omega)
    have hU := U_eq (pr := pr) (sl := sl) (mu := mu) (te := te) hp hro (x := n) (by omega)
    have hfp := fpr_in hp ro n te
    by_cases hC : fok pr sl mu ro te n te = 1 ∧ ((fnS pr sl mu ro te rs n).1.1 < ((fmn ro n te : Nat) : Int) ∨ (((fmn ro n te : Nat) : Int) = (fnS pr sl mu ro te rs n).1.1 ∧ (fnS pr sl mu ro te rs n).1.2 < fpr pr ro n te))
    · refine Or.inr ⟨n, (fnS pr sl mu ro te rs n).2, by omega, ?_, fnS_y hC, ?_, ?_⟩
      · rw [hU, if_pos hC.1]; omega
      · intro x hx
        rcases ih with ⟨h1, h2⟩ | ⟨a, r0, h1, h2, h3, h4, h5⟩
        · have := h1 x hx
          rw [hU, if_pos hC.1]; omega
        · have h6 := h5 x hx
          have hC2 := hC.2
          rw [h3] at hC2
          have hUa := U_eq (pr := pr) (sl := sl) (mu := mu) (te := te) hp hro (x := a) (by omega)
          have hfa := fpr_in hp ro a te
          have hC3 : ((fmn ro a te : Nat) : Int) < ((fmn ro n te : Nat) : Int) ∨ (((fmn ro n te : Nat) : Int) = ((fmn ro a te : Nat) : Int) ∧ fpr pr ro a te < fpr pr ro n te) := hC2
          rw [hU, if_pos hC.1]
          split at hUa <;> omega
      · intro x hx
        by_cases e : x = n
        · rw [e]; exact Int.le_refl _
        · rcases ih with ⟨h1, h2⟩ | ⟨a, r0, h1, h2, h3, h4, h5⟩
          · have := h1 x (by omega)
            rw [hU, if_pos hC.1]; omega
          · have h6 := h5 x (by omega)
            have hC2 := hC.2
            rw [h3] at hC2
            have hUa := U_eq (pr := pr) (sl := sl) (mu := mu) (te := te) hp hro (x := a) (by omega)
            have hfa := fpr_in hp ro a te
            have hC3 : ((fmn ro a te : Nat) : Int) < ((fmn ro n te : Nat) : Int) ∨ (((fmn ro n te : Nat) : Int) = ((fmn ro a te : Nat) : Int) ∧ fpr pr ro a te < fpr pr ro n te) := hC2
            rw [hU, if_pos hC.1]
            split at hUa <;> omega
    · rw [fnS_n hC]
      rcases ih with ⟨h1, h2⟩ | ⟨a, r0, h1, h2, h3, h4, h5⟩
      · refine Or.inl ⟨fun x hx => ?_, h2⟩
        by_cases e : x = n
        · subst e
          rw [h2] at hC
          have hC3 : ¬ (fok pr sl mu ro te x te = 1 ∧ ((-1 : Int) < ((fmn ro x te : Nat) : Int) ∨ (((fmn ro x te : Nat) : Int) = (-1 : Int) ∧ (0 : Int) < fpr pr ro x te))) := hC
          rw [hU]
          split <;> omega
        · exact h1 x (by omega)
      · refine Or.inr ⟨a, r0, by omega, h2, h3, h4, fun x hx => ?_⟩
        by_cases e : x = n
        · subst e
          rw [h3] at hC
          have hUa := U_eq (pr := pr) (sl := sl) (mu := mu) (te := te) hp hro (x := a) (by omega)
          have hfa := fpr_in hp ro a te
          have hC3 : ¬ (fok pr sl mu ro te x te = 1 ∧ (((fmn ro a te : Nat) : Int) < ((fmn ro x te : Nat) : Int) ∨ (((fmn ro x te : Nat) : Int) = ((fmn ro a te : Nat) : Int) ∧ fpr pr ro a te < fpr pr ro x te))) := hC
          rw [hU]
          split at hUa <;> split <;> omega
        · exact h5 x (by omega)
theorem fnS_top (hp : ∀ i, 0 ≤ pr i ∧ pr i ≤ 24) (hro : ro ≤ 6) (hte : te ≤ 6) : ∃ r0, fnS pr sl mu ro te rs ((ro + 1) ^ te) = ((((fmn ro (gdy pr sl mu ro te te 0) te : Nat) : Int), fpr pr ro (gdy pr sl mu ro te te 0) te), rsD ro te (gdy pr sl mu ro te te 0) r0 te) := by
  have hl := gdy_lt (pr := pr) (sl := sl) (mu := mu) (ro := ro) (te := te) te 0
  have hV := gdy_V (sl := sl) (mu := mu) (ro := ro) (te := te) hp te 0
  have h0 := dpt_0 (sl := sl) (mu := mu) (ro := ro) (te := te) hp te 0
  rcases fnS_sp (sl := sl) (mu := mu) (rs := rs) hp hro hte _ (Nat.le_refl _) with ⟨h1, h2⟩ | ⟨a, r0, h1, h2, h3, h4, h5⟩
  · have := h1 _ hl
    omega
  · have g1 := h5 _ hl
    have g2 := Vt_le (sl := sl) (mu := mu) (te := te) hp te 0 a h1
    have e : a = gdy pr sl mu ro te te 0 := by
      rcases Nat.lt_trichotomy a (gdy pr sl mu ro te te 0) with h | h | h
      · have := gdy_f hp te 0 a h
        omega
      · exact h
      · have := h4 _ h
        omega
    rw [e] at h3
    exact ⟨r0, h3⟩
theorem rsD_at (x : Nat) (r0 : Nat → Int) : ∀ j t, j ≤ te → t < te → te - 1 - t < j → rsD ro te x r0 j t = if dg (ro + 1) x (te - 1 - t) = ro then -9 else ((dg (ro + 1) x (te - 1 - t) : Nat) : Int)
  | 0, t, _, _, h => absurd h (Nat.not_lt_zero _)
  | j + 1, t, hj, ht, h => by
    show va_up (rsD ro te x r0 j) (te - 1 - j) _ t = _
    by_cases e : t = te - 1 - j
    · have e2 : te - 1 - t = j := by omega
      rw [← e, up_s, e2]
    · rw [up_n e]
      exact rsD_at x r0 j t (by omega) ht (by omega)
theorem gdy_dg : ∀ t, t ≤ te → gdy pr sl mu ro te te 0 % (ro + 1) ^ (te - t) = gdy pr sl mu ro te (te - t) (tkn pr sl mu ro te t)
  | 0, _ => Nat.mod_eq_of_lt (gdy_lt te 0)
  | t + 1, h => by
    obtain ⟨j, hj⟩ : ∃ j, te - t = j + 1 := ⟨te - t - 1, by omega⟩
    have ih := gdy_dg t (by omega)
    rw [hj] at ih
    have ej : te - (t + 1) = j := by omega
    rw [ej, ← Nat.mod_mod_of_dvd (gdy pr sl mu ro te te 0) (show (ro + 1) ^ j ∣ (ro + 1) ^ (j + 1) from ⟨ro + 1, by rw [Nat.pow_succ]⟩), ih]
    have ec : fbc pr sl mu ro te j (tkn pr sl mu ro te t) = chs pr sl mu ro te t := by
      unfold fbc chs
      rw [ej, hj, show te - (j + 1) = t from by omega]
    rw [tkn_s]
    by_cases h9 : chs pr sl mu ro te t = -9
    · rw [if_pos h9]
      show (if fbc pr sl mu ro te j (tkn pr sl mu ro te t) = -9 then _ else _) % _ = _
      rw [ec, if_pos h9]
      exact (dm (gdy_lt j _)).2
    · rw [if_neg h9]
      show (if fbc pr sl mu ro te j (tkn pr sl mu ro te t) = -9 then _ else _) % _ = _
      rw [ec, if_neg h9]
      exact (dm (gdy_lt j _)).2
theorem gdy_d {t : Nat} (ht : t < te) : dg (ro + 1) (gdy pr sl mu ro te te 0) (te - 1 - t) = if chs pr sl mu ro te t = -9 then ro else (chs pr sl mu ro te t).toNat := by
  obtain ⟨j, hj⟩ : ∃ j, te - t = j + 1 := ⟨te - t - 1, by omega⟩
  have ih := gdy_dg (pr := pr) (sl := sl) (mu := mu) (ro := ro) (te := te) t (by omega)
  rw [hj] at ih
  have ej : te - 1 - t = j := by omega
  have ej2 : te - (t + 1) = j := by omega
  rw [ej, ← dg_mod (show j < j + 1 by omega), ih, dg_top (gdy_lt (j + 1) _)]
  have ec : fbc pr sl mu ro te j (tkn pr sl mu ro te t) = chs pr sl mu ro te t := by
    unfold fbc chs
    rw [ej2, hj, show te - (j + 1) = t from by omega]
  show (if fbc pr sl mu ro te j (tkn pr sl mu ro te t) = -9 then _ else _) / _ = _
  rw [ec]
  by_cases h9 : chs pr sl mu ro te t = -9
  · rw [if_pos h9, if_pos h9]
    exact (dm (gdy_lt j _)).1
  · rw [if_neg h9, if_neg h9]
    exact (dm (gdy_lt j _)).1
theorem housed_all {hh : Nat → Int} (hp : ∀ i, 0 ≤ pr i ∧ pr i ≤ 24) (hro : ro ≤ 6) (hte : te ≤ 6) :
    (fnS pr sl mu ro te rs ((ro + 1) ^ te)).1.1 = ((cnt (fun t => decide (¬ slvH hh pr sl mu ro te te t = -9)) te : Nat) : Int) ∧
    (fnS pr sl mu ro te rs ((ro + 1) ^ te)).1.2 = sumI (fun t => if 0 ≤ slvH hh pr sl mu ro te te t ∧ slvH hh pr sl mu ro te te t < (ro : Int) then pr (slvH hh pr sl mu ro te te t).toNat else 0) te ∧
    ∀ t, t < te → (fnS pr sl mu ro te rs ((ro + 1) ^ te)).2 t = slvH hh pr sl mu ro te te t := by
  obtain ⟨r0, h⟩ := fnS_top (sl := sl) (mu := mu) (rs := rs) hp hro hte
  rw [h]
  refine ⟨?_, ?_, ?_⟩
  · show ((fmn ro (gdy pr sl mu ro te te 0) te : Nat) : Int) = _
    rw [fmn_sumI, cnt_sumI, ← sumI_rev]
    refine sumI_ext (fun t ht => ?_)
    rw [gdy_d ht]
    have hc := chs_in pr sl mu ro te t
    have es : slvH hh pr sl mu ro te te t = chs pr sl mu ro te t := if_pos ht
    rw [es]
    by_cases h9 : chs pr sl mu ro te t = -9
    · rw [if_pos h9, if_neg (Nat.lt_irrefl _), if_neg (by simp [h9])]
    · rw [if_neg h9, if_pos (by omega), if_pos (by simp [h9])]
  · show fpr pr ro (gdy pr sl mu ro te te 0) te = _
    rw [fpr_sumI, ← sumI_rev]
    refine sumI_ext (fun t ht => ?_)
    rw [gdy_d ht]
    have hc := chs_in pr sl mu ro te t
    have es : slvH hh pr sl mu ro te te t = chs pr sl mu ro te t := if_pos ht
    rw [es]
    by_cases h9 : chs pr sl mu ro te t = -9
    · rw [if_pos h9, if_neg (Nat.lt_irrefl _), if_neg (by omega)]
    · rw [if_neg h9, if_pos (by omega), if_pos (by omega)]
  · intro t ht
    show rsD ro te (gdy pr sl mu ro te te 0) r0 te t = _
    rw [rsD_at _ _ te t (Nat.le_refl _) ht (by omega), gdy_d ht]
    have hc := chs_in pr sl mu ro te t
    have es : slvH hh pr sl mu ro te te t = chs pr sl mu ro te t := if_pos ht
    rw [es]
    by_cases h9 : chs pr sl mu ro te t = -9
    · rw [if_pos h9, if_pos rfl, h9]
    · rw [if_neg h9, if_neg (by omega)]
      omega
end HSD
