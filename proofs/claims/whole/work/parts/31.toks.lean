/-! the model's tokens are the class's -/
theorem nv_s (f : Nat → Int) (s j : Nat) : nv f s (j + 1) = if 99 < nv f s j then nv f s j else 10 * nv f s j + f (s + j) - 48 := rfl
theorem nv_big {f : Nat → Int} {s : Nat} (h0 : 49 ≤ f s) (hd : ∀ k, s ≤ k → k < s + 3 → 48 ≤ f k ∧ f k ≤ 57) : ∀ j, 99 < nv f s (j + 3)
  | 0 => by
    have h1 := hd (s + 1) (by omega) (by omega)
    have h2 := hd (s + 2) (by omega) (by omega)
    have a0 : nv f s 0 = 0 := rfl
    have a1 := nv_s f s 0
    have a2 := nv_s f s 1
    have a3 := nv_s f s 2
    have e0 : f (s + 0) = f s := rfl
    have hs0 := hd s (by omega) (by omega)
    rw [a0, if_neg (by omega)] at a1
    have b1 : nv f s 1 = f s - 48 := by rw [a1]; omega
    have b2 : nv f s 2 = 10 * nv f s 1 + f (s + 1) - 48 := by rw [a2, if_neg (by omega)]
    show 99 < nv f s (2 + 1)
    rw [a3]
    split
    · assumption
    · omega
  | j + 1 => by
    have ih := nv_big h0 hd j
    show 99 < nv f s ((j + 3) + 1)
    rw [nv_s, if_pos ih]
    exact ih
theorem mNt_eq {f : Nat → Int} {L s : Nat} (hs : s < L) (hk : kd (f s) = 2) : mNt f L s = (if 2 < eS f L s - s ∨ (eS f L s - s = 2 ∧ f s = 48) then 4 else 2) ∧ (¬ (2 < eS f L s - s ∨ (eS f L s - s = 2 ∧ f s = 48)) → nv f s (eS f L s - s) = if eS f L s - s = 2 then (f s - 48) * 10 + f (s + 1) - 48 else f s - 48) := by
  have he := eS_le f hs
  have hd := eS_dig hs hk
  have h0 := hd s (by omega) (by omega)
  generalize hj : eS f L s - s = j at *
  have a0 : nv f s 0 = 0 := rfl
  have a1 := nv_s f s 0
  have e0 : f (s + 0) = f s := rfl
  rw [a0, if_neg (by omega)] at a1
  have a1 : nv f s 1 = f s - 48 := by rw [a1]; omega
  have a2 := nv_s f s 1
  rw [a1, if_neg (by omega)] at a2
  have a2 : nv f s 2 = 10 * (f s - 48) + f (s + 1) - 48 := a2
  unfold mNt
  rw [hj]
  rcases (show j = 1 ∨ j = 2 ∨ 3 ≤ j from by omega) with h | h | h
  · subst h
    rw [a1]
    constructor
    · rw [if_neg (by omega), if_neg (by omega)]
    · intro _; rw [if_neg (by omega)]
  · subst h
    have h1 := hd (s + 1) (by omega) (by omega)
    rw [a2]
    constructor
    · by_cases e : f s = 48
      · rw [if_pos (by omega), if_pos (by omega)]
      · rw [if_neg (by omega), if_neg (by omega)]
    · intro _; rw [if_pos rfl]; omega
  · constructor
    · rw [if_pos (show 2 < j ∨ (j = 2 ∧ f s = 48) from Or.inl (by omega))]
      by_cases e : f s = 48
      · rw [if_pos (Or.inr ⟨by omega, e⟩)]
      · have hb := nv_big (f := f) (s := s) (by omega) (fun k h1 h2 => hd k h1 (by omega)) (j - 3)
        rw [show j - 3 + 3 = j from by omega] at hb
        rw [if_pos (Or.inl hb)]
    · intro h9; omega
theorem mK_eq {f : Nat → Int} {L n : Nat} (v : Int) : mK f L n = if kT f L n = 1 then (if vT f L n v = 114 ∨ vT f L n v = 116 ∨ vT f L n v = 104 ∨ vT f L n v = 99 then 1 else 4) else kT f L n := by
  unfold mK kT vT
  by_cases hs : sT f L n < L
  · rw [if_pos hs, if_pos hs, if_pos hs]
    by_cases h1 : kd (f (sT f L n)) = 1
    · have hks : kS f L (sT f L n) = 1 := by unfold kS; rw [if_neg (by omega)]; exact h1
      rw [if_pos h1, if_pos hks]
      unfold mLt vS
      rw [if_pos h1]
      by_cases he : eS f L (sT f L n) - sT f L n = 1
      · rw [if_pos he]
        by_cases hv : f (sT f L n) = 114 ∨ f (sT f L n) = 116 ∨ f (sT f L n) = 104 ∨ f (sT f L n) = 99
        · rw [if_pos ⟨he, hv⟩, if_pos hv]
        · rw [if_neg (fun h => hv h.2), if_neg hv]
      · rw [if_neg he, if_neg (fun h => he h.1), if_neg (by omega)]
    · rw [if_neg h1]
      by_cases h2 : kd (f (sT f L n)) = 2
      · have hm := (mNt_eq hs h2).1
        have hks : kS f L (sT f L n) = mNt f L (sT f L n) := by unfold kS; rw [if_pos h2, hm]
        rw [if_pos h2, hks]
        have : ¬ mNt f L (sT f L n) = 1 := by rw [hm]; split <;> omega
        rw [if_neg this]
      · have hks : kS f L (sT f L n) = kd (f (sT f L n)) := by unfold kS; rw [if_neg h2]
        rw [if_neg h2, hks, if_neg h1]
  · rw [if_neg hs, if_neg hs, if_neg (by decide)]
theorem mD_eq {f : Nat → Int} {L n : Nat} (v d : Int) (h : kT f L n = 2) : mD f L n d = vT f L n v := by
  unfold kT at h
  unfold mD vT
  by_cases hs : sT f L n < L
  · rw [if_pos hs] at h ⊢
    rw [if_pos hs]
    unfold kS at h
    by_cases h2 : kd (f (sT f L n)) = 2
    · rw [if_pos h2] at h
      by_cases hb : 2 < eS f L (sT f L n) - sT f L n ∨ (eS f L (sT f L n) - sT f L n = 2 ∧ f (sT f L n) = 48)
      · rw [if_pos hb] at h; omega
      · unfold vS
        rw [if_neg (by omega), if_pos h2, if_neg (by omega), if_pos h2, if_neg hb]
        exact (mNt_eq hs h2).2 hb
    · rw [if_neg h2] at h; exact absurd h h2
  · rw [if_neg hs] at h; omega
theorem mD_eq1 {f : Nat → Int} {L n : Nat} (v d : Int) (h : kT f L n = 1) (hv : ¬ vT f L n v = 0) : mD f L n d = vT f L n v := by
  unfold kT at h
  unfold vT at hv ⊢
  unfold mD
  by_cases hs : sT f L n < L
  · rw [if_pos hs] at h hv ⊢
    rw [if_pos hs]
    have h1 : kd (f (sT f L n)) = 1 := by
      unfold kS at h
      by_cases h2 : kd (f (sT f L n)) = 2
      · rw [if_pos h2] at h; split at h <;> omega
      · rw [if_neg h2] at h; exact h
    unfold vS at hv ⊢
    rw [if_pos h1] at hv ⊢
    rw [if_pos h1]
    by_cases he : eS f L (sT f L n) - sT f L n = 1
    · rw [if_pos he]
    · rw [if_neg he] at hv; omega
  · rw [if_neg hs] at h; omega
theorem mN_eq {f : Nat → Int} {L n : Nat} (h : ¬ kT f L n = 4) : mN f L n = nT f L n := by
  unfold kT at h
  unfold mN nT
  by_cases hs : sT f L n < L
  · rw [if_pos hs] at h
    rw [if_pos hs, if_pos hs]
    have : ¬ kd (f (sT f L n)) = 4 := by
      intro h4
      apply h
      unfold kS
      rw [if_neg (by omega)]
      exact h4
    rw [if_neg this]
  · rw [if_neg hs, if_neg hs]
theorem mN_le (f : Nat → Int) {L n : Nat} (h : n ≤ L) : n ≤ mN f L n ∧ mN f L n ≤ L := by
  have h1 := sT_le f h
  unfold mN
  split
  · split
    · exact h1
    · have := eS_le f (show sT f L n < L by omega); omega
  · exact h1
