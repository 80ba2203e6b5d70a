/-! which rooms he may have: the model's rows and the class's reached sets -/
theorem ors_tb (f : Nat → Nat) (r : Nat) : ∀ n, (ors f n).testBit r = true ↔ ∃ k, k < n ∧ (f k).testBit r = true
  | 0 => ⟨fun h => by have h2 : Nat.testBit 0 r = true := h; simp at h2, fun ⟨k, hk, _⟩ => absurd hk (Nat.not_lt_zero _)⟩
  | n + 1 => by
    have ih := ors_tb f r n
    have e : ors f (n + 1) = ors f n ||| f n := rfl
    rw [e, Nat.testBit_or, Bool.or_eq_true, ih]
    constructor
    · rintro (⟨k, hk, h⟩ | h)
      · exact ⟨k, by omega, h⟩
      · exact ⟨n, by omega, h⟩
    · rintro ⟨k, hk, h⟩
      by_cases ek : k = n
      · subst ek; exact Or.inr h
      · exact Or.inl ⟨k, by omega, h⟩
/-- what t tenants can have taken -/
def RC (op : Nat → Nat) (ro : Nat) : Nat → Nat → Prop
  | 0, k => k = 0
  | t + 1, k' => ∃ k r, RC op ro t k ∧ r < ro ∧ cF op t k r ∧ k' = k ||| 2 ^ r
section MY
variable {op : Nat → Nat} {ro te : Nat}
theorem RC_in (hro : ro ≤ 6) : ∀ t k, RC op ro t k → k < 2 ^ ro ∧ popc k = t
  | 0, k, h => by
    have h0 : k = 0 := h
    subst h0
    exact ⟨Nat.two_pow_pos ro, popc_0⟩
  | t + 1, k', h => by
    obtain ⟨k, r, h1, h2, h3, h4⟩ := h
    have ih := RC_in hro t k h1
    have hp := cF_pop hro ih.1 h2 h3
    subst h4
    exact ⟨hp.2.1, by omega⟩
theorem rcf_sp {rc : Nat → Int} {o k : Nat} (j : Nat) : ∀ n, (¬ rcf rc o k n j = 0) ↔ ((¬ rc j = 0) ∨ ∃ r, r < n ∧ (¬ (ndiff o k >>> r) &&& 1 = 0) ∧ j = k ||| 2 ^ r)
  | 0 => ⟨fun h => Or.inl h, fun h => by
    rcases h with h | ⟨r, hr, _⟩
    · exact h
    · exact absurd hr (Nat.not_lt_zero _)⟩
  | n + 1 => by
    have ih := rcf_sp (rc := rc) (o := o) (k := k) j n
    have e : rcf rc o k (n + 1) = if (ndiff o k >>> n) &&& 1 = 0 then rcf rc o k n else va_up (rcf rc o k n) (k ||| 2 ^ n) 1 := rfl
    rw [e]
    by_cases hb : (ndiff o k >>> n) &&& 1 = 0
    · rw [if_pos hb, ih]
      constructor
      · rintro (h | ⟨r, hr, h⟩)
        · exact Or.inl h
        · exact Or.inr ⟨r, by omega, h⟩
      · rintro (h | ⟨r, hr, h1, h2⟩)
        · exact Or.inl h
        · by_cases er : r = n
          · subst er; exact absurd hb h1
          · exact Or.inr ⟨r, by omega, h1, h2⟩
    · rw [if_neg hb]
      by_cases ej : j = k ||| 2 ^ n
      · rw [← ej, up_s]
        exact ⟨fun _ => Or.inr ⟨n, by omega, hb, ej⟩, fun _ => by decide⟩
      · rw [up_n ej, ih]
        constructor
        · rintro (h | ⟨r, hr, h⟩)
          · exact Or.inl h
          · exact Or.inr ⟨r, by omega, h⟩
        · rintro (h | ⟨r, hr, h1, h2⟩)
          · exact Or.inl h
          · by_cases er : r = n
            · subst er; exact absurd h2 ej
            · exact Or.inr ⟨r, by omega, h1, h2⟩
theorem rcd_sp {rc : Nat → Int} (hro : ro ≤ 6) : ∀ n, n ≤ 2 ^ ro → ∀ k, k < 2 ^ ro → ((¬ rcd (slvR rc ro 0) op ro te n k = 0) ↔ (k = 0 ∨ ∃ k0 r, k0 < n ∧ RC op ro (popc k0) k0 ∧ popc k0 < te ∧ r < ro ∧ cF op (popc k0) k0 r ∧ k = k0 ||| 2 ^ r))
  | 0, _, k, hk => by
    show (¬ (if 0 ≤ k ∧ k < 2 ^ ro then (if k = 0 then (1 : Int) else 0) else rc k) = 0) ↔ _
    rw [if_pos ⟨Nat.zero_le _, hk⟩]
    constructor
    · intro h
      by_cases e : k = 0
      · exact Or.inl e
      · rw [if_neg e] at h; exact absurd rfl h
    · rintro (h | ⟨k0, r, h, _⟩)
      · rw [if_pos h]; decide
      · exact absurd h (Nat.not_lt_zero _)
  | n + 1, hn, k, hk => by
    have ih := rcd_sp (rc := rc) hro n (by omega)
    have ihk := ih k hk
    have ihn := ih n (by omega)
    rw [rcd_s]
    by_cases h0 : rcd (slvR rc ro 0) op ro te n n = 0
    · rw [if_pos h0, ihk]
      constructor
      · rintro (h | ⟨k0, r, h1, h2⟩)
        · exact Or.inl h
        · exact Or.inr ⟨k0, r, by omega, h2⟩
      · rintro (h | ⟨k0, r, h1, h2, h3, h4, h5, h6⟩)
        · exact Or.inl h
        · by_cases e : k0 = n
          · exfalso
            subst e
            apply (ihn.mpr ?_) h0
            rcases hpk : popc k0 with _ | t
            · rw [hpk] at h2
              exact Or.inl h2
            · rw [hpk] at h2
              obtain ⟨k1, r1, g1, g2, g3, g4⟩ := h2
              have hi := RC_in hro t k1 g1
              have hp := cF_pop hro hi.1 g2 g3
              exact Or.inr ⟨k1, r1, by rw [g4]; exact hp.2.2, by rw [hi.2]; exact g1, by omega, g2, by rw [hi.2]; exact g3, g4⟩
          · exact Or.inr ⟨k0, r, by omega, h2, h3, h4, h5, h6⟩
    · rw [if_neg h0]
      by_cases ht : te ≤ popc n
      · rw [if_pos ht, ihk]
        constructor
        · rintro (h | ⟨k0, r, h1, h2⟩)
          · exact Or.inl h
          · exact Or.inr ⟨k0, r, by omega, h2⟩
        · rintro (h | ⟨k0, r, h1, h2, h3, h4⟩)
          · exact Or.inl h
          · by_cases e : k0 = n
            · subst e; omega
            · exact Or.inr ⟨k0, r, by omega, h2, h3, h4⟩
      · rw [if_neg ht, rcf_sp k ro, ihk]
        have hRC : RC op ro (popc n) n := by
          rcases ihn.mp h0 with h | ⟨k0, r, h1, h2, h3, h4, h5, h6⟩
          · subst h; rw [popc_0]; rfl
          · have hi := RC_in hro _ k0 h2
            have hp := cF_pop hro hi.1 h4 h5
            rw [h6, hp.1]
            exact ⟨k0, r, h2, h4, h5, rfl⟩
        constructor
        · rintro ((h | ⟨k0, r, h1, h2⟩) | ⟨r, h1, h2, h3⟩)
          · exact Or.inl h
          · exact Or.inr ⟨k0, r, by omega, h2⟩
          · exact Or.inr ⟨n, r, by omega, hRC, by omega, h1, h2, h3⟩
        · rintro (h | ⟨k0, r, h1, h2, h3, h4, h5, h6⟩)
          · exact Or.inl (Or.inl h)
          · by_cases e : k0 = n
            · subst e; exact Or.inr ⟨r, h4, h5, h6⟩
            · exact Or.inl (Or.inr ⟨k0, r, by omega, h2, h3, h4, h5, h6⟩)
theorem rcd_RC {rc : Nat → Int} (hro : ro ≤ 6) {t k : Nat} (ht : t < te) (hk : k < 2 ^ ro) (hp : popc k = t) : (¬ rcd (slvR rc ro 0) op ro te (2 ^ ro) k = 0) ↔ RC op ro t k := by
  rw [rcd_sp hro _ (Nat.le_refl _) k hk]
  constructor
  · rintro (h | ⟨k0, r, h1, h2, h3, h4, h5, h6⟩)
    · subst h; rw [popc_0] at hp; subst hp; rfl
    · have hi := RC_in hro _ k0 h2
      have hq := cF_pop hro hi.1 h4 h5
      rw [h6, hq.1] at hp
      subst hp
      exact ⟨k0, r, h2, h4, h5, h6⟩
  · intro h
    cases t with
    | zero => exact Or.inl h
    | succ t =>
      obtain ⟨k0, r, h1, h2, h3, h4⟩ := h
      have hi := RC_in hro _ k0 h1
      exact Or.inr ⟨k0, r, by omega, by rw [hi.2]; exact h1, by omega, h2, by rw [hi.2]; exact h3, h4⟩
theorem Gt_s {j k y : Nat} (h : Gt op ro te (j + 1) k y = 1) : cF op (te - (j + 1)) k (y / ro ^ j) ∧ Gt op ro te j (k ||| 2 ^ (y / ro ^ j)) (y % ro ^ j) = 1 := by
  have e : Gt op ro te (j + 1) k y = if cF op (te - (j + 1)) k (y / ro ^ j) then Gt op ro te j (k ||| 2 ^ (y / ro ^ j)) (y % ro ^ j) else 0 := rfl
  rw [e] at h
  by_cases hc : cF op (te - (j + 1)) k (y / ro ^ j)
  · rw [if_pos hc] at h; exact ⟨hc, h⟩
  · rw [if_neg hc] at h; exact absurd h (by decide)
/-- a row that fits, from its first tenants on -/
theorem row_RC {x : Nat} (hx : x < ro ^ te) (hG : Gt op ro te te 0 x = 1) : ∀ t, t ≤ te → ∃ k, RC op ro t k ∧ Gt op ro te (te - t) k (x % ro ^ (te - t)) = 1
  | 0, _ => ⟨0, rfl, by rw [Nat.sub_zero, Nat.mod_eq_of_lt hx]; exact hG⟩
  | t + 1, h => by
    obtain ⟨j, hj⟩ : ∃ j, te - t = j + 1 := ⟨te - t - 1, by omega⟩
    obtain ⟨k, h1, h2⟩ := row_RC hx hG t (by omega)
    rw [hj] at h2
    have h3 := Gt_s h2
    have ej : te - (t + 1) = j := by omega
    have et : te - (j + 1) = t := by omega
    have hro0 : 0 < ro := by
      rcases Nat.eq_zero_or_pos ro with h | h
      · subst h; rw [Nat.zero_pow (by omega)] at hx; omega
      · exact h
    have hr : x % ro ^ (j + 1) / ro ^ j < ro := Nat.div_lt_of_lt_mul (by rw [← Nat.pow_succ]; exact Nat.mod_lt _ (Nat.pow_pos hro0))
    rw [et] at h3
    rw [ej]
    refine ⟨_, ⟨k, _, h1, hr, h3.1, rfl⟩, ?_⟩
    have h4 := h3.2
    rw [Nat.mod_mod_of_dvd x (show ro ^ j ∣ ro ^ (j + 1) from ⟨ro, by rw [Nat.pow_succ]⟩)] at h4
    exact h4
theorem RC_row : ∀ t k, t ≤ te → RC op ro t k → ∀ y, y < ro ^ (te - t) → Gt op ro te (te - t) k y = 1 → ∃ x, x < ro ^ te ∧ Gt op ro te te 0 x = 1 ∧ x % ro ^ (te - t) = y
  | 0, k, _, h, y, hy, hG => by
    have h0 : k = 0 := h
    subst h0
    rw [Nat.sub_zero] at hy hG ⊢
    exact ⟨y, hy, hG, Nat.mod_eq_of_lt hy⟩
  | t + 1, k', ht, h, y, hy, hG => by
    obtain ⟨k, r, h1, h2, h3, h4⟩ := h
    obtain ⟨j, hj⟩ : ∃ j, te - t = j + 1 := ⟨te - t - 1, by omega⟩
    have ej : te - (t + 1) = j := by omega
    have et : te - (j + 1) = t := by omega
    rw [ej] at hy hG ⊢
    have hd := dm (c := r) hy
    have hlt : r * ro ^ j + y < ro ^ (j + 1) := by
      have h3 : (r + 1) * ro ^ j ≤ ro * ro ^ j := Nat.mul_le_mul_right _ (by omega)
      have h5 : ro ^ (j + 1) = ro * ro ^ j := by rw [Nat.pow_succ, Nat.mul_comm]
      rw [Nat.add_mul, Nat.one_mul] at h3
      omega
    have hG2 : Gt op ro te (j + 1) k (r * ro ^ j + y) = 1 := by
      unfold Gt
      rw [hd.1, hd.2, et, if_pos h3, ← h4]
      exact hG
    have ih := RC_row t k (by omega) h1 (r * ro ^ j + y) (by rw [hj]; exact hlt) (by rw [hj]; exact hG2)
    obtain ⟨x, g1, g2, g3⟩ := ih
    rw [hj] at g3
    refine ⟨x, g1, g2, ?_⟩
    rw [← Nat.mod_mod_of_dvd x (show ro ^ j ∣ ro ^ (j + 1) from ⟨ro, by rw [Nat.pow_succ]⟩), g3, hd.2]
end MY
section MZ
variable {wh : Nat → Nat} {lk pr sl mu : Nat → Int} {ln ro te : Nat}
theorem soF_at (x : Nat) (s0 : Nat → Nat) : ∀ j t, j ≤ te → t < te → soF ro te x s0 j t = if te - 1 - t < j then s0 t ||| 2 ^ dg ro x (te - 1 - t) else s0 t
  | 0, t, _, _ => by rw [if_neg (Nat.not_lt_zero _)]; rfl
  | j + 1, t, hj, ht => by
    have ih := soF_at x s0 j t (by omega) ht
    show va_up (soF ro te x s0 j) (te - 1 - j) _ t = _
    by_cases e : t = te - 1 - j
    · have e2 : te - 1 - t = j := by omega
      rw [e2] at ih ⊢
      rw [← e, up_s, if_pos (by omega), ih, if_neg (Nat.lt_irrefl _)]
    · rw [up_n e, ih]
      by_cases h : te - 1 - t < j
      · rw [if_pos h, if_pos (by omega)]
      · rw [if_neg h, if_neg (by omega)]
theorem ftS_tb (so : Nat → Nat) {t r : Nat} (ht : t < te) : ∀ n, (ftS wh lk pr sl mu ln ro te so n t).testBit r = true ↔ ((so t).testBit r = true ∨ ∃ x, x < n ∧ gok wh lk pr sl mu ln ro te x te = 1 ∧ dg ro x (te - 1 - t) = r)
  | 0 => ⟨fun h => Or.inl h, fun h => by
    rcases h with h | ⟨x, hx, _⟩
    · exact h
    · exact absurd hx (Nat.not_lt_zero _)⟩
  | n + 1 => by
    have ih := ftS_tb so ht (r := r) n
    have h01 := gok_01 (wh := wh) (lk := lk) (pr := pr) (sl := sl) (mu := mu) (ln := ln) (ro := ro) (te := te) (x := n) te
    have e : ftS wh lk pr sl mu ln ro te so (n + 1) = if gok wh lk pr sl mu ln ro te n te = 0 then ftS wh lk pr sl mu ln ro te so n else soF ro te n (ftS wh lk pr sl mu ln ro te so n) te := rfl
    rw [e]
    by_cases h0 : gok wh lk pr sl mu ln ro te n te = 0
    · rw [if_pos h0, ih]
      constructor
      · rintro (h | ⟨x, hx, h⟩)
        · exact Or.inl h
        · exact Or.inr ⟨x, by omega, h⟩
      · rintro (h | ⟨x, hx, h1, h2⟩)
        · exact Or.inl h
        · by_cases ex : x = n
          · subst ex; omega
          · exact Or.inr ⟨x, by omega, h1, h2⟩
    · rw [if_neg h0, soF_at n _ te t (Nat.le_refl _) ht, if_pos (by omega), Nat.testBit_or, Bool.or_eq_true, ih]
      constructor
      · rintro ((h | ⟨x, hx, h⟩) | h)
        · exact Or.inl h
        · exact Or.inr ⟨x, by omega, h⟩
        · refine Or.inr ⟨n, by omega, by omega, ?_⟩
          by_cases er : dg ro n (te - 1 - t) = r
          · exact er
          · rw [Nat.testBit_two_pow_of_ne er] at h
            exact absurd h (by decide)
      · rintro (h | ⟨x, hx, h1, h2⟩)
        · exact Or.inl (Or.inl h)
        · by_cases ex : x = n
          · subst ex; rw [← h2]; exact Or.inr (Nat.testBit_two_pow_self)
          · exact Or.inl (Or.inr ⟨x, by omega, h1, h2⟩)
theorem may_eq {op : Nat → Nat} {rc wy : Nat → Int} {so : Nat → Nat} (hro : ro ≤ 6) (hop : ∀ t, t < te → op t = oag wh lk pr sl mu ln ro t) {t : Nat} (ht : t < te) (hso : so t = 0) : ftS wh lk pr sl mu ln ro te so (frw ro te) t = smr (slvW wy op ro te 0) (rcd (slvR rc ro 0) op ro te (2 ^ ro)) op ro t (2 ^ ro) := by
  obtain ⟨j, hj⟩ : ∃ j, te - t = j + 1 := ⟨te - t - 1, by omega⟩
  have ej : te - 1 - t = j := by omega
  have et : te - (j + 1) = t := by omega
  apply Nat.eq_of_testBit_eq
  intro r
  rw [Bool.eq_iff_iff, ftS_tb so ht, frw_eq, hso]
  unfold smr
  rw [ors_tb]
  constructor
  · rintro (h | ⟨x, hx, h1, h2⟩)
    · simp at h
    · rw [← Gt_top hro hop hx] at h1
      obtain ⟨k, g1, g2⟩ := row_RC hx h1 t (by omega)
      have hi := RC_in hro t k g1
      rw [hj] at g2
      have g3 := Gt_s g2
      have hro0 : 0 < ro := by
        rcases Nat.eq_zero_or_pos ro with h | h
        · subst h; rw [Nat.zero_pow (by omega)] at hx; omega
        · exact h
      have hB : 0 < ro ^ j := Nat.pow_pos hro0
      have hlt : x % ro ^ (j + 1) < ro ^ (j + 1) := Nat.mod_lt _ (Nat.pow_pos hro0)
      have hr : x % ro ^ (j + 1) / ro ^ j = r := by rw [← dg_top hlt, dg_mod (show j < j + 1 by omega), ← ej]; exact h2
      have hrl : r < ro := by rw [← hr]; exact Nat.div_lt_of_lt_mul (by rw [← Nat.pow_succ]; exact hlt)
      rw [hr, et] at g3
      have hp := cF_pop hro hi.1 hrl g3.1
      refine ⟨k, hi.1, ?_⟩
      rw [if_neg (fun q => by
        rcases q with q | q
        · exact (rcd_RC hro ht hi.1 hi.2).mpr g1 q
        · exact q hi.2), ← tb1, god_tb hrl]
      refine ⟨g3.1, ?_⟩
      rw [slvW_at hp.2.1, hp.1, hi.2, show te - (t + 1) = j from by omega, wyd_pos]
      exact ⟨_, Nat.mod_lt _ hB, g3.2⟩
  · rintro ⟨k, hk, h⟩
    refine Or.inr ?_
    by_cases hq : rcd (slvR rc ro 0) op ro te (2 ^ ro) k = 0 ∨ ¬ popc k = t
    · rw [if_pos hq] at h; simp at h
    · rw [if_neg hq] at h
      have hpk : popc k = t := Decidable.byContradiction fun q => hq (Or.inr q)
      have hRC : RC op ro t k := (rcd_RC hro ht hk hpk).mp (fun q => hq (Or.inl q))
      have hrl : r < ro := by
        unfold god at h
        rw [bits_tb, Bool.and_eq_true, decide_eq_true_eq] at h
        exact h.1
      rw [← tb1, god_tb hrl] at h
      have hp := cF_pop hro hk hrl h.1
      have h2 := h.2
      rw [slvW_at hp.2.1, hp.1, hpk, show te - (t + 1) = j from by omega, wyd_pos] at h2
      obtain ⟨y, hy, hG⟩ := h2
      have hlt : r * ro ^ j + y < ro ^ (j + 1) := by
        have h3 : (r + 1) * ro ^ j ≤ ro * ro ^ j := Nat.mul_le_mul_right _ (by omega)
        have h5 : ro ^ (j + 1) = ro * ro ^ j := by rw [Nat.pow_succ, Nat.mul_comm]
        rw [Nat.add_mul, Nat.one_mul] at h3
        omega
      have hd := dm (c := r) hy
      obtain ⟨x, g1, g2, g3⟩ := RC_row (te := te) t k (by omega) hRC (r * ro ^ j + y) (by rw [hj]; exact hlt) (by
        rw [hj]
        unfold Gt
        rw [hd.1, hd.2, et, if_pos h.1]
        exact hG)
      rw [hj] at g3
      refine ⟨x, g1, by rw [← Gt_top hro hop g1]; exact g2, ?_⟩
      rw [ej, ← dg_mod (show j < j + 1 by omega), g3, dg_top hlt, hd.1]
end MZ
