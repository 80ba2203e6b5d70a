/-! debts settled: the model's partitions and the class's sets -/
/-- all parts of s that the model goes through, from part p on -/
def vis (s : Nat) : Nat → Nat → Nat → Bool
  | 0, _, _ => false
  | f + 1, p, q => if p = 0 then false else if q = p then true else vis s f ((p - 1) &&& s) q
theorem vis_all : ∀ s, s < 64 → ∀ q, q < 64 → q &&& s = q → ¬ q = 0 → vis s s s q = true := by decide +kernel
theorem vis_sub {s q : Nat} : ∀ f p, p &&& s = p → vis s f p q = true → q &&& s = q ∧ ¬ q = 0
  | 0, p, _, h => by have : false = true := h; exact absurd this (by decide)
  | f + 1, p, hp, h => by
    have e : vis s (f + 1) p q = if p = 0 then false else if q = p then true else vis s f ((p - 1) &&& s) q := rfl
    rw [e] at h
    by_cases h0 : p = 0
    · rw [if_pos h0] at h; exact absurd h (by decide)
    · rw [if_neg h0] at h
      by_cases hq : q = p
      · rw [hq]; exact ⟨hp, h0⟩
      · rw [if_neg hq] at h
        exact vis_sub f _ (by rw [Nat.and_assoc, Nat.and_self]) h
/-- the part q of s is a group, the rest of s falls into groups -/
abbrev gP (db : Nat → Int) (te : Nat) (G : Nat → Int) (s q : Nat) : Prop := lkS db te q te = 0 ∧ 0 ≤ G (ndiff s q)
theorem pv_sp {db : Nat → Int} {te : Nat} {G : Nat → Int} {s : Nat} : ∀ f p v, v ≤ pv db te G s f p v ∧ (∀ q, vis s f p q = true → gP db te G s q → G (ndiff s q) + 1 ≤ pv db te G s f p v) ∧ (pv db te G s f p v = v ∨ ∃ q, vis s f p q = true ∧ gP db te G s q ∧ pv db te G s f p v = G (ndiff s q) + 1)
  | 0, p, v => ⟨Int.le_refl _, fun q h _ => by have : false = true := h; exact absurd this (by decide), Or.inl rfl⟩
  | f + 1, p, v => by
    by_cases h0 : p = 0
    · subst h0
      rw [pv_0]
      exact ⟨Int.le_refl _, fun q h _ => by have : false = true := h; exact absurd this (by decide), Or.inl rfl⟩
    · rw [pv_s h0]
      generalize hv : (if (lkS db te p te = 0 ∧ 0 ≤ G (ndiff s p)) ∧ v < G (ndiff s p) + 1 then G (ndiff s p) + 1 else v) = v2
      have ih := pv_sp (db := db) (te := te) (G := G) (s := s) f ((p - 1) &&& s) v2
      have hvis : ∀ q, vis s (f + 1) p q = if q = p then true else vis s f ((p - 1) &&& s) q := fun q => if_neg h0
      have hle : v ≤ v2 ∧ (gP db te G s p → G (ndiff s p) + 1 ≤ v2) ∧ (v2 = v ∨ (gP db te G s p ∧ v2 = G (ndiff s p) + 1)) := by
        rw [← hv]
        by_cases hc : (lkS db te p te = 0 ∧ 0 ≤ G (ndiff s p)) ∧ v < G (ndiff s p) + 1
        · rw [if_pos hc]
          exact ⟨by omega, fun _ => Int.le_refl _, Or.inr ⟨hc.1, rfl⟩⟩
        · rw [if_neg hc]
          exact ⟨Int.le_refl _, fun hg => by
            by_cases h9 : v < G (ndiff s p) + 1
            · exact absurd ⟨hg, h9⟩ hc
            · omega, Or.inl rfl⟩
      refine ⟨by omega, fun q hq hg => ?_, ?_⟩
      · rw [hvis] at hq
        by_cases e : q = p
        · rw [e] at hg ⊢
          have := hle.2.1 hg
          omega
        · rw [if_neg e] at hq
          exact ih.2.1 q hq hg
      · rcases ih.2.2 with h | ⟨q, h1, h2, h3⟩
        · rcases hle.2.2 with h4 | ⟨h4, h5⟩
          · exact Or.inl (by omega)
          · exact Or.inr ⟨p, by rw [hvis, if_pos rfl], h4, by omega⟩
        · refine Or.inr ⟨q, ?_, h2, h3⟩
          rw [hvis]
          by_cases e : q = p
          · rw [if_pos e]
          · rw [if_neg e]; exact h1
section PG
variable {gp gr db : Nat → Int} {te : Nat}
/-- the table's own value at s, once for all -/
def pgV (gp db : Nat → Int) (te s : Nat) : Int := pgt gp db te s s
theorem pgt_at : ∀ n s, s ≤ n → pgt gp db te n s = pgV gp db te s
  | 0, s, h => by rw [show s = 0 from by omega]; rfl
  | n + 1, s, h => by
    by_cases e : s = n + 1
    · rw [e]; rfl
    · show va_up (pgt gp db te n) (n + 1) _ s = _
      rw [up_n e]
      exact pgt_at n s (by omega)
theorem pgV_0 : pgV gp db te 0 = 0 := by
  show va_up gp 0 0 0 = 0
  exact up_s gp 0 0
theorem pgV_s (n : Nat) : pgV gp db te (n + 1) = pv db te (pgt gp db te n) (n + 1) (n + 1) (n + 1) (-1) := up_s _ _ _
def gtV (gr db : Nat → Int) (te s : Nat) : Int := gtb gr db te s s
theorem gtb_at : ∀ n s, s ≤ n → gtb gr db te n s = gtV gr db te s
  | 0, s, h => by rw [show s = 0 from by omega]; rfl
  | n + 1, s, h => by
    by_cases e : s = n + 1
    · rw [e]; rfl
    · show va_up (gtb gr db te n) (n + 1) _ s = _
      rw [up_n e]
      exact gtb_at n s (by omega)
theorem gtV_0 : gtV gr db te 0 = 0 := by
  show va_up gr 0 0 0 = 0
  exact up_s gr 0 0
theorem gtV_s (n : Nat) : gtV gr db te (n + 1) = (if lkS db te (n + 1) te = 0 then mst (gtb gr db te n) (n + 1) te + 1 else mst (gtb gr db te n) (n + 1) te) := up_s _ _ _
theorem nd_lt : ∀ s, s < 64 → ∀ q, q < 64 → q &&& s = q → ¬ q = 0 → ndiff s q < s := sub_lt
/-- the model: at least a group more than any rest, and no more -/
theorem pgV_ge {s q : Nat} (hs : s < 64) (hq : q &&& s = q) (h0 : ¬ q = 0) (hl : lkS db te q te = 0) (hr : 0 ≤ pgV gp db te (ndiff s q)) : pgV gp db te (ndiff s q) + 1 ≤ pgV gp db te s := by
  have hq64 : q ≤ s := by rw [← hq]; exact Nat.and_le_right
  have hlt := nd_lt s hs q (by omega) hq h0
  obtain ⟨n, rfl⟩ : ∃ n, s = n + 1 := ⟨s - 1, by omega⟩
  have e := pgt_at (gp := gp) (db := db) (te := te) n (ndiff (n + 1) q) (by omega)
  have h := (pv_sp (db := db) (te := te) (G := pgt gp db te n) (s := n + 1) (n + 1) (n + 1) (-1)).2.1 q (vis_all _ hs q (by omega) hq h0) ⟨hl, by rw [e]; exact hr⟩
  rw [pgV_s, ← e]
  exact h
theorem pgV_or {s : Nat} (hs : s < 64) (h0 : ¬ s = 0) : pgV gp db te s = -1 ∨ ∃ q, q &&& s = q ∧ (¬ q = 0) ∧ lkS db te q te = 0 ∧ 0 ≤ pgV gp db te (ndiff s q) ∧ pgV gp db te s = pgV gp db te (ndiff s q) + 1 := by
  obtain ⟨n, rfl⟩ : ∃ n, s = n + 1 := ⟨s - 1, by omega⟩
  rw [pgV_s]
  rcases (pv_sp (db := db) (te := te) (G := pgt gp db te n) (s := n + 1) (n + 1) (n + 1) (-1)).2.2 with h | ⟨q, h1, h2, h3⟩
  · exact Or.inl h
  · have hv := vis_sub _ _ (Nat.and_self _) h1
    have hq64 : q ≤ n + 1 := by rw [← hv.1]; exact Nat.and_le_right
    have hlt := nd_lt (n + 1) hs q (by omega) hv.1 hv.2
    have e := pgt_at (gp := gp) (db := db) (te := te) n (ndiff (n + 1) q) (by omega)
    have h22 := h2.2
    rw [e] at h3 h22
    exact Or.inr ⟨q, hv.1, hv.2, h2.1, h22, h3⟩
/-- the class: the most of those that lack one -/
theorem mst_ge {g : Nat → Int} {k r : Nat} (hb : ¬ (k >>> r) &&& 1 = 0) : ∀ n, r < n → g (k ^^^ 2 ^ r) ≤ mst g k n
  | 0, h => absurd h (Nat.not_lt_zero _)
  | n + 1, h => by
    have e : mst g k (n + 1) = if (k >>> n) &&& 1 = 0 then mst g k n else max (mst g k n) (g (k ^^^ 2 ^ n)) := rfl
    rw [e]
    by_cases er : r = n
    · subst er; rw [if_neg hb]; omega
    · have ih := mst_ge (g := g) hb n (by omega)
      split <;> omega
theorem mst_or {g : Nat → Int} {k : Nat} : ∀ n, mst g k n = 0 ∨ ∃ r, r < n ∧ (¬ (k >>> r) &&& 1 = 0) ∧ mst g k n = g (k ^^^ 2 ^ r)
  | 0 => Or.inl rfl
  | n + 1 => by
    have ih := mst_or (g := g) (k := k) n
    have e : mst g k (n + 1) = if (k >>> n) &&& 1 = 0 then mst g k n else max (mst g k n) (g (k ^^^ 2 ^ n)) := rfl
    rw [e]
    by_cases hb : (k >>> n) &&& 1 = 0
    · rw [if_pos hb]
      rcases ih with h | ⟨r, h1, h2, h3⟩
      · exact Or.inl h
      · exact Or.inr ⟨r, by omega, h2, h3⟩
    · rw [if_neg hb]
      by_cases hm : mst g k n ≤ g (k ^^^ 2 ^ n)
      · exact Or.inr ⟨n, by omega, hb, by omega⟩
      · rw [show max (mst g k n) (g (k ^^^ 2 ^ n)) = mst g k n from by omega]
        rcases ih with h | ⟨r, h1, h2, h3⟩
        · exact Or.inl h
        · exact Or.inr ⟨r, by omega, h2, h3⟩
theorem gtV_nn (hte : te ≤ 6) {s : Nat} (hs : s < 64) : 0 ≤ gtV gr db te s := (gtb_popc gr db te hte s hs s (Nat.le_refl _)).1
theorem gtV_ge {s r : Nat} (hs : s < 64) (hr : r < 6) (hrt : r < te) (hb : ¬ (s >>> r) &&& 1 = 0) : gtV gr db te (s ^^^ 2 ^ r) + (if lkS db te s te = 0 then 1 else 0) ≤ gtV gr db te s := by
  have hx := popc_xor s hs r hr hb
  obtain ⟨n, rfl⟩ : ∃ n, s = n + 1 := ⟨s - 1, by omega⟩
  have hm := mst_ge (g := gtb gr db te n) hb te hrt
  rw [gtb_at n _ (by omega)] at hm
  rw [gtV_s]
  split <;> omega
theorem gtV_or (hte : te ≤ 6) {s : Nat} (hs : s < 64) (h0 : ¬ s = 0) (hst : s < 2 ^ te) : ∃ r, r < te ∧ (¬ (s >>> r) &&& 1 = 0) ∧ gtV gr db te s = gtV gr db te (s ^^^ 2 ^ r) + (if lkS db te s te = 0 then 1 else 0) := by
  obtain ⟨n, rfl⟩ : ∃ n, s = n + 1 := ⟨s - 1, by omega⟩
  have hany : ∃ r, r < te ∧ ¬ ((n + 1) >>> r) &&& 1 = 0 := by
    refine Decidable.byContradiction fun hno => h0 ?_
    apply Nat.eq_of_testBit_eq
    intro r
    rw [Nat.zero_testBit]
    by_cases hr : r < te
    · have h9 : ((n + 1) >>> r) &&& 1 = 0 := Decidable.byContradiction fun q => hno ⟨r, hr, q⟩
      exact (tb0 _ _).mp h9
    · exact Nat.testBit_lt_two_pow (Nat.lt_of_lt_of_le hst (Nat.pow_le_pow_right (by decide) (by omega)))
  have key : ∃ r, r < te ∧ (¬ ((n + 1) >>> r) &&& 1 = 0) ∧ mst (gtb gr db te n) (n + 1) te = gtb gr db te n ((n + 1) ^^^ 2 ^ r) := by
    rcases mst_or (g := gtb gr db te n) (k := n + 1) te with h | h
    · obtain ⟨r, hr, hb⟩ := hany
      have hx := popc_xor (n + 1) hs r (by omega) hb
      have h1 := mst_ge (g := gtb gr db te n) hb te hr
      have h2 := (gtb_popc gr db te hte n (by omega) ((n + 1) ^^^ 2 ^ r) (by omega)).1
      exact ⟨r, hr, hb, by omega⟩
    · exact h
  obtain ⟨r, hr, hb, hm⟩ := key
  have hx := popc_xor (n + 1) hs r (by omega) hb
  refine ⟨r, hr, hb, ?_⟩
  rw [gtV_s, hm, gtb_at n _ (by omega)]
  split <;> omega
end PG
/-! sums over sets -/
theorem lkS_b (db : Nat → Int) (te k : Nat) : ∀ n, lkS db te k n = sumI (fun t => if k.testBit t then lsh db te t else 0) n
  | 0 => rfl
  | n + 1 => by
    have ih := lkS_b db te k n
    have e : lkS db te k (n + 1) = if (k >>> n) &&& 1 = 0 then lkS db te k n else lkS db te k n + lsh db te n := rfl
    show _ = sumI _ n + (if k.testBit n then lsh db te n else 0)
    rw [e, ← ih]
    by_cases hb : (k >>> n) &&& 1 = 0
    · rw [if_pos hb, if_neg (by rw [(tb0 _ _).mp hb]; decide)]; omega
    · rw [if_neg hb, if_pos ((tb1 _ _).mp hb)]
theorem sumI_plus (f g : Nat → Int) : ∀ n, sumI (fun t => f t + g t) n = sumI f n + sumI g n
  | 0 => rfl
  | n + 1 => by
    have ih := sumI_plus f g n
    show sumI (fun t => f t + g t) n + (f n + g n) = sumI f n + f n + (sumI g n + g n)
    omega
theorem lkS_part {db : Nat → Int} {te s q : Nat} (hq : q &&& s = q) : lkS db te s te = lkS db te q te + lkS db te (ndiff s q) te := by
  rw [lkS_b, lkS_b, lkS_b, ← sumI_plus]
  refine sumI_ext (fun t _ => ?_)
  have h := congrArg (fun x => x.testBit t) hq
  simp only [Nat.testBit_and] at h
  rw [ndiff_tb]
  cases hs : s.testBit t <;> cases hqt : q.testBit t <;> simp_all
theorem lkS_zero (db : Nat → Int) (te : Nat) : lkS db te 0 te = 0 := by
  rw [lkS_b]
  have e : (fun t => if Nat.testBit 0 t then lsh db te t else 0) = fun _ => (0 : Int) := funext fun t => by rw [Nat.zero_testBit]; rfl
  rw [e, sumI_0]
theorem nd_nd : ∀ s, s < 64 → ∀ q, q < 64 → q &&& s = q → ndiff s (ndiff s q) = q := by decide +kernel
theorem nd_sub : ∀ s, s < 64 → ∀ q, q < 64 → ndiff s q &&& s = ndiff s q ∧ ndiff s q < 64 := by decide +kernel
theorem xo_sub : ∀ s, s < 64 → ∀ r, r < 6 → ¬ (s >>> r) &&& 1 = 0 → (s ^^^ 2 ^ r) &&& s = s ^^^ 2 ^ r ∧ s ^^^ 2 ^ r < 64 := by decide +kernel
def ck1 (a b r : Nat) : Bool := decide (a &&& b = 0 → ¬ (b >>> r) &&& 1 = 0 → (a ||| b) ^^^ 2 ^ r = a ||| (b ^^^ 2 ^ r) ∧ a &&& (b ^^^ 2 ^ r) = 0 ∧ ¬ ((a ||| b) >>> r) &&& 1 = 0)
theorem ck1_all : ∀ a, a < 64 → ∀ b, b < 64 → ∀ r, r < 6 → ck1 a b r = true := by decide +kernel
theorem or_xor (a : Nat) (ha : a < 64) (b : Nat) (hb : b < 64) (r : Nat) (hr : r < 6) : a &&& b = 0 → ¬ (b >>> r) &&& 1 = 0 → (a ||| b) ^^^ 2 ^ r = a ||| (b ^^^ 2 ^ r) ∧ a &&& (b ^^^ 2 ^ r) = 0 ∧ ¬ ((a ||| b) >>> r) &&& 1 = 0 := of_decide_eq_true (ck1_all a ha b hb r hr)
theorem nd_or : ∀ s, s < 64 → ∀ q, q < 64 → q &&& s = q → ndiff s q ||| q = s ∧ ndiff s q &&& q = 0 := by decide +kernel
theorem or_in : ∀ a, a < 64 → ∀ b, b < 64 → a &&& b = 0 → a ||| b < 64 ∧ a &&& (a ||| b) = a ∧ ndiff (a ||| b) a = b := by decide +kernel
def ck2 (s r u : Nat) : Bool := decide (¬ (s >>> r) &&& 1 = 0 → u &&& (s ^^^ 2 ^ r) = u → u &&& s = u ∧ ¬ ndiff s u = 0)
theorem ck2_all : ∀ s, s < 64 → ∀ r, r < 6 → ∀ u, u < 64 → ck2 s r u = true := by decide +kernel
theorem sub_tr (s : Nat) (hs : s < 64) (r : Nat) (hr : r < 6) (u : Nat) (hu : u < 64) : ¬ (s >>> r) &&& 1 = 0 → u &&& (s ^^^ 2 ^ r) = u → u &&& s = u ∧ ¬ ndiff s u = 0 := of_decide_eq_true (ck2_all s hs r hr u hu)
section PE
variable {gp gr db : Nat → Int} {te : Nat}
theorem gtV_add (hte : te ≤ 6) {a : Nat} (ha : a < 64) (hl : lkS db te a te = 0) : ∀ n b, popc b = n → b < 2 ^ te → a &&& b = 0 → gtV gr db te a + gtV gr db te b ≤ gtV gr db te (a ||| b)
  | 0, b, hn, hb, hd => by
    have h64 := (pow_le64 te hte).2
    have hb0 : b = 0 := by
      by_cases h : b = 0
      · exact h
      · have := popc_pos b (by omega) (by omega); omega
    subst hb0
    rw [Nat.or_zero, gtV_0]
    omega
  | n + 1, b, hn, hb, hd => by
    have h64 := (pow_le64 te hte).2
    have hb0 : ¬ b = 0 := fun q => by subst q; rw [popc_0] at hn; omega
    obtain ⟨r, hr, hbt, hv⟩ := gtV_or (gr := gr) (db := db) hte (show b < 64 by omega) hb0 hb
    have hx := popc_xor b (by omega) r (by omega) hbt
    have ho := or_xor a ha b (by omega) r (by omega) hd hbt
    have hi := or_in a ha b (by omega) hd
    have ih := gtV_add hte ha hl n (b ^^^ 2 ^ r) (by omega) (by omega) ho.2.1
    have hg := gtV_ge (gr := gr) (db := db) (te := te) hi.1 (show r < 6 by omega) hr ho.2.2
    rw [ho.1] at hg
    have hsum : lkS db te (a ||| b) te = lkS db te b te := by
      have := lkS_part (db := db) (te := te) hi.2.1
      rw [hi.2.2] at this
      omega
    rw [hsum] at hg
    omega
theorem pgV_sum {n : Nat} : ∀ s, s ≤ n → s < 64 → 0 ≤ pgV gp db te s → lkS db te s te = 0 := by
  induction n with
  | zero => intro s hs _ _; rw [show s = 0 from by omega, lkS_zero]
  | succ n ih =>
    intro s hs h64 h
    by_cases h0 : s = 0
    · rw [h0, lkS_zero]
    · rcases pgV_or (gp := gp) (db := db) (te := te) h64 h0 with h1 | ⟨q, h1, h2, h3, h4, h5⟩
      · omega
      · have hq : q ≤ s := by rw [← h1]; exact Nat.and_le_right
        have hlt := nd_lt s h64 q (by omega) h1 h2
        rw [lkS_part h1, h3, ih _ (by omega) (by omega) h4]
        rfl
theorem pg_le (hte : te ≤ 6) {n : Nat} : ∀ s, s ≤ n → s < 2 ^ te → pgV gp db te s ≤ gtV gr db te s := by
  have hp64 := (pow_le64 te hte).2
  induction n with
  | zero => intro s hs _; rw [show s = 0 from by omega, pgV_0, gtV_0]; exact Int.le_refl _
  | succ n ih =>
    intro s hs hst
    have h64 : s < 64 := by omega
    by_cases h0 : s = 0
    · rw [h0, pgV_0, gtV_0]; exact Int.le_refl _
    · have hnn := gtV_nn (gr := gr) (db := db) hte h64
      rcases pgV_or (gp := gp) (db := db) (te := te) h64 h0 with h1 | ⟨q, h1, h2, h3, h4, h5⟩
      · omega
      · have hq : q ≤ s := by rw [← h1]; exact Nat.and_le_right
        have hlt := nd_lt s h64 q (by omega) h1 h2
        have g1 := ih _ (show ndiff s q ≤ n by omega) (by omega)
        have g2 := pgV_sum (gp := gp) (db := db) (te := te) (n := ndiff s q) (ndiff s q) (Nat.le_refl _) (by omega) h4
        have ho := nd_or s h64 q (by omega) h1
        have g3 := gtV_add (gr := gr) hte (show ndiff s q < 64 by omega) g2 (popc q) q rfl (by omega) ho.2
        rw [ho.1] at g3
        have g4 : 1 ≤ gtV gr db te q := by
          obtain ⟨r, hr, hb, hv⟩ := gtV_or (gr := gr) (db := db) hte (show q < 64 by omega) h2 (by omega)
          have hx := popc_xor q (by omega) r (by omega) hb
          have := gtV_nn (gr := gr) (db := db) hte (show q ^^^ 2 ^ r < 64 by omega)
          rw [hv, if_pos h3]
          omega
        omega
theorem gt_le (hte : te ≤ 6) {n : Nat} : ∀ s, s ≤ n → s < 2 ^ te → ∃ u, u &&& s = u ∧ u < 64 ∧ lkS db te u te = 0 ∧ gtV gr db te s ≤ pgV gp db te u ∧ (lkS db te s te = 0 → u = s) := by
  have hp64 := (pow_le64 te hte).2
  induction n with
  | zero =>
    intro s hs _
    rw [show s = 0 from by omega]
    exact ⟨0, rfl, by decide, lkS_zero db te, by rw [gtV_0, pgV_0]; exact Int.le_refl _, fun _ => rfl⟩
  | succ n ih =>
    intro s hs hst
    have h64 : s < 64 := by omega
    by_cases h0 : s = 0
    · rw [h0]
      exact ⟨0, rfl, by decide, lkS_zero db te, by rw [gtV_0, pgV_0]; exact Int.le_refl _, fun _ => rfl⟩
    · obtain ⟨r, hr, hb, hv⟩ := gtV_or (gr := gr) (db := db) hte h64 h0 hst
      have hx := popc_xor s h64 r (by omega) hb
      obtain ⟨u, u1, u2, u3, u4, u5⟩ := ih _ (show s ^^^ 2 ^ r ≤ n by omega) (by omega)
      have hs2 := sub_tr s h64 r (by omega) u u2 hb u1
      have hnn := gtV_nn (gr := gr) (db := db) hte (show s ^^^ 2 ^ r < 64 by omega)
      by_cases hz : lkS db te s te = 0
      · refine ⟨s, Nat.and_self s, h64, hz, ?_, fun _ => rfl⟩
        have hq := nd_sub s h64 u u2
        have hu := nd_nd s h64 u u2 hs2.1
        have hlz : lkS db te (ndiff s u) te = 0 := by
          have := lkS_part (db := db) (te := te) hs2.1
          omega
        have g := pgV_ge (gp := gp) (db := db) (te := te) h64 hq.1 hs2.2 hlz (by rw [hu]; omega)
        rw [hu] at g
        rw [hv, if_pos hz]
        omega
      · refine ⟨u, hs2.1, u2, u3, ?_, fun q => absurd q hz⟩
        rw [hv, if_neg hz]
        omega
theorem pay_eq (hte : te ≤ 6) {s : Nat} (hs : s < 2 ^ te) (hl : lkS db te s te = 0) : pgt gp db te s s = gtb gr db te s s := by
  have h1 := pg_le (gp := gp) (gr := gr) (db := db) hte s (Nat.le_refl _) hs
  obtain ⟨u, u1, u2, u3, u4, u5⟩ := gt_le (gp := gp) (gr := gr) (db := db) hte s (Nat.le_refl _) hs
  rw [u5 hl] at u4
  show pgV gp db te s = gtV gr db te s
  omega
end PE
theorem sumI_c (a : Int) : ∀ n : Nat, sumI (fun _ => a) n = (n : Int) * a
  | 0 => by show (0 : Int) = ((0 : Nat) : Int) * a; simp
  | n + 1 => by
    have ih := sumI_c a n
    show sumI (fun _ => a) n + a = ((n + 1 : Nat) : Int) * a
    rw [ih, Int.natCast_add, Int.add_mul]
    omega
theorem sumI_lt (m : Int) (h : 0 ≤ m) : ∀ n : Nat, sumI (fun t => if ((t : Nat) : Int) < m then (1 : Int) else 0) n = if m ≤ (n : Int) then m else (n : Int)
  | 0 => by
    show (0 : Int) = _
    split <;> omega
  | n + 1 => by
    have ih := sumI_lt m h n
    show sumI _ n + (if ((n : Nat) : Int) < m then (1 : Int) else 0) = _
    rw [ih]
    split <;> split <;> split <;> omega
theorem sumI_sub (f g : Nat → Int) : ∀ n, sumI (fun t => f t - g t) n = sumI f n - sumI g n
  | 0 => rfl
  | n + 1 => by
    have ih := sumI_sub f g n
    show sumI (fun t => f t - g t) n + (f n - g n) = sumI f n + f n - (sumI g n + g n)
    omega
theorem owg_sum {db : Nat → Int} {te : Nat} (hte : te ≤ 6) (hN : ∀ i, 0 ≤ db i ∧ db i ≤ 9999) (hDZ : ∀ t, te ≤ t → db t = 0) : lkS db te (owg db te) te = 0 := by
  by_cases h0 : te = 0
  · subst h0; rfl
  · rw [lkS_b]
    have e1 : sumI (fun t => if (owg db te).testBit t then lsh db te t else 0) te = sumI (fun t => lsh db te t) te := sumI_ext (fun t ht => by
      unfold owg
      rw [bits_tb, decide_eq_true ht, Bool.true_and]
      by_cases h : lsh db te t = 0
      · rw [if_neg (by simp [h]), h]
      · rw [if_pos (by simp [h])])
    have hall := sumI_bd db 9999 hN 6
    have hm := Int.emod_nonneg (sumI db 6) (show (te : Int) ≠ 0 by omega)
    have hm2 := Int.emod_lt_of_pos (sumI db 6) (show 0 < (te : Int) by omega)
    have hdm := Int.mul_ediv_add_emod (sumI db 6) (te : Int)
    have e2 : (fun t => lsh db te t) = fun t => (fun t => (fun _ => sumI db 6 / (te : Int)) t + (fun t => if ((t : Nat) : Int) < sumI db 6 % (te : Int) then (1 : Int) else 0) t) t - db t := funext fun t => if_neg h0
    rw [e1, e2, sumI_sub, sumI_plus, sumI_c, sumI_lt _ hm, if_pos (by omega), sumI_z hte hDZ]
    omega
theorem payments_eq {gp gr db : Nat → Int} {te : Nat} (hte : te ≤ 6) (hN : ∀ i, 0 ≤ db i ∧ db i ≤ 9999) (hDZ : ∀ t, te ≤ t → db t = 0) : pgt gp db te (owg db te) (owg db te) = gtb gr db te (owg db te) (owg db te) := pay_eq hte (bits_lt _ _) (owg_sum hte hN hDZ)
