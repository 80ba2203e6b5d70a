/-! the words of the state: what holds of the houses' and days' numbers; bits, joined bits -/
theorem pow_le3 (k : Nat) (h : k ≤ 6) : 1 ≤ 2 ^ k ∧ 2 ^ k ≤ 64 ∧ (2 ^ k ≤ 32 ∨ k = 6) := by
  have : ∀ k : Nat, k < 7 → 1 ≤ 2 ^ k ∧ 2 ^ k ≤ 64 ∧ (2 ^ k ≤ 32 ∨ k = 6) := by decide
  exact this k (by omega)
def HB (pr sl mu wi ak : Nat → Int) (he li : Nat → Nat) : Prop := (∀ i, 0 ≤ pr i ∧ pr i ≤ 24) ∧ (∀ i, 0 ≤ sl i ∧ sl i ≤ 12) ∧ (∀ i, 0 ≤ mu i ∧ mu i ≤ 12) ∧ (∀ i, 0 ≤ wi i ∧ wi i ≤ 9) ∧ (∀ i, 0 ≤ ak i ∧ ak i ≤ 9) ∧ (∀ i, he i < 64) ∧ (∀ i, li i < 64)
def NB (hm tk py db : Nat → Int) : Prop := (∀ i, -9 ≤ hm i ∧ hm i < 6) ∧ (∀ i, 0 ≤ tk i ∧ tk i ≤ 24) ∧ (∀ i, 0 ≤ py i ∧ py i ≤ 10000) ∧ (∀ i, 0 ≤ db i ∧ db i ≤ 9999)
/-- the bits below n of which p says yes -/
def bits (p : Nat → Bool) : Nat → Nat
  | 0 => 0
  | n + 1 => if p n then bits p n ||| 2 ^ n else bits p n
theorem bits_lt (p : Nat → Bool) : ∀ n, bits p n < 2 ^ n
  | 0 => by simp [bits]
  | n + 1 => by
    have h := bits_lt p n
    have h2 : bits p n < 2 ^ (n + 1) := Nat.lt_of_lt_of_le h (Nat.pow_le_pow_right (by decide) (by omega))
    unfold bits
    split
    · exact Nat.or_lt_two_pow h2 (Nat.pow_lt_pow_right (by decide) (by omega))
    · exact h2
theorem bits_lt64 (p : Nat → Bool) (n : Nat) (h : n ≤ 6) : bits p n < 64 := Nat.lt_of_lt_of_le (bits_lt p n) (pow_le64 n h).2
theorem bits_test (p : Nat → Bool) : ∀ n k, (bits p n).testBit k = (decide (k < n) && p k)
  | 0, k => by simp [bits]
  | n + 1, k => by
    have ih := bits_test p n k
    unfold bits
    split
    · rename_i hp
      rw [Nat.testBit_or, ih, Nat.testBit_two_pow]
      by_cases h1 : n = k
      · subst h1
        simp [hp]
      · by_cases h2 : k < n
        · simp [h1, h2, Nat.lt_succ_of_lt h2]
        · simp [h1, h2, show ¬ k < n + 1 by omega]
    · rename_i hp
      rw [ih]
      by_cases h1 : n = k
      · subst h1
        simp at hp
        simp [hp]
      · by_cases h2 : k < n
        · simp [h2, Nat.lt_succ_of_lt h2]
        · simp [h2, show ¬ k < n + 1 by omega]
theorem bits_ext {p q : Nat → Bool} {n : Nat} (h : ∀ k, k < n → p k = q k) : bits p n = bits q n := by
  apply Nat.eq_of_testBit_eq
  intro k
  rw [bits_test, bits_test]
  by_cases hk : k < n
  · rw [h k hk]
  · simp [hk]
/-- joined: f 0 ||| .. ||| f (n - 1) -/
def ors (f : Nat → Nat) : Nat → Nat
  | 0 => 0
  | n + 1 => ors f n ||| f n
theorem ors_lt64 (f : Nat → Nat) (h : ∀ i, f i < 64) : ∀ n, ors f n < 64
  | 0 => by show 0 < 64; decide
  | n + 1 => or_lt64 (ors_lt64 f h n) (h n)
theorem ors_ext {f g : Nat → Nat} : ∀ {n : Nat}, (∀ k, k < n → f k = g k) → ors f n = ors g n
  | 0, _ => rfl
  | n + 1, h => by
    unfold ors
    rw [ors_ext (fun k hk => h k (by omega)), h n (by omega)]
def sumI (f : Nat → Int) : Nat → Int
  | 0 => 0
  | n + 1 => sumI f n + f n
theorem sumI_ext {f g : Nat → Int} : ∀ {n : Nat}, (∀ k, k < n → f k = g k) → sumI f n = sumI g n
  | 0, _ => rfl
  | n + 1, h => by
    unfold sumI
    rw [sumI_ext (fun k hk => h k (by omega)), h n (by omega)]
theorem sumI_bd (f : Nat → Int) (b : Int) (h : ∀ i, 0 ≤ f i ∧ f i ≤ b) : ∀ n, 0 ≤ sumI f n ∧ sumI f n ≤ n * b
  | 0 => by simp [sumI]
  | n + 1 => by
    have h1 := sumI_bd f b h n
    have h2 := h n
    unfold sumI
    have e : ((n + 1 : Nat) : Int) * b = n * b + b := by rw [Int.natCast_add, Int.add_mul]; simp
    rw [e]
    omega
def whm (pr sl mu : Nat → Int) (te r : Nat) : Nat := bits (fun t => decide (pr r ≤ 24 - sl t - mu t)) te
def rmb (pr sl mu : Nat → Int) (te ro set : Nat) : Nat := bits (fun r => decide (¬ (whm pr sl mu te r &&& set) = 0)) ro
def hrs (he : Nat → Nat) (te tl : Nat) : Nat := bits (fun t => decide (¬ (he t &&& tl) = 0)) te
def sef (li : Nat → Nat) (ch set : Nat) : Nat := ors (fun c => if (set >>> c) &&& 1 = 0 then 0 else li c) ch
theorem whm_lt64 (pr sl mu : Nat → Int) (te r : Nat) (h : te ≤ 6) : whm pr sl mu te r < 64 := bits_lt64 _ _ h
theorem rmb_lt64 (pr sl mu : Nat → Int) (te ro set : Nat) (h : ro ≤ 6) : rmb pr sl mu te ro set < 64 := bits_lt64 _ _ h
theorem hrs_lt64 (he : Nat → Nat) (te tl : Nat) (h : te ≤ 6) : hrs he te tl < 64 := bits_lt64 _ _ h
theorem sef_lt64 (li : Nat → Nat) (ch set : Nat) (h : ∀ i, li i < 64) : sef li ch set < 64 := ors_lt64 _ (fun c => by have := h c; split <;> omega) ch
