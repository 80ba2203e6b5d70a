/-! rows of rooms: digits, sums -/
theorem dm {B c z : Nat} (h : z < B) : (c * B + z) / B = c ∧ (c * B + z) % B = z := by
  constructor
  · rw [Nat.mul_comm, Nat.mul_add_div (by omega), Nat.div_eq_of_lt h, Nat.add_zero]
  · rw [Nat.mul_comm, Nat.mul_add_mod, Nat.mod_eq_of_lt h]
theorem dg_mod {b y j i : Nat} (h : i < j) : dg b (y % b ^ j) i = dg b y i := by
  obtain ⟨d, rfl⟩ : ∃ d, j = i + (d + 1) := ⟨j - i - 1, by omega⟩
  unfold dg
  rw [Nat.pow_add, Nat.mod_mul_right_div_self, Nat.mod_mod_of_dvd _ ⟨b ^ d, by rw [Nat.pow_succ, Nat.mul_comm]⟩]
theorem dg_top {b y j : Nat} (h : y < b ^ (j + 1)) : dg b y j = y / b ^ j := by
  unfold dg
  exact Nat.mod_eq_of_lt (Nat.div_lt_of_lt_mul (by rw [← Nat.pow_succ]; exact h))
theorem sumI_l (f : Nat → Int) : ∀ n, sumI f (n + 1) = f 0 + sumI (fun i => f (i + 1)) n
  | 0 => by show 0 + f 0 = f 0 + 0; omega
  | n + 1 => by
    have ih := sumI_l f n
    show sumI f (n + 1) + f (n + 1) = f 0 + (sumI (fun i => f (i + 1)) n + f (n + 1))
    omega
theorem sumI_rev (f : Nat → Int) : ∀ n, sumI (fun i => f (n - 1 - i)) n = sumI f n
  | 0 => rfl
  | n + 1 => by
    rw [sumI_l]
    have e : sumI (fun i => f (n + 1 - 1 - (i + 1))) n = sumI (fun i => f (n - 1 - i)) n := sumI_ext (fun i hi => by show f (n + 1 - 1 - (i + 1)) = f (n - 1 - i); rw [show n + 1 - 1 - (i + 1) = n - 1 - i from by omega])
    show f (n + 1 - 1 - 0) + sumI (fun i => f (n + 1 - 1 - (i + 1))) n = sumI f n + f n
    rw [e, sumI_rev f n, show n + 1 - 1 - 0 = n from by omega]
    omega
theorem cnt_sumI (p : Nat → Bool) : ∀ n, ((cnt p n : Nat) : Int) = sumI (fun t => if p t = true then 1 else 0) n
  | 0 => rfl
  | n + 1 => by
    have ih := cnt_sumI p n
    show (((if p n then cnt p n + 1 else cnt p n) : Nat) : Int) = sumI _ n + (if p n = true then 1 else 0)
    rw [← ih]
    split <;> omega
theorem fmn_sumI (ro x : Nat) : ∀ j, ((fmn ro x j : Nat) : Int) = sumI (fun i => if dg (ro + 1) x i < ro then 1 else 0) j
  | 0 => rfl
  | j + 1 => by
    have ih := fmn_sumI ro x j
    show (((if dg (ro + 1) x j < ro then fmn ro x j + 1 else fmn ro x j) : Nat) : Int) = sumI _ j + (if dg (ro + 1) x j < ro then 1 else 0)
    rw [← ih]
    split <;> omega
theorem fpr_sumI (pr : Nat → Int) (ro x : Nat) : ∀ j, fpr pr ro x j = sumI (fun i => if dg (ro + 1) x i < ro then pr (dg (ro + 1) x i) else 0) j
  | 0 => rfl
  | j + 1 => by
    have ih := fpr_sumI pr ro x j
    show (if dg (ro + 1) x j < ro then fpr pr ro x j + pr (dg (ro + 1) x j) else fpr pr ro x j) = sumI _ j + (if dg (ro + 1) x j < ro then pr (dg (ro + 1) x j) else 0)
    rw [← ih]
    split <;> omega
section CG
variable {pr sl mu : Nat → Int} {ro te x y : Nat}
theorem fme_c : ∀ j, (∀ i, i < j → dg (ro + 1) x i = dg (ro + 1) y i) → fme ro x j = fme ro y j
  | 0, _ => rfl
  | j + 1, h => by
    unfold fme
    rw [h j (by omega), fme_c j (fun i hi => h i (by omega))]
theorem fmn_c : ∀ j, (∀ i, i < j → dg (ro + 1) x i = dg (ro + 1) y i) → fmn ro x j = fmn ro y j
  | 0, _ => rfl
  | j + 1, h => by
    unfold fmn
    rw [h j (by omega), fmn_c j (fun i hi => h i (by omega))]
theorem fpr_c : ∀ j, (∀ i, i < j → dg (ro + 1) x i = dg (ro + 1) y i) → fpr pr ro x j = fpr pr ro y j
  | 0, _ => rfl
  | j + 1, h => by
    unfold fpr
    rw [h j (by omega), fpr_c j (fun i hi => h i (by omega))]
theorem fok_c : ∀ j, (∀ i, i < j → dg (ro + 1) x i = dg (ro + 1) y i) → fok pr sl mu ro te x j = fok pr sl mu ro te y j
  | 0, _ => rfl
  | j + 1, h => by
    unfold fok
    rw [h j (by omega), fok_c j (fun i hi => h i (by omega)), fme_c j (fun i hi => h i (by omega))]
end CG
/-! the best housing: the class's table is the most over all rows, its choices the first such row -/
abbrev cT (pr sl mu : Nat → Int) (t k r : Nat) : Prop := (k >>> r) &&& 1 = 0 ∧ pr r ≤ 24 - sl t - mu t
section MF
variable {b1 pr sl mu : Nat → Int} {t k : Nat} {bv : Int}
theorem mfr_0 : ∀ n, b1 k ≤ mfr b1 pr sl mu t k n
  | 0 => Int.le_refl _
  | n + 1 => by
    have ih := mfr_0 n
    unfold mfr
    split <;> omega
theorem mfr_ge {r : Nat} (hc : cT pr sl mu t k r) : ∀ n, r < n → b1 (k ||| 2 ^ r) + 1000 + pr r ≤ mfr b1 pr sl mu t k n
  | 0, h => absurd h (Nat.not_lt_zero _)
  | n + 1, h => by
    by_cases e : r = n
    · subst e
      unfold mfr
      rw [if_pos hc]
      omega
    · have ih := mfr_ge hc n (by omega)
      unfold mfr
      split <;> omega
theorem mfr_or : ∀ n, mfr b1 pr sl mu t k n = b1 k ∨ ∃ r, r < n ∧ cT pr sl mu t k r ∧ mfr b1 pr sl mu t k n = b1 (k ||| 2 ^ r) + 1000 + pr r
  | 0 => Or.inl rfl
  | n + 1 => by
    have ih := mfr_or n
    by_cases hc : cT pr sl mu t k n
    · have e : mfr b1 pr sl mu t k (n + 1) = max (mfr b1 pr sl mu t k n) (b1 (k ||| 2 ^ n) + 1000 + pr n) := if_pos hc
      by_cases hm : mfr b1 pr sl mu t k n ≤ b1 (k ||| 2 ^ n) + 1000 + pr n
      · exact Or.inr ⟨n, by omega, hc, by rw [e]; omega⟩
      · have e2 : mfr b1 pr sl mu t k (n + 1) = mfr b1 pr sl mu t k n := by rw [e]; omega
        rw [e2]
        rcases ih with h | ⟨r, h1, h2, h3⟩
        · exact Or.inl h
        · exact Or.inr ⟨r, by omega, h2, h3⟩
    · have e : mfr b1 pr sl mu t k (n + 1) = mfr b1 pr sl mu t k n := if_neg hc
      rw [e]
      rcases ih with h | ⟨r, h1, h2, h3⟩
      · exact Or.inl h
      · exact Or.inr ⟨r, by omega, h2, h3⟩
theorem fob_n : ∀ n r, fob b1 bv pr sl mu t k n r = -9 → ∀ i, r ≤ i → i < r + n → ¬ (cT pr sl mu t k i ∧ b1 (k ||| 2 ^ i) + 1000 + pr i = bv)
  | 0, r, _, i, h1, h2 => by omega
  | n + 1, r, h, i, h1, h2 => by
    rw [fob_s] at h
    split at h
    · omega
    · rename_i hn
      by_cases e : i = r
      · subst e; exact hn
      · exact fob_n n (r + 1) h i (by omega) (by omega)
theorem fob_y : ∀ n r, 0 ≤ fob b1 bv pr sl mu t k n r → (cT pr sl mu t k (fob b1 bv pr sl mu t k n r).toNat ∧ b1 (k ||| 2 ^ (fob b1 bv pr sl mu t k n r).toNat) + 1000 + pr (fob b1 bv pr sl mu t k n r).toNat = bv) ∧ ∀ i, r ≤ i → i < (fob b1 bv pr sl mu t k n r).toNat → ¬ (cT pr sl mu t k i ∧ b1 (k ||| 2 ^ i) + 1000 + pr i = bv)
  | 0, r, h => by
    have : (0 : Int) ≤ -9 := h
    omega
  | n + 1, r, h => by
    rw [fob_s] at h ⊢
    split at h
    · rename_i hc
      rw [if_pos hc, Int.toNat_natCast]
      exact ⟨hc, fun i h1 h2 => by omega⟩
    · rename_i hn
      rw [if_neg hn]
      have ih := fob_y n (r + 1) h
      refine ⟨ih.1, fun i h1 h2 => ?_⟩
      by_cases e : i = r
      · subst e; exact hn
      · exact ih.2 i (by omega) h2
end MF
def Vt (pr sl mu : Nat → Int) (ro te : Nat) : Nat → Nat → Nat → Int
  | 0, _, _ => 0
  | j + 1, k, y => if y / (ro + 1) ^ j < ro then (if cT pr sl mu (te - (j + 1)) k (y / (ro + 1) ^ j) then (if Vt pr sl mu ro te j (k ||| 2 ^ (y / (ro + 1) ^ j)) (y % (ro + 1) ^ j) < 0 then -1 else Vt pr sl mu ro te j (k ||| 2 ^ (y / (ro + 1) ^ j)) (y % (ro + 1) ^ j) + 1000 + pr (y / (ro + 1) ^ j)) else -1) else Vt pr sl mu ro te j k (y % (ro + 1) ^ j)
def fbc (pr sl mu : Nat → Int) (ro te j k : Nat) : Int := fob (dpt pr sl mu ro te j) (dpt pr sl mu ro te (j + 1) k) pr sl mu (te - (j + 1)) k ro 0
def gdy (pr sl mu : Nat → Int) (ro te : Nat) : Nat → Nat → Nat
  | 0, _ => 0
  | j + 1, k => if fbc pr sl mu ro te j k = -9 then ro * (ro + 1) ^ j + gdy pr sl mu ro te j k else (fbc pr sl mu ro te j k).toNat * (ro + 1) ^ j + gdy pr sl mu ro te j (k ||| 2 ^ (fbc pr sl mu ro te j k).toNat)
section GD
variable {pr sl mu : Nat → Int} {ro te : Nat}
theorem fbc_in (j k : Nat) : -9 ≤ fbc pr sl mu ro te j k ∧ fbc pr sl mu ro te j k < (ro : Int) ∧ (fbc pr sl mu ro te j k < 0 → fbc pr sl mu ro te j k = -9) := by
  have h := fob_in (dpt pr sl mu ro te j) (dpt pr sl mu ro te (j + 1) k) pr sl mu (te - (j + 1)) k ro 0
  rw [Nat.zero_add] at h
  exact h
theorem fbc_y {j k : Nat} (h : 0 ≤ fbc pr sl mu ro te j k) : (cT pr sl mu (te - (j + 1)) k (fbc pr sl mu ro te j k).toNat ∧ dpt pr sl mu ro te j (k ||| 2 ^ (fbc pr sl mu ro te j k).toNat) + 1000 + pr (fbc pr sl mu ro te j k).toNat = dpt pr sl mu ro te (j + 1) k) ∧ ∀ i, i < (fbc pr sl mu ro te j k).toNat → ¬ (cT pr sl mu (te - (j + 1)) k i ∧ dpt pr sl mu ro te j (k ||| 2 ^ i) + 1000 + pr i = dpt pr sl mu ro te (j + 1) k) := ⟨(fob_y ro 0 h).1, fun i hi => (fob_y ro 0 h).2 i (Nat.zero_le _) hi⟩
theorem fbc_n {j k : Nat} (h : fbc pr sl mu ro te j k = -9) (i : Nat) (hi : i < ro) : ¬ (cT pr sl mu (te - (j + 1)) k i ∧ dpt pr sl mu ro te j (k ||| 2 ^ i) + 1000 + pr i = dpt pr sl mu ro te (j + 1) k) := fob_n ro 0 h i (Nat.zero_le _) (by omega)
theorem dpt_0 (hp : ∀ i, 0 ≤ pr i ∧ pr i ≤ 24) (j k : Nat) : 0 ≤ dpt pr sl mu ro te j k := (dpt_in hp ro te j k).1
theorem Vt_le (hp : ∀ i, 0 ≤ pr i ∧ pr i ≤ 24) : ∀ j k y, y < (ro + 1) ^ j → Vt pr sl mu ro te j k y ≤ dpt pr sl mu ro te j k
  | 0, _, _, _ => Int.le_refl _
  | j + 1, k, y, hy => by
    have hB : 0 < (ro + 1) ^ j := Nat.pow_pos (by omega)
    have hz : y % (ro + 1) ^ j < (ro + 1) ^ j := Nat.mod_lt _ hB
    have h0 := dpt_0 (sl := sl) (mu := mu) (ro := ro) (te := te) hp (j + 1) k
    unfold Vt
    split
    · rename_i hr
      split
      · rename_i hc
        have ih := Vt_le hp j (k ||| 2 ^ (y / (ro + 1) ^ j)) _ hz
        have hm : dpt pr sl mu ro te j (k ||| 2 ^ (y / (ro + 1) ^ j)) + 1000 + pr (y / (ro + 1) ^ j) ≤ dpt pr sl mu ro te (j + 1) k := mfr_ge hc ro hr
        split <;> omega
      · omega
    · have ih := Vt_le hp j k _ hz
      have hm : dpt pr sl mu ro te j k ≤ dpt pr sl mu ro te (j + 1) k := mfr_0 ro
      omega
theorem gdy_lt : ∀ j k, gdy pr sl mu ro te j k < (ro + 1) ^ j
  | 0, _ => by show 0 < (ro + 1) ^ 0; exact Nat.pow_pos (by omega)
  | j + 1, k => by
    have hc := fbc_in (pr := pr) (sl := sl) (mu := mu) (ro := ro) (te := te) j k
    have step : ∀ c g, c ≤ ro → g < (ro + 1) ^ j → c * (ro + 1) ^ j + g < (ro + 1) ^ (j + 1) := fun c g h1 h2 => by
      have h3 : c * (ro + 1) ^ j ≤ ro * (ro + 1) ^ j := Nat.mul_le_mul_right _ h1
      have h5 : (ro + 1) ^ (j + 1) = ro * (ro + 1) ^ j + (ro + 1) ^ j := by rw [Nat.pow_succ, Nat.mul_comm, Nat.add_mul, Nat.one_mul]
      omega
    unfold gdy
    split
    · exact step _ _ (Nat.le_refl _) (gdy_lt j k)
    · exact step _ _ (by omega) (gdy_lt j _)
theorem gdy_V (hp : ∀ i, 0 ≤ pr i ∧ pr i ≤ 24) : ∀ j k, Vt pr sl mu ro te j k (gdy pr sl mu ro te j k) = dpt pr sl mu ro te j k
  | 0, _ => rfl
  | j + 1, k => by
    have hc := fbc_in (pr := pr) (sl := sl) (mu := mu) (ro := ro) (te := te) j k
    by_cases h9 : fbc pr sl mu ro te j k = -9
    · have e : gdy pr sl mu ro te (j + 1) k = ro * (ro + 1) ^ j + gdy pr sl mu ro te j k := if_pos h9
      have hd := dm (c := ro) (gdy_lt (pr := pr) (sl := sl) (mu := mu) (ro := ro) (te := te) j k)
      rw [e]
      unfold Vt
      rw [hd.1, hd.2, if_neg (Nat.lt_irrefl _), gdy_V hp j k]
      rcases mfr_or (b1 := dpt pr sl mu ro te j) (pr := pr) (sl := sl) (mu := mu) (t := te - (j + 1)) (k := k) ro with h | ⟨r, h1, h2, h3⟩
      · exact h.symm
      · exact absurd ⟨h2, h3.symm⟩ (fbc_n h9 r h1)
    · have e : gdy pr sl mu ro te (j + 1) k = (fbc pr sl mu ro te j k).toNat * (ro + 1) ^ j + gdy pr sl mu ro te j (k ||| 2 ^ (fbc pr sl mu ro te j k).toNat) := if_neg h9
      have hd := dm (c := (fbc pr sl mu ro te j k).toNat) (gdy_lt (pr := pr) (sl := sl) (mu := mu) (ro := ro) (te := te) j (k ||| 2 ^ (fbc pr sl mu ro te j k).toNat))
      have hy := (fbc_y (show 0 ≤ fbc pr sl mu ro te j k by omega)).1
      have h0 := dpt_0 (sl := sl) (mu := mu) (ro := ro) (te := te) hp j (k ||| 2 ^ (fbc pr sl mu ro te j k).toNat)
      rw [e]
      unfold Vt
      rw [hd.1, hd.2, if_pos (show (fbc pr sl mu ro te j k).toNat < ro by omega), if_pos hy.1, gdy_V hp j _, if_neg (by omega)]
      exact hy.2
theorem gdy_f (hp : ∀ i, 0 ≤ pr i ∧ pr i ≤ 24) : ∀ j k y, y < gdy pr sl mu ro te j k → Vt pr sl mu ro te j k y < dpt pr sl mu ro te j k
  | 0, _, y, h => absurd h (Nat.not_lt_zero _)
  | j + 1, k, y, hy => by
    have hB : 0 < (ro + 1) ^ j := Nat.pow_pos (by omega)
    have hz : y % (ro + 1) ^ j < (ro + 1) ^ j := Nat.mod_lt _ hB
    have hyz := Nat.div_add_mod y ((ro + 1) ^ j)
    have h0 := dpt_0 (sl := sl) (mu := mu) (ro := ro) (te := te) hp (j + 1) k
    have hc := fbc_in (pr := pr) (sl := sl) (mu := mu) (ro := ro) (te := te) j k
    have hm0 : dpt pr sl mu ro te j k ≤ dpt pr sl mu ro te (j + 1) k := mfr_0 ro
    -- where y stands against the choice
    have hpos : ∀ c g, g < (ro + 1) ^ j → y < c * (ro + 1) ^ j + g → y / (ro + 1) ^ j < c ∨ (y / (ro + 1) ^ j = c ∧ y % (ro + 1) ^ j < g) := fun c g hg h => by
      have h1 : y / (ro + 1) ^ j < c + 1 := Nat.div_lt_of_lt_mul (by rw [Nat.mul_comm, Nat.add_mul, Nat.one_mul]; omega)
      by_cases h2 : y / (ro + 1) ^ j = c
      · refine Or.inr ⟨h2, ?_⟩
        rw [h2, Nat.mul_comm] at hyz
        omega
      · exact Or.inl (by omega)
    have room : ∀ r, r = y / (ro + 1) ^ j → r < ro → ¬ (cT pr sl mu (te - (j + 1)) k r ∧ dpt pr sl mu ro te j (k ||| 2 ^ r) + 1000 + pr r = dpt pr sl mu ro te (j + 1) k) → Vt pr sl mu ro te (j + 1) k y < dpt pr sl mu ro te (j + 1) k := fun r er hr hn => by
      unfold Vt
      rw [← er, if_pos hr]
      split
      · rename_i hcc
        have ih := Vt_le (sl := sl) (mu := mu) (te := te) hp j (k ||| 2 ^ r) _ hz
        have hm : dpt pr sl mu ro te j (k ||| 2 ^ r) + 1000 + pr r ≤ dpt pr sl mu ro te (j + 1) k := mfr_ge hcc ro hr
        have hne : ¬ dpt pr sl mu ro te j (k ||| 2 ^ r) + 1000 + pr r = dpt pr sl mu ro te (j + 1) k := fun q => hn ⟨hcc, q⟩
        split <;> omega
      · omega
    by_cases h9 : fbc pr sl mu ro te j k = -9
    · have e : gdy pr sl mu ro te (j + 1) k = ro * (ro + 1) ^ j + gdy pr sl mu ro te j k := if_pos h9
      rw [e] at hy
      rcases hpos _ _ (gdy_lt j k) hy with h | ⟨h, h2⟩
      · exact room _ rfl h (fbc_n h9 _ h)
      · unfold Vt
        rw [h, if_neg (Nat.lt_irrefl _)]
        have := gdy_f hp j k _ h2
        omega
    · have e : gdy pr sl mu ro te (j + 1) k = (fbc pr sl mu ro te j k).toNat * (ro + 1) ^ j + gdy pr sl mu ro te j (k ||| 2 ^ (fbc pr sl mu ro te j k).toNat) := if_neg h9
      rw [e] at hy
      have hyy := fbc_y (show 0 ≤ fbc pr sl mu ro te j k by omega)
      rcases hpos _ _ (gdy_lt j _) hy with h | ⟨h, h2⟩
      · exact room _ rfl (by omega) (hyy.2 _ h)
      · have ih := gdy_f hp j _ _ h2
        have hq := hyy.1.2
        unfold Vt
        rw [h, if_pos (show (fbc pr sl mu ro te j k).toNat < ro by omega), if_pos hyy.1.1]
        show (if Vt pr sl mu ro te j (k ||| 2 ^ (fbc pr sl mu ro te j k).toNat) (y % (ro + 1) ^ j) < 0 then (-1 : Int) else _) < _
        have hq : dpt pr sl mu ro te j (k ||| 2 ^ (fbc pr sl mu ro te j k).toNat) + 1000 + pr (fbc pr sl mu ro te j k).toNat = dpt pr sl mu ro te (j + 1) k := hyy.1.2
        split <;> omega
end GD
