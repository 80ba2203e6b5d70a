/-! all rows that fit: the model's search and the class's sets -/
/-- tenant t may have room r where those of k are taken -/
abbrev cF (op : Nat → Nat) (t k r : Nat) : Prop := ¬ (ndiff (op t) k >>> r) &&& 1 = 0
theorem nd_f {o k r : Nat} : (¬ (ndiff o k >>> r) &&& 1 = 0) ↔ ((¬ (o >>> r) &&& 1 = 0) ∧ (k >>> r) &&& 1 = 0) := by
  rw [tb1, ndiff_tb, tb1, tb0]
  cases o.testBit r <;> cases k.testBit r <;> decide
theorem bits_tb (p : Nat → Bool) : ∀ n r, (bits p n).testBit r = (decide (r < n) && p r)
  | 0, r => by show Nat.testBit 0 r = _; simp
  | n + 1, r => by
    have ih := bits_tb p n r
    have e : bits p (n + 1) = if p n then bits p n ||| 2 ^ n else bits p n := rfl
    rw [e]
    by_cases hr : r = n
    · subst hr
      cases hp : p r
      · rw [if_neg (by simp), ih]; simp [hp]
      · rw [if_pos rfl, Nat.testBit_or, ih, Nat.testBit_two_pow_self]; simp
    · have h2 : (decide (r < n + 1)) = decide (r < n) := by
        by_cases h : r < n
        · rw [decide_eq_true h, decide_eq_true (show r < n + 1 by omega)]
        · rw [decide_eq_false h, decide_eq_false (show ¬ r < n + 1 by omega)]
      rw [h2]
      cases hp : p n
      · rw [if_neg (by simp), ih]
      · rw [if_pos rfl, Nat.testBit_or, ih, Nat.testBit_two_pow_of_ne (fun q => hr q.symm)]; simp
theorem oag_f {wh : Nat → Nat} {lk pr sl mu : Nat → Int} {ln ro t r : Nat} (hr : r < ro) : (¬ (oag wh lk pr sl mu ln ro t >>> r) &&& 1 = 0) ↔ iso wh lk pr sl mu ln t r = true := by
  rw [tb1]
  unfold oag
  rw [bits_tb, decide_eq_true hr, Bool.true_and]
  rfl
section FT
variable {wh : Nat → Nat} {lk pr sl mu : Nat → Int} {ln ro te : Nat} {op : Nat → Nat}
/-- 1 where row y of the rooms of the last j tenants fits and takes none of k -/
def Gt (op : Nat → Nat) (ro te : Nat) : Nat → Nat → Nat → Nat
  | 0, _, _ => 1
  | j + 1, k, y => if cF op (te - (j + 1)) k (y / ro ^ j) then Gt op ro te j (k ||| 2 ^ (y / ro ^ j)) (y % ro ^ j) else 0
theorem gme_c {x y : Nat} : ∀ j, (∀ i, i < j → dg ro x i = dg ro y i) → gme ro x j = gme ro y j
  | 0, _ => rfl
  | j + 1, h => by
    unfold gme
    rw [h j (by omega), gme_c j (fun i hi => h i (by omega))]
theorem gok_c {x y : Nat} : ∀ j, (∀ i, i < j → dg ro x i = dg ro y i) → gok wh lk pr sl mu ln ro te x j = gok wh lk pr sl mu ln ro te y j
  | 0, _ => rfl
  | j + 1, h => by
    unfold gok
    rw [h j (by omega), gok_c j (fun i hi => h i (by omega)), gme_c j (fun i hi => h i (by omega))]
theorem Gt_row (hro : ro ≤ 6) (hop : ∀ t, t < te → op t = oag wh lk pr sl mu ln ro t) : ∀ j k y, j ≤ te → k < 64 → y < ro ^ j → Gt op ro te j k y = if gok wh lk pr sl mu ln ro te y j = 1 ∧ gme ro y j &&& k = 0 then 1 else 0
  | 0, k, y, _, _, _ => ((if_pos (show gok wh lk pr sl mu ln ro te y 0 = 1 ∧ gme ro y 0 &&& k = 0 from ⟨rfl, Nat.zero_and k⟩)).trans (show 1 = Gt op ro te 0 k y from rfl)).symm
  | j + 1, k, y, hj, hk, hy => by
    have hro0 : 0 < ro := by
      rcases Nat.eq_zero_or_pos ro with h | h
      · subst h; rw [Nat.zero_pow (by omega)] at hy; omega
      · exact h
    have hB : 0 < ro ^ j := Nat.pow_pos hro0
    have hz : y % ro ^ j < ro ^ j := Nat.mod_lt _ hB
    have hg : ∀ i, i < j → dg ro (y % ro ^ j) i = dg ro y i := fun i hi => dg_mod hi
    have ht := dg_top hy
    have e1 := gok_c (wh := wh) (lk := lk) (pr := pr) (sl := sl) (mu := mu) (ln := ln) (te := te) j hg
    have e2 := gme_c j hg
    have ha := gme_lt hro hro0 y j
    have h01 := gok_01 (wh := wh) (lk := lk) (pr := pr) (sl := sl) (mu := mu) (ln := ln) (ro := ro) (te := te) (x := y) j
    have hr : dg ro y j < ro := Nat.mod_lt _ hro0
    have hst : te - 1 - j = te - (j + 1) := by omega
    have u1 : gok wh lk pr sl mu ln ro te y (j + 1) = if (gme ro y j >>> dg ro y j) &&& 1 = 0 ∧ iso wh lk pr sl mu ln (te - (j + 1)) (dg ro y j) = true then gok wh lk pr sl mu ln ro te y j else 0 := by rw [← hst]; rfl
    have u2 : gme ro y (j + 1) = gme ro y j ||| 2 ^ dg ro y j := rfl
    have ic : cF op (te - (j + 1)) k (dg ro y j) ↔ (iso wh lk pr sl mu ln (te - (j + 1)) (dg ro y j) = true ∧ (k >>> dg ro y j) &&& 1 = 0) := by
      rw [← oag_f hr, ← hop _ (by omega)]
      exact nd_f
    rw [u1, u2]
    unfold Gt
    rw [← ht]
    generalize dg ro y j = r at *
    have hpw := pow_le32 r (by omega)
    have i1 := and_or2 (r := r) (by omega) ha hk
    have i2 := or2_and r (by omega) _ ha k hk
    have ih := Gt_row hro hop j (k ||| 2 ^ r) _ (by omega) (or_lt64 hk (by omega)) hz
    rw [e1, e2] at ih
    by_cases c0 : cF op (te - (j + 1)) k r
    · have c1 := ic.mp c0
      rw [if_pos c0, ih]
      by_cases c3 : gme ro y j >>> r &&& 1 = 0
      · rw [if_pos (show gme ro y j >>> r &&& 1 = 0 ∧ iso wh lk pr sl mu ln (te - (j + 1)) r = true from ⟨c3, c1.1⟩)]
        by_cases c5 : gok wh lk pr sl mu ln ro te y j = 1 ∧ gme ro y j &&& k = 0
        · rw [if_pos ⟨c5.1, i1.mpr ⟨c5.2, c3⟩⟩, if_pos ⟨c5.1, i2.mpr ⟨c5.2, c1.2⟩⟩]
        · rw [if_neg (fun q => c5 ⟨q.1, (i1.mp q.2).1⟩), if_neg (fun q => c5 ⟨q.1, (i2.mp q.2).1⟩)]
      · rw [if_neg (fun q => c3 (i1.mp q.2).2), if_neg (show ¬ (gme ro y j >>> r &&& 1 = 0 ∧ iso wh lk pr sl mu ln (te - (j + 1)) r = true) from fun q => c3 q.1), if_neg (fun q => absurd q.1 (by decide))]
    · rw [if_neg c0]
      symm
      apply if_neg
      intro q
      by_cases c3 : gme ro y j >>> r &&& 1 = 0 ∧ iso wh lk pr sl mu ln (te - (j + 1)) r = true
      · exact c0 (ic.mpr ⟨c3.2, (i2.mp q.2).2⟩)
      · rw [if_neg c3] at q
        exact absurd q.1 (by decide)
theorem Gt_01 : ∀ j k y, Gt op ro te j k y ≤ 1
  | 0, _, _ => Nat.le_refl _
  | j + 1, k, y => by
    unfold Gt
    split
    · exact Gt_01 j _ _
    · omega
/-! sums over rows -/
theorem sumI_add (f : Nat → Int) (a : Nat) : ∀ b, sumI f (a + b) = sumI f a + sumI (fun i => f (a + i)) b
  | 0 => by show sumI f a = sumI f a + 0; omega
  | b + 1 => by
    have ih := sumI_add f a b
    show sumI f (a + b) + f (a + b) = sumI f a + (sumI (fun i => f (a + i)) b + f (a + b))
    omega
theorem sumI_mul (f : Nat → Int) (B : Nat) : ∀ n, sumI f (n * B) = sumI (fun r => sumI (fun z => f (r * B + z)) B) n
  | 0 => by rw [Nat.zero_mul]; rfl
  | n + 1 => by
    rw [Nat.add_mul, Nat.one_mul, sumI_add, sumI_mul f B n]
    rfl
theorem sumI_0 : ∀ n, sumI (fun _ => 0) n = 0
  | 0 => rfl
  | n + 1 => by
    have ih := sumI_0 n
    show sumI (fun _ => 0) n + 0 = 0
    omega
theorem wyd_sum : ∀ j k, wyd op ro te j k = sumI (fun y => ((Gt op ro te j k y : Nat) : Int)) (ro ^ j)
  | 0, k => by rw [Nat.pow_zero]; rfl
  | j + 1, k => by
    rw [Nat.pow_succ, Nat.mul_comm, sumI_mul]
    show wyo (wyd op ro te j) (op (te - (j + 1))) k ro = _
    unfold wyo
    refine sumI_ext (fun r hr => ?_)
    have hz : ∀ z, z < ro ^ j → Gt op ro te (j + 1) k (r * ro ^ j + z) = if cF op (te - (j + 1)) k r then Gt op ro te j (k ||| 2 ^ r) z else 0 := fun z hz => by
      have hd := dm (c := r) hz
      show (if cF op (te - (j + 1)) k ((r * ro ^ j + z) / ro ^ j) then Gt op ro te j (k ||| 2 ^ ((r * ro ^ j + z) / ro ^ j)) ((r * ro ^ j + z) % ro ^ j) else 0) = _
      rw [hd.1, hd.2]
    by_cases hc : (ndiff (op (te - (j + 1))) k >>> r) &&& 1 = 0
    · rw [if_pos hc, ← sumI_0 (ro ^ j)]
      refine sumI_ext (fun z h => ?_)
      rw [hz z h, if_neg (fun q => q hc)]
      rfl
    · rw [if_neg hc, wyd_sum j]
      refine sumI_ext (fun z h => ?_)
      rw [hz z h, if_pos hc]
theorem sumI_pos {f : Nat → Int} (h : ∀ i, 0 ≤ f i) : ∀ n, 0 ≤ sumI f n ∧ (0 < sumI f n ↔ ∃ i, i < n ∧ 0 < f i)
  | 0 => ⟨Int.le_refl _, ⟨fun q => absurd q (Int.lt_irrefl 0), fun ⟨i, hi, _⟩ => absurd hi (Nat.not_lt_zero _)⟩⟩
  | n + 1 => by
    have ih := sumI_pos h n
    have hn := h n
    have e : sumI f (n + 1) = sumI f n + f n := rfl
    refine ⟨by omega, ⟨fun q => ?_, fun ⟨i, hi, hp⟩ => ?_⟩⟩
    · by_cases h1 : 0 < sumI f n
      · obtain ⟨i, hi, hp⟩ := ih.2.mp h1
        exact ⟨i, by omega, hp⟩
      · exact ⟨n, by omega, by omega⟩
    · by_cases e2 : i = n
      · subst e2; omega
      · have := ih.2.mpr ⟨i, by omega, hp⟩
        omega
theorem wyd_pos (j k : Nat) : 0 < wyd op ro te j k ↔ ∃ y, y < ro ^ j ∧ Gt op ro te j k y = 1 := by
  rw [wyd_sum]
  have h := (sumI_pos (f := fun y => ((Gt op ro te j k y : Nat) : Int)) (fun i => Int.natCast_nonneg _) (ro ^ j)).2
  rw [h]
  constructor
  · rintro ⟨i, hi, hp⟩
    have := Gt_01 (op := op) (ro := ro) (te := te) j k i
    exact ⟨i, hi, by omega⟩
  · rintro ⟨i, hi, hp⟩
    exact ⟨i, hi, by omega⟩
theorem wyd_nn (j k : Nat) : 0 ≤ wyd op ro te j k := by
  rw [wyd_sum]
  exact (sumI_pos (f := fun y => ((Gt op ro te j k y : Nat) : Int)) (fun i => Int.natCast_nonneg _) (ro ^ j)).1
theorem ftW_sum : ∀ n, ((ftW wh lk pr sl mu ln ro te n : Nat) : Int) = sumI (fun x => ((gok wh lk pr sl mu ln ro te x te : Nat) : Int)) n
  | 0 => rfl
  | n + 1 => by
    have ih := ftW_sum n
    show ((ftW wh lk pr sl mu ln ro te n + gok wh lk pr sl mu ln ro te n te : Nat) : Int) = sumI _ n + ((gok wh lk pr sl mu ln ro te n te : Nat) : Int)
    rw [← ih]
    omega
theorem frw_eq : frw ro te = ro ^ te := by
  unfold frw
  by_cases h : ro = 0 ∧ 0 < te
  · rw [if_pos h, h.1, Nat.zero_pow h.2]
  · rw [if_neg h]
theorem Gt_top (hro : ro ≤ 6) (hop : ∀ t, t < te → op t = oag wh lk pr sl mu ln ro t) {x : Nat} (hx : x < ro ^ te) : Gt op ro te te 0 x = gok wh lk pr sl mu ln ro te x te := by
  have h01 := gok_01 (wh := wh) (lk := lk) (pr := pr) (sl := sl) (mu := mu) (ln := ln) (ro := ro) (te := te) (x := x) te
  rw [Gt_row hro hop te 0 x (Nat.le_refl _) (by decide) hx]
  by_cases h : gok wh lk pr sl mu ln ro te x te = 1
  · rw [if_pos ⟨h, Nat.and_zero _⟩, h]
  · rw [if_neg (fun q => h q.1)]
    omega
theorem ways_eq (hro : ro ≤ 6) (hop : ∀ t, t < te → op t = oag wh lk pr sl mu ln ro t) : ((ftW wh lk pr sl mu ln ro te (frw ro te) : Nat) : Int) = wyd op ro te te 0 := by
  rw [frw_eq, ftW_sum, wyd_sum]
  exact sumI_ext (fun x hx => by rw [Gt_top hro hop hx])
end FT
section FS
variable {op : Nat → Nat} {ro te : Nat}
theorem bits_ext2 {p q : Nat → Bool} : ∀ n, (∀ i, i < n → p i = q i) → bits p n = bits q n
  | 0, _ => rfl
  | n + 1, h => by
    unfold bits
    rw [h n (by omega), bits_ext2 n (fun i hi => h i (by omega))]
theorem fbt_n : ∀ (g n r : Nat), fbt g n r = -9 → ∀ i, r ≤ i → i < r + n → (g >>> i) &&& 1 = 0
  | g, 0, r, _, i, h1, h2 => by omega
  | g, n + 1, r, h, i, h1, h2 => by
    rw [fbt_s] at h
    split at h
    · rename_i hb
      by_cases e : i = r
      · subst e; exact hb
      · exact fbt_n g n (r + 1) h i (by omega) (by omega)
    · omega
theorem fbt_y : ∀ (g n r : Nat), 0 ≤ fbt g n r → ¬ (g >>> (fbt g n r).toNat) &&& 1 = 0 ∧ ∀ i, r ≤ i → i < (fbt g n r).toNat → (g >>> i) &&& 1 = 0
  | g, 0, r, h => by
    have : (0 : Int) ≤ -9 := h
    omega
  | g, n + 1, r, h => by
    rw [fbt_s] at h ⊢
    split at h
    · rename_i hb
      rw [if_pos hb]
      have ih := fbt_y g n (r + 1) h
      refine ⟨ih.1, fun i h1 h2 => ?_⟩
      by_cases e : i = r
      · subst e; exact hb
      · exact ih.2 i (by omega) h2
    · rename_i hb
      rw [if_neg hb, Int.toNat_natCast]
      exact ⟨hb, fun i h1 h2 => by omega⟩
def fsr (op : Nat → Nat) (ro te j k : Nat) : Int := fbt (god (wyd op ro te j) (op (te - (j + 1))) k ro) ro 0
theorem god_tb {wy : Nat → Int} {o k r n : Nat} (hr : r < n) : (¬ (god wy o k n >>> r) &&& 1 = 0) ↔ ((¬ (ndiff o k >>> r) &&& 1 = 0) ∧ 0 < wy (k ||| 2 ^ r)) := by
  rw [tb1]
  unfold god
  rw [bits_tb, decide_eq_true hr, Bool.true_and, decide_eq_true_eq]
theorem fsr_in (j k : Nat) : -9 ≤ fsr op ro te j k ∧ fsr op ro te j k < (ro : Int) ∧ (fsr op ro te j k < 0 → fsr op ro te j k = -9) := by
  have h := fbt_in (god (wyd op ro te j) (op (te - (j + 1))) k ro) ro 0
  rw [Nat.zero_add] at h
  exact h
theorem fsr_n {j k : Nat} (h : fsr op ro te j k = -9) (r : Nat) (hr : r < ro) : ¬ (cF op (te - (j + 1)) k r ∧ 0 < wyd op ro te j (k ||| 2 ^ r)) := fun q => (god_tb hr).mpr q (fbt_n _ ro 0 h r (Nat.zero_le _) (by omega))
theorem fsr_y {j k : Nat} (h : 0 ≤ fsr op ro te j k) : (cF op (te - (j + 1)) k (fsr op ro te j k).toNat ∧ 0 < wyd op ro te j (k ||| 2 ^ (fsr op ro te j k).toNat)) ∧ ∀ r, r < (fsr op ro te j k).toNat → ¬ (cF op (te - (j + 1)) k r ∧ 0 < wyd op ro te j (k ||| 2 ^ r)) := by
  have hi := fsr_in (op := op) (ro := ro) (te := te) j k
  have hy := fbt_y (god (wyd op ro te j) (op (te - (j + 1))) k ro) ro 0 h
  exact ⟨(god_tb (show (fsr op ro te j k).toNat < ro by omega)).mp hy.1, fun r hr q => (god_tb (show r < ro by omega)).mpr q (hy.2 r (Nat.zero_le _) hr)⟩
theorem wyd_fsr {j k : Nat} (h : 0 < wyd op ro te (j + 1) k) : 0 ≤ fsr op ro te j k := by
  have hi := fsr_in (op := op) (ro := ro) (te := te) j k
  by_cases h0 : 0 ≤ fsr op ro te j k
  · exact h0
  · exfalso
    have h9 := fsr_n (hi.2.2 (by omega))
    obtain ⟨y, hy, hG⟩ := (wyd_pos (j + 1) k).mp h
    have hro0 : 0 < ro := by
      rcases Nat.eq_zero_or_pos ro with h | h
      · subst h; rw [Nat.zero_pow (by omega)] at hy; omega
      · exact h
    have hB : 0 < ro ^ j := Nat.pow_pos hro0
    have hr : y / ro ^ j < ro := Nat.div_lt_of_lt_mul (by rw [← Nat.pow_succ]; exact hy)
    have e : Gt op ro te (j + 1) k y = if cF op (te - (j + 1)) k (y / ro ^ j) then Gt op ro te j (k ||| 2 ^ (y / ro ^ j)) (y % ro ^ j) else 0 := rfl
    rw [e] at hG
    by_cases hc : cF op (te - (j + 1)) k (y / ro ^ j)
    · rw [if_pos hc] at hG
      exact h9 _ hr ⟨hc, (wyd_pos j _).mpr ⟨y % ro ^ j, Nat.mod_lt _ hB, hG⟩⟩
    · rw [if_neg hc] at hG
      exact absurd hG (by decide)
def gdf (op : Nat → Nat) (ro te : Nat) : Nat → Nat → Nat
  | 0, _ => 0
  | j + 1, k => (fsr op ro te j k).toNat * ro ^ j + gdf op ro te j (k ||| 2 ^ (fsr op ro te j k).toNat)
theorem gdf_all : ∀ j k, 0 < wyd op ro te j k → gdf op ro te j k < ro ^ j ∧ Gt op ro te j k (gdf op ro te j k) = 1 ∧ ∀ y, y < gdf op ro te j k → Gt op ro te j k y = 0
  | 0, k, _ => ⟨by show 0 < ro ^ 0; rw [Nat.pow_zero]; decide, rfl, fun y h => absurd h (Nat.not_lt_zero _)⟩
  | j + 1, k, h => by
    have h0 := wyd_fsr h
    have hi := fsr_in (op := op) (ro := ro) (te := te) j k
    have hy := fsr_y h0
    have ih := gdf_all j _ hy.1.2
    have hd := dm (c := (fsr op ro te j k).toNat) ih.1
    have hB : 0 < ro ^ j := by omega
    have e : gdf op ro te (j + 1) k = (fsr op ro te j k).toNat * ro ^ j + gdf op ro te j (k ||| 2 ^ (fsr op ro te j k).toNat) := rfl
    refine ⟨?_, ?_, fun y hlt => ?_⟩
    · have h3 : ((fsr op ro te j k).toNat + 1) * ro ^ j ≤ ro * ro ^ j := Nat.mul_le_mul_right _ (by omega)
      have h5 : ro ^ (j + 1) = ro * ro ^ j := by rw [Nat.pow_succ, Nat.mul_comm]
      rw [Nat.add_mul, Nat.one_mul] at h3
      rw [e]
      omega
    · rw [e]
      unfold Gt
      rw [hd.1, hd.2, if_pos hy.1.1]
      exact ih.2.1
    · rw [e] at hlt
      have hyz := Nat.div_add_mod y (ro ^ j)
      have hz : y % ro ^ j < ro ^ j := Nat.mod_lt _ hB
      have h1 : y / ro ^ j < (fsr op ro te j k).toNat + 1 := Nat.div_lt_of_lt_mul (by rw [Nat.mul_comm, Nat.add_mul, Nat.one_mul]; omega)
      unfold Gt
      by_cases h2 : y / ro ^ j = (fsr op ro te j k).toNat
      · rw [h2, if_pos hy.1.1]
        refine ih.2.2 _ ?_
        rw [h2, Nat.mul_comm] at hyz
        omega
      · have hn := hy.2 (y / ro ^ j) (by omega)
        by_cases hc : cF op (te - (j + 1)) k (y / ro ^ j)
        · rw [if_pos hc]
          have h01 := Gt_01 (op := op) (ro := ro) (te := te) j (k ||| 2 ^ (y / ro ^ j)) (y % ro ^ j)
          by_cases hg : Gt op ro te j (k ||| 2 ^ (y / ro ^ j)) (y % ro ^ j) = 0
          · exact hg
          · exact absurd ⟨hc, (wyd_pos j _).mpr ⟨_, hz, by omega⟩⟩ hn
        · rw [if_neg hc]
theorem gdf_top {j k : Nat} (h : 0 < wyd op ro te (j + 1) k) : dg ro (gdf op ro te (j + 1) k) j = (fsr op ro te j k).toNat ∧ gdf op ro te (j + 1) k % ro ^ j = gdf op ro te j (k ||| 2 ^ (fsr op ro te j k).toNat) := by
  have hy := fsr_y (wyd_fsr h)
  have ih := gdf_all j _ hy.1.2
  have hd := dm (c := (fsr op ro te j k).toNat) ih.1
  exact ⟨by rw [dg_top (gdf_all (j + 1) k h).1]; exact hd.1, hd.2⟩
theorem cF_pop (hro : ro ≤ 6) {t k r : Nat} (hk : k < 2 ^ ro) (hr : r < ro) (hc : cF op t k r) : popc (k ||| 2 ^ r) = popc k + 1 ∧ k ||| 2 ^ r < 2 ^ ro ∧ k < k ||| 2 ^ r := by
  have h64 := (pow_le64 ro hro).2
  have h1 := popc_or k (by omega) r (by omega) (nd_f.mp hc).2
  refine ⟨h1, Nat.or_lt_two_pow hk (Nat.pow_lt_pow_right (by decide) hr), ?_⟩
  have hle : k ≤ k ||| 2 ^ r := Nat.left_le_or
  by_cases e : k = k ||| 2 ^ r
  · rw [← e] at h1; omega
  · omega
theorem slvW_at {wy : Nat → Int} {k : Nat} (hk : k < 2 ^ ro) : slvW wy op ro te 0 k = wyd op ro te (te - popc k) k := if_pos ⟨Nat.zero_le _, hk⟩
theorem ffm_fsr {wy : Nat → Int} (hro : ro ≤ 6) {j k : Nat} (hj : j < te) (hk : k < 2 ^ ro) (hp : popc k + (j + 1) = te) : ffm (slvW wy op ro te 0) op ro (popc k) k = fsr op ro te j k := by
  unfold ffm fsr god
  rw [show te - (j + 1) = popc k from by omega]
  congr 1
  refine bits_ext2 ro (fun r hr => ?_)
  by_cases hc : cF op (popc k) k r
  · have h1 := cF_pop hro hk hr hc
    rw [slvW_at h1.2.1, h1.1, show te - (popc k + 1) = j from by omega]
  · have e1 : ∀ P : Prop, (¬ (ndiff (op (popc k)) k >>> r) &&& 1 = 0 ∧ P) ↔ False := fun P => ⟨fun q => hc q.1, fun q => q.elim⟩
    rw [decide_eq_false (fun q => hc q.1), decide_eq_false (fun q => hc q.1)]
theorem frm_eq {wy : Nat → Int} (hro : ro ≤ 6) : ∀ n k, k < 2 ^ ro → popc k + (n + 1) ≤ te → 0 < wyd op ro te (te - popc k) k → frm (slvW wy op ro te 0) op ro n (popc k) k = ((dg ro (gdf op ro te (te - popc k) k) (te - popc k - 1 - n) : Nat) : Int)
  | 0, k, hk, hn, hw => by
    obtain ⟨j, hj⟩ : ∃ j, te - popc k = j + 1 := ⟨te - popc k - 1, by omega⟩
    rw [hj] at hw ⊢
    have h1 := gdf_top hw
    have h0 := wyd_fsr hw
    show ffm _ _ _ _ _ = _
    rw [ffm_fsr hro (show j < te by omega) hk (by omega), show j + 1 - 1 - 0 = j from by omega, h1.1]
    omega
  | n + 1, k, hk, hn, hw => by
    obtain ⟨j, hj⟩ : ∃ j, te - popc k = j + 1 := ⟨te - popc k - 1, by omega⟩
    rw [hj] at hw ⊢
    have h1 := gdf_top hw
    have h0 := wyd_fsr hw
    have hi := fsr_in (op := op) (ro := ro) (te := te) j k
    have hy := fsr_y h0
    have hp := cF_pop hro hk (show (fsr op ro te j k).toNat < ro by omega) hy.1.1
    have ih := frm_eq (wy := wy) hro n (k ||| 2 ^ (fsr op ro te j k).toNat) hp.2.1 (by omega) (by rw [hp.1, show te - (popc k + 1) = j from by omega]; exact hy.1.2)
    rw [hp.1, show te - (popc k + 1) = j from by omega] at ih
    rw [frm_s, ffm_fsr hro (show j < te by omega) hk (by omega), if_neg (by omega), ih, ← h1.2, dg_mod (by omega), show j + 1 - 1 - (n + 1) = j - 1 - n from by omega]
theorem frm_none {wy : Nat → Int} (hro : ro ≤ 6) (hte : 0 < te) (h : ¬ 0 < wyd op ro te te 0) : ∀ n, frm (slvW wy op ro te 0) op ro n 0 0 = -9 := by
  obtain ⟨j, hj⟩ : ∃ j, te = j + 1 := ⟨te - 1, by omega⟩
  have hp0 : popc 0 = 0 := popc_0
  have e := ffm_fsr (op := op) (te := te) (wy := wy) hro (show j < te by omega) (show 0 < 2 ^ ro from Nat.two_pow_pos ro) (by omega)
  rw [hp0] at e
  have hi := fsr_in (op := op) (ro := ro) (te := te) j 0
  have h9 : fsr op ro te j 0 = -9 := by
    by_cases h0 : 0 ≤ fsr op ro te j 0
    · exfalso
      have hy := fsr_y h0
      apply h
      obtain ⟨y, hy1, hy2⟩ := (wyd_pos j _).mp hy.1.2
      rw [wyd_pos]
      have hd := dm (c := (fsr op ro te j 0).toNat) hy1
      refine ⟨(fsr op ro te j 0).toNat * ro ^ j + y, ?_, ?_⟩
      · have h3 : ((fsr op ro te j 0).toNat + 1) * ro ^ j ≤ ro * ro ^ j := Nat.mul_le_mul_right _ (by omega)
        have h5 : ro ^ te = ro * ro ^ j := by rw [hj, Nat.pow_succ, Nat.mul_comm]
        rw [Nat.add_mul, Nat.one_mul] at h3
        omega
      · have e2 : ∀ z, Gt op ro te te 0 z = if cF op (te - (j + 1)) 0 (z / ro ^ j) then Gt op ro te j (0 ||| 2 ^ (z / ro ^ j)) (z % ro ^ j) else 0 := fun z => by
          have e3 : Gt op ro te (j + 1) 0 z = if cF op (te - (j + 1)) 0 (z / ro ^ j) then Gt op ro te j (0 ||| 2 ^ (z / ro ^ j)) (z % ro ^ j) else 0 := rfl
          rw [← e3, ← hj]
        rw [e2, hd.1, hd.2, if_pos hy.1.1]
        exact hy2
    · exact hi.2.2 (by omega)
  intro n
  cases n with
  | zero => show ffm _ _ _ _ _ = _; rw [e, h9]
  | succ n => rw [frm_s, e, h9, if_pos rfl]
end FS
section FR
variable {wh : Nat → Nat} {lk pr sl mu : Nat → Int} {ln ro te : Nat}
theorem rsF_at (x : Nat) (r0 : Nat → Int) : ∀ j t, j ≤ te → t < te → te - 1 - t < j → rsF ro te x 0 r0 j t = ((dg ro x (te - 1 - t) : Nat) : Int)
  | 0, t, _, _, h => absurd h (Nat.not_lt_zero _)
  | j + 1, t, hj, ht, h => by
    show va_up (rsF ro te x 0 r0 j) (te - 1 - j) _ t = _
    by_cases e : t = te - 1 - j
    · have e2 : te - 1 - t = j := by omega
      rw [← e, up_s, e2, if_pos rfl]
    · rw [up_n e]
      exact rsF_at x r0 j t (by omega) ht (by omega)
theorem rsF_id {x wa : Nat} (h : ¬ wa = 0) (r0 : Nat → Int) : ∀ j, rsF ro te x wa r0 j = r0
  | 0 => rfl
  | j + 1 => by
    have ih := rsF_id (x := x) h r0 j
    show va_up (rsF ro te x wa r0 j) (te - 1 - j) (if wa = 0 then _ else rsF ro te x wa r0 j (te - 1 - j)) = r0
    rw [if_neg h, ih]
    funext t
    by_cases e : t = te - 1 - j
    · rw [e, up_s]
    · rw [up_n e]
theorem ftR_sp (rs : Nat → Int) : ∀ n, (ftW wh lk pr sl mu ln ro te n = 0 ∧ (∀ x, x < n → gok wh lk pr sl mu ln ro te x te = 0) ∧ ftR wh lk pr sl mu ln ro te rs n = rs) ∨ (0 < ftW wh lk pr sl mu ln ro te n ∧ ∃ a, a < n ∧ gok wh lk pr sl mu ln ro te a te = 1 ∧ (∀ x, x < a → gok wh lk pr sl mu ln ro te x te = 0) ∧ ∀ t, t < te → ftR wh lk pr sl mu ln ro te rs n t = ((dg ro a (te - 1 - t) : Nat) : Int))
  | 0 => Or.inl ⟨rfl, fun x h => absurd h (Nat.not_lt_zero _), rfl⟩
  | n + 1 => by
    have ih := ftR_sp rs n
    have h01 := gok_01 (wh := wh) (lk := lk) (pr := pr) (sl := sl) (mu := mu) (ln := ln) (ro := ro) (te := te) (x := n) te
    have eW : ftW wh lk pr sl mu ln ro te (n + 1) = ftW wh lk pr sl mu ln ro te n + gok wh lk pr sl mu ln ro te n te := rfl
    have eR : ftR wh lk pr sl mu ln ro te rs (n + 1) = if gok wh lk pr sl mu ln ro te n te = 0 then ftR wh lk pr sl mu ln ro te rs n else rsF ro te n (ftW wh lk pr sl mu ln ro te n) (ftR wh lk pr sl mu ln ro te rs n) te := rfl
    rw [eW, eR]
    by_cases h0 : gok wh lk pr sl mu ln ro te n te = 0
    · rw [if_pos h0, h0, Nat.add_zero]
      rcases ih with ⟨h1, h2, h3⟩ | ⟨h1, a, h2, h3, h4, h5⟩
      · refine Or.inl ⟨h1, fun x hx => ?_, h3⟩
        by_cases e : x = n
        · rw [e]; exact h0
        · exact h2 x (by omega)
      · exact Or.inr ⟨h1, a, by omega, h3, h4, h5⟩
    · rw [if_neg h0]
      refine Or.inr ⟨by omega, ?_⟩
      rcases ih with ⟨h1, h2, h3⟩ | ⟨h1, a, h2, h3, h4, h5⟩
      · refine ⟨n, by omega, by omega, h2, fun t ht => ?_⟩
        rw [h1]
        exact rsF_at n _ te t (Nat.le_refl _) ht (by omega)
      · refine ⟨a, by omega, h3, h4, fun t ht => ?_⟩
        rw [rsF_id (by omega)]
        exact h5 t ht
theorem fits_eq {op : Nat → Nat} {rs wy : Nat → Int} (hro : ro ≤ 6) (hte : te ≤ 6) (hop : ∀ t, t < te → op t = oag wh lk pr sl mu ln ro t) {t : Nat} (ht : t < te) (hrs : rs t = -9) : ftR wh lk pr sl mu ln ro te rs (frw ro te) t = frm (slvW wy op ro te 0) op ro t 0 0 := by
  have hw := ways_eq (wh := wh) (lk := lk) (pr := pr) (sl := sl) (mu := mu) (ln := ln) hro hop
  have hp0 : popc 0 = 0 := popc_0
  rcases ftR_sp (wh := wh) (lk := lk) (pr := pr) (sl := sl) (mu := mu) (ln := ln) (ro := ro) (te := te) rs (frw ro te) with ⟨h1, h2, h3⟩ | ⟨h1, a, h2, h3, h4, h5⟩
  · rw [h3, hrs, frm_none hro (by omega) (by omega)]
  · have hpos : 0 < wyd op ro te te 0 := by omega
    have hg := gdf_all te 0 hpos
    rw [frw_eq] at h2
    have e : a = gdf op ro te te 0 := by
      rcases Nat.lt_trichotomy a (gdf op ro te te 0) with h | h | h
      · have := hg.2.2 a h
        rw [Gt_top hro hop h2] at this
        omega
      · exact h
      · have := h4 _ h
        rw [← Gt_top hro hop hg.1] at this
        omega
    have hf := frm_eq (op := op) (te := te) (wy := wy) hro t 0 (Nat.two_pow_pos ro) (by omega) (by rw [hp0, Nat.sub_zero]; exact hpos)
    rw [hp0, Nat.sub_zero] at hf
    rw [h5 t ht, e, hf]
end FR
