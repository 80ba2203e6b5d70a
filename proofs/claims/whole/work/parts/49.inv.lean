/-! the law's invariant: what holds between the class and the model behind q calls -/
def encS (S : NowS) : Nat → Int := enc S.1 S.2.1 S.2.2.1 S.2.2.2.1 S.2.2.2.2
/-- a day as it can be behind q calls -/
def DG (q ro te : Nat) (S : NowS) : Prop := (0 ≤ S.1 ∧ S.1 ≤ 99) ∧ ((∀ i, -9 ≤ S.2.1 i ∧ S.2.1 i < 6) ∧ (∀ i, 0 ≤ S.2.2.1 i ∧ S.2.2.1 i ≤ 24) ∧ (∀ i, 0 ≤ S.2.2.2.1 i ∧ S.2.2.2.1 i ≤ 24 * (q : Int)) ∧ (∀ i, 0 ≤ S.2.2.2.2 i ∧ S.2.2.2.2 i ≤ 9999)) ∧ NI S.2.1 te ∧ (∀ t, S.2.1 t = -9 ∨ (0 ≤ S.2.1 t ∧ S.2.1 t < (ro : Int))) ∧ (∀ t, te ≤ t → S.2.2.2.2 t = 0) ∧ (∀ t, te ≤ t → S.2.2.1 t = 0) ∧ (∀ t, te ≤ t → S.2.2.2.1 t = 0)
section DGS
variable {q ro te : Nat} {day : Int} {hm tk py db : Nat → Int}
theorem DG.nb {S : NowS} (h : DG q ro te S) (hq : q ≤ 64) : NB S.2.1 S.2.2.1 S.2.2.2.1 S.2.2.2.2 := ⟨h.2.1.1, h.2.1.2.1, fun i => by have := h.2.1.2.2.1 i; omega, h.2.1.2.2.2⟩
theorem DG.mono {S : NowS} (h : DG q ro te S) : DG (q + 1) ro te S := ⟨h.1, ⟨h.2.1.1, h.2.1.2.1, fun i => by have := h.2.1.2.2.1 i; omega, h.2.1.2.2.2⟩, h.2.2⟩
theorem DG.new (q ro te : Nat) : DG q ro te (0, (fun _ => -9), (fun _ => 0), (fun _ => 0), (fun _ => 0)) :=
  ⟨⟨Int.le_refl _, by decide⟩, ⟨fun _ => ⟨Int.le_refl _, by show (-9 : Int) < 6; decide⟩, fun _ => ⟨Int.le_refl _, by show (0 : Int) ≤ 24; decide⟩, fun _ => ⟨Int.le_refl _, by show (0 : Int) ≤ 24 * (q : Int); omega⟩, fun _ => ⟨Int.le_refl _, by show (0 : Int) ≤ 9999; decide⟩⟩, ⟨fun _ _ => rfl, fun _ _ _ h => absurd rfl h⟩, fun _ => Or.inl rfl, fun _ _ => rfl, fun _ _ => rfl, fun _ _ => rfl⟩
theorem upv {f : Nat → Int} {k i : Nat} {v a b : Int} (h : a ≤ f i ∧ f i ≤ b) (hv : a ≤ v ∧ v ≤ b) : a ≤ va_up f k v i ∧ va_up f k v i ≤ b := by
  unfold va_up
  split
  · exact hv
  · exact h
theorem DG.moves (h : DG q ro te (day, hm, tk, py, db)) (hte : te ≤ 6) (hro : ro ≤ 6) {t r : Int} (ht : 0 ≤ t ∧ t < (te : Int)) (hr : r = -1 ∨ (0 ≤ r ∧ r < (ro : Int))) (hd : r = -1 ∨ dwl hm r 6 0 = -9) : DG (q + 1) ro te (day, va_up hm t.toNat (if r = -1 then -9 else r), tk, py, db) := by
  obtain ⟨h1, ⟨h2, h3, h4, h5⟩, ⟨h6, h6b⟩, h7, h8⟩ := h
  have hin : -9 ≤ (if r = -1 then (-9 : Int) else r) ∧ (if r = -1 then (-9 : Int) else r) < 6 := by split <;> omega
  refine ⟨h1, ⟨fun i => ?_, h3, fun i => ?_, h5⟩, ⟨fun i hi => ?_, fun i j hij hne => ?_⟩, fun i => ?_, h8⟩
  · show -9 ≤ va_up hm t.toNat _ i ∧ va_up hm t.toNat _ i < 6
    have := h2 i
    unfold va_up
    split
    · exact hin
    · exact this
  · have := h4 i
    exact ⟨this.1, by show py i ≤ 24 * ((q + 1 : Nat) : Int); have h9 : py i ≤ 24 * (q : Int) := this.2; omega⟩
  · show va_up hm t.toNat _ i = -9
    rw [up_n (by omega)]
    exact h6 i hi
  · have hij : va_up hm t.toNat (if r = -1 then (-9 : Int) else r) i = va_up hm t.toNat (if r = -1 then (-9 : Int) else r) j := hij
    have hne : ¬ va_up hm t.toNat (if r = -1 then (-9 : Int) else r) i = -9 := hne
    have hfree : ∀ u, ¬ r = -1 → ¬ hm u = r := fun u hr1 => by
      have hdd : dwl hm r 6 0 = -9 := by omega
      by_cases hu : u < 6
      · exact dwl_ne 6 0 hdd u (by omega) (by omega)
      · have := h6 u (by omega)
        have h9 : hm u = -9 := this
        omega
    by_cases ei : i = t.toNat <;> by_cases ej : j = t.toNat
    · rw [ei, ej]
    · rw [ei, up_s, up_n ej] at hij
      rw [ei, up_s] at hne
      by_cases hr1 : r = -1
      · rw [if_pos hr1] at hne; exact absurd rfl hne
      · rw [if_neg hr1] at hij
        exact absurd hij.symm (hfree j hr1)
    · rw [ej, up_s, up_n ei] at hij
      rw [up_n ei] at hne
      by_cases hr1 : r = -1
      · rw [if_pos hr1] at hij; exact absurd hij hne
      · rw [if_neg hr1] at hij
        exact absurd hij (hfree i hr1)
    · rw [up_n ei, up_n ej] at hij
      rw [up_n ei] at hne
      exact h6b i j hij hne
  · show va_up hm t.toNat _ i = -9 ∨ (0 ≤ va_up hm t.toNat _ i ∧ va_up hm t.toNat _ i < (ro : Int))
    have := h7 i
    unfold va_up
    split
    · split <;> omega
    · exact this
theorem DG.talks (h : DG q ro te (day, hm, tk, py, db)) {t ho py0 : Int} {sl : Nat → Int} (hsl : ∀ i, 0 ≤ sl i ∧ sl i ≤ 12) (ht : 0 ≤ t ∧ t < (te : Int)) (hh : 1 ≤ ho ∧ ho ≤ 24) (hp : 0 ≤ py0 ∧ py0 < (te : Int)) (hc : tk t.toNat + ho ≤ 24 - sl t.toNat) : DG (q + 1) ro te (day, hm, va_up tk t.toNat (tk t.toNat + ho), va_up py py0.toNat (py py0.toNat + ho), db) := by
  obtain ⟨h1, ⟨h2, h3, h4, h5⟩, h6, h7, h8, h9, h10⟩ := h
  have a3 := h3 t.toNat
  have a4 := h4 py0.toNat
  have as := hsl t.toNat
  have a3 : 0 ≤ tk t.toNat ∧ tk t.toNat ≤ 24 := a3
  have a4 : 0 ≤ py py0.toNat ∧ py py0.toNat ≤ 24 * (q : Int) := a4
  refine ⟨h1, ⟨h2, fun i => upv (h3 i) ⟨by omega, by omega⟩, fun i => ?_, h5⟩, h6, h7, h8, fun i hi => ?_, fun i hi => ?_⟩
  · have b4 : 0 ≤ py i ∧ py i ≤ 24 * (q : Int) := h4 i
    exact upv ⟨b4.1, by omega⟩ ⟨by omega, by omega⟩
  · show va_up tk t.toNat _ i = 0
    rw [up_n (by omega)]; exact h9 i hi
  · show va_up py py0.toNat _ i = 0
    rw [up_n (by omega)]; exact h10 i hi
theorem DG.lends (h : DG q ro te (day, hm, tk, py, db)) {a t ho : Int} (ha : 0 ≤ a ∧ a < (te : Int)) (ht : 0 ≤ t ∧ t < (te : Int)) (hne : ¬ a = t) (hh : 1 ≤ ho ∧ ho ≤ 99) (hc : ho ≤ db t.toNat) (hc2 : db a.toNat + ho ≤ 9999) : DG (q + 1) ro te (day, hm, tk, py, va_up (va_up db t.toNat (db t.toNat - ho)) a.toNat (db a.toNat + ho)) := by
  obtain ⟨h1, ⟨h2, h3, h4, h5⟩, h6, h7, h8, h9⟩ := h
  have a5 : 0 ≤ db t.toNat ∧ db t.toNat ≤ 9999 := h5 t.toNat
  have b5 : 0 ≤ db a.toNat ∧ db a.toNat ≤ 9999 := h5 a.toNat
  refine ⟨h1, ⟨h2, h3, fun i => ?_, fun i => upv (upv (h5 i) ⟨by omega, by omega⟩) ⟨by omega, by omega⟩⟩, h6, h7, fun i hi => ?_, h9⟩
  · have b4 : 0 ≤ py i ∧ py i ≤ 24 * (q : Int) := h4 i
    exact ⟨b4.1, by show py i ≤ 24 * ((q + 1 : Nat) : Int); omega⟩
  · show va_up (va_up db t.toNat _) a.toNat _ i = 0
    rw [up_n (by omega), up_n (by omega)]; exact h8 i hi
theorem DG.evening {pr sl : Nat → Int} (h : DG q ro te (day, hm, tk, py, db)) (hd : day < 99) : DG (q + 1) ro te (day + 1, hm, (fun _ => 0), (fun _ => 0), evD pr sl py hm db ro te) := by
  obtain ⟨h1, ⟨h2, h3, h4, h5⟩, h6, h7, h8, h9⟩ := h
  have h1 : 0 ≤ day ∧ day ≤ 99 := h1
  refine ⟨⟨by show 0 ≤ day + 1; omega, by show day + 1 ≤ 99; omega⟩, ⟨h2, fun _ => ⟨Int.le_refl _, by show (0 : Int) ≤ 24; decide⟩, fun _ => ⟨Int.le_refl _, by show (0 : Int) ≤ 24 * ((q + 1 : Nat) : Int); omega⟩, evD_in h5 te⟩, h6, h7, fun i hi => ?_, fun _ _ => rfl, fun _ _ => rfl⟩
  show evD pr sl py hm db ro te i = 0
  rw [evD_z te hi]; exact h8 i hi
end DGS
/-- what may be undone -/
def HI (q ro te kn : Nat) (rot : Nat → Nat) (sS : Nat → NowS) (un : Nat → Int) : Prop := kn ≤ 10 ∧ (∀ j, rot j < 10) ∧ (∀ i j, i < 10 → j < 10 → rot i = rot j → i = j) ∧ ∀ j, j < kn → DG q ro te (sS (rot j)) ∧ ∀ k, k < 25 → un (25 * j + k) = encS (sS (rot j)) k
section HIS
variable {q ro te kn : Nat} {rot : Nat → Nat} {sS : Nat → NowS} {un : Nat → Int}
theorem HI.mono (h : HI q ro te kn rot sS un) : HI (q + 1) ro te kn rot sS un := ⟨h.1, h.2.1, h.2.2.1, fun j hj => ⟨(h.2.2.2 j hj).1.mono, (h.2.2.2 j hj).2⟩⟩
theorem nq_psh {kn : Nat} (h : kn ≤ 10) : nqK kn = pshK kn := by unfold nqK pshK; split <;> split <;> omega
theorem HI.push (h : HI q ro te kn rot sS un) {S : NowS} (hS : DG q ro te S) : HI (q + 1) ro te (pshK kn + 1) (pshR kn rot) (va_up sS (pshR kn rot (pshK kn)) S) (ntU un kn (encS S)) := by
  obtain ⟨h1, h2, h3, h4⟩ := h
  have hR : ∀ i j, i < 10 → j < 10 → pshR kn rot i = pshR kn rot j → i = j := fun i j hi hj he => by
    unfold pshR at he
    by_cases hk : kn < 10
    · rw [if_pos hk] at he; exact h3 i j hi hj he
    · rw [if_neg hk] at he
      have e : ∀ x, x < 10 → rotL rot x = rot (if x < 9 then x + 1 else 0) := fun x hx => by
        unfold rotL
        by_cases a : x < 9
        · rw [if_pos a, if_pos a]
        · rw [if_neg a, if_pos (by omega), if_neg a]
      rw [e i hi, e j hj] at he
      have := h3 _ _ (by split <;> omega) (by split <;> omega) he
      split at this <;> split at this <;> omega
  have hK := pshK_lt kn
  refine ⟨by omega, pshR_lt h2, hR, fun j hj => ?_⟩
  have hun : ∀ k, k < 25 → ntU un kn (encS S) (25 * j + k) = if j = pshK kn then encS S k else nqU un kn (25 * j + k) := fun k hk => by
    unfold ntU cpI
    rw [nq_psh h1]
    by_cases e : j = pshK kn
    · rw [if_pos e, if_pos (by rw [e]; omega), e, show 25 * pshK kn + k - 25 * pshK kn = k from by omega]
    · rw [if_neg e, if_neg (by omega)]
  by_cases e : j = pshK kn
  · rw [e, up_s]
    exact ⟨hS.mono, fun k hk => by have := hun k hk; rw [e, if_pos rfl] at this; exact this⟩
  · have hne : ¬ pshR kn rot j = pshR kn rot (pshK kn) := fun q => e (hR _ _ (by omega) hK q)
    rw [up_n hne]
    by_cases hk : kn < 10
    · have ek : pshK kn = kn := if_pos hk
      have eR : pshR kn rot = rot := if_pos hk
      have hj2 := h4 j (by omega)
      rw [eR]
      refine ⟨hj2.1.mono, fun k hk2 => ?_⟩
      rw [hun k hk2, if_neg e]
      have eU : nqU un kn = un := if_neg (by omega)
      rw [eU]; exact hj2.2 k hk2
    · have ek : pshK kn = 9 := if_neg hk
      have eR : pshR kn rot = rotL rot := if_neg hk
      have ej : rotL rot j = rot (j + 1) := if_pos (by omega)
      have hj2 := h4 (j + 1) (by omega)
      rw [eR, ej]
      refine ⟨hj2.1.mono, fun k hk2 => ?_⟩
      rw [hun k hk2, if_neg e]
      have eU : nqU un kn (25 * j + k) = un (25 * (j + 1) + k) := by
        unfold nqU
        rw [if_pos (by omega)]
        unfold shI
        rw [if_pos (by omega)]
        congr 1
        omega
      rw [eU]; exact hj2.2 k hk2
theorem HI.pop (h : HI q ro te kn rot sS un) (h0 : 0 < kn) : HI (q + 1) ro te (kn - 1) rot sS un ∧ DG (q + 1) ro te (sS (rot (kn - 1))) ∧ ∀ k, k < 25 → un (25 * (kn - 1) + k) = encS (sS (rot (kn - 1))) k :=
  ⟨⟨by have := h.1; omega, h.2.1, h.2.2.1, fun j hj => ⟨(h.2.2.2 j (by omega)).1.mono, (h.2.2.2 j (by omega)).2⟩⟩, (h.2.2.2 (kn - 1) (by omega)).1.mono, (h.2.2.2 (kn - 1) (by omega)).2⟩
theorem HI.zero (h : HI q ro te kn rot sS un) (q2 ro2 te2 : Nat) (un2 : Nat → Int) : HI q2 ro2 te2 0 rot sS un2 := ⟨Nat.zero_le _, h.2.1, h.2.2.1, fun j hj => absurd hj (Nat.not_lt_zero _)⟩
theorem cpS_at {sS2 : Nat → NowS} {rot2 : Nat → Nat} (h3 : ∀ i j, i < 10 → j < 10 → rot i = rot j → i = j) : ∀ n, n ≤ 10 → ∀ j, j < n → cpS sS rot sS2 rot2 n (rot j) = sS2 (rot2 j)
  | 0, _, j, h => absurd h (Nat.not_lt_zero _)
  | n + 1, hn, j, h => by
    show va_up (cpS sS rot sS2 rot2 n) (rot n) (sS2 (rot2 n)) (rot j) = _
    by_cases e : j = n
    · rw [e, up_s]
    · rw [up_n (fun q => e (h3 j n (by omega) (by omega) q))]
      exact cpS_at h3 n (by omega) j (by omega)
end HIS
/-- an image: the class's (kept k0, day S, history) and the model's cells from A on -/
def IMI (q ro te : Nat) (k0 : Int) (S : NowS) (kn : Nat) (rot : Nat → Nat) (sS : Nat → NowS) (kp : Nat → Int) (A : Nat) : Prop := (k0 = 0 ∨ k0 = 1) ∧ kp A = k0 ∧ kn ≤ 10 ∧ (∀ j, rot j < 10) ∧ (∀ i j, i < 10 → j < 10 → rot i = rot j → i = j) ∧ (¬ k0 = 0 → kp (A + 1) = ((kn : Nat) : Int) ∧ DG q ro te S ∧ (∀ k, k < 25 → kp (A + 2 + k) = encS S k) ∧ ∀ j, j < kn → DG q ro te (sS (rot j)) ∧ ∀ k, k < 25 → kp (A + 27 + (25 * j + k)) = encS (sS (rot j)) k)
section IMS
variable {q ro te kn kn2 : Nat} {k0 : Int} {S S2 : NowS} {rot rot2 : Nat → Nat} {sS sS2 : Nat → NowS} {kp un : Nat → Int} {A B : Nat}
theorem IMI.mono (h : IMI q ro te k0 S kn rot sS kp A) : IMI (q + 1) ro te k0 S kn rot sS kp A := ⟨h.1, h.2.1, h.2.2.1, h.2.2.2.1, h.2.2.2.2.1, fun h0 => by
  obtain ⟨a, b, c, d⟩ := h.2.2.2.2.2 h0
  exact ⟨a, b.mono, c, fun j hj => ⟨(d j hj).1.mono, (d j hj).2⟩⟩⟩
theorem IMI.off (h : IMI q ro te k0 S kn rot sS kp A) (q2 ro2 te2 : Nat) {kp2 : Nat → Int} (hk : kp2 A = 0) : IMI q2 ro2 te2 0 S kn rot sS kp2 A := ⟨Or.inl rfl, hk, h.2.2.1, h.2.2.2.1, h.2.2.2.2.1, fun h0 => absurd rfl h0⟩
theorem kpK_out {nn : Nat → Int} {k : Nat} (h : k < A ∨ A + 277 ≤ k) : kpK kp A kn nn un k = kp k := by
  unfold kpK cpI
  rw [if_neg (by omega), if_neg (by omega), up_n (by omega), up_n (by omega)]
theorem IMI.other (h : IMI q ro te k0 S kn rot sS kp A) {nn : Nat → Int} {kn2 : Nat} (hAB : A + 277 ≤ B ∨ B + 277 ≤ A) : IMI (q + 1) ro te k0 S kn rot sS (kpK kp B kn2 nn un) A := by
  obtain ⟨h1, h2, h3, h4, h5, h6⟩ := h.mono
  refine ⟨h1, by rw [kpK_out (by omega)]; exact h2, h3, h4, h5, fun h0 => ?_⟩
  obtain ⟨a, b, c, d⟩ := h6 h0
  exact ⟨by rw [kpK_out (by omega)]; exact a, b, fun k hk => by rw [kpK_out (by omega)]; exact c k hk, fun j hj => ⟨(d j hj).1, fun k hk => by rw [kpK_out (by omega)]; exact (d j hj).2 k hk⟩⟩
theorem IMI.keep (h : IMI q ro te k0 S kn rot sS kp A) (hD : DG q ro te S2) (hH : HI q ro te kn2 rot2 sS2 un) : IMI (q + 1) ro te 1 S2 kn2 rot (cpS sS rot sS2 rot2 kn2) (kpK kp A kn2 (encS S2) un) A := by
  obtain ⟨h1, h2, h3, h4, h5, h6⟩ := h
  refine ⟨Or.inr rfl, ?_, hH.1, h4, h5, fun _ => ⟨?_, hD.mono, fun k hk => ?_, fun j hj => ?_⟩⟩
  · unfold kpK cpI
    rw [if_neg (by omega), if_neg (by omega), up_n (by omega), up_s]
  · unfold kpK cpI
    rw [if_neg (by omega), if_neg (by omega), up_s]
  · unfold kpK cpI
    rw [if_neg (by omega), if_pos (by omega), show A + 2 + k - (A + 2) = k from by omega]
  · have hj2 := hH.2.2.2 j hj
    have hk1 := hH.1
    rw [cpS_at h5 kn2 hH.1 j hj]
    refine ⟨hj2.1.mono, fun k hk => ?_⟩
    unfold kpK
    rw [show cpI (cpI (va_up (va_up kp A 1) (A + 1) ((kn2 : Nat) : Int)) (A + 2) (encS S2) 25) (A + 27) un 250 (A + 27 + (25 * j + k)) = un (25 * j + k) from by
      unfold cpI
      rw [if_pos (by omega), show A + 27 + (25 * j + k) - (A + 27) = 25 * j + k from by omega]]
    exact hj2.2 k hk
theorem IMI.back (h : IMI q ro te k0 S kn rot sS kp A) (h0 : ¬ k0 = 0) (hH : HI q ro te kn2 rot2 sS2 un) : HI (q + 1) ro te kn rot2 (cpS sS2 rot2 sS rot kn) (cpI un 0 (fun k => kp (A + 27 + k)) 250) := by
  obtain ⟨h1, h2, h3, h4, h5, h6⟩ := h
  obtain ⟨a, b, c, d⟩ := h6 h0
  refine ⟨h3, hH.2.1, hH.2.2.1, fun j hj => ?_⟩
  rw [cpS_at hH.2.2.1 kn h3 j hj]
  refine ⟨(d j hj).1.mono, fun k hk => ?_⟩
  unfold cpI
  rw [if_pos (by omega), Nat.sub_zero]
  exact (d j hj).2 k hk
end IMS
/-! a text read: bounds, the model's house -/
def RB (S : RdS) : Prop := S.1.2.1 ≤ 200 ∧ (-3000 ≤ S.1.2.2.2 ∧ S.1.2.2.2 ≤ 3000) ∧ S.2.1.1 ≤ 6 ∧ S.2.1.2.1 ≤ 6 ∧ S.2.1.2.2 ≤ 5 ∧ HB S.2.2.1.1 S.2.2.1.2.1 S.2.2.1.2.2.1 S.2.2.1.2.2.2.1 S.2.2.1.2.2.2.2 S.2.2.2.1 S.2.2.2.2
section RBS
variable {f : Nat → Int} {L : Nat}
theorem RB_st (hf : ∀ k, 0 ≤ f k ∧ f k ≤ 255) (hL : L ≤ 200) {S : RdS} (hn : S.1.1 ≤ L) (h : RB S) : RB (rdSt f L S) := by
  have h1 := sT_le f hn
  exact ⟨by show sT f L S.1.1 ≤ 200; omega, vT_in hf L S.1.1 h.2.1, h.2.2⟩
theorem RB_it (hf : ∀ k, 0 ≤ f k ∧ f k ≤ 255) (hL : L ≤ 200) {S : RdS} (hn : S.1.1 ≤ L) (h : RB S) : RB (rdIt f L S) := by
  obtain ⟨⟨n, s, k, v⟩, ⟨ro, te, ch⟩, ⟨pr, sl, mu, wi, ak⟩, ⟨he, li⟩⟩ := S
  exact ⟨itS_le hn ⟨h.1, hL⟩, itV_in hf h.2.1, itRo_le h.2.2.1, itTe_le h.2.2.2.1, itCh_le h.2.2.2.2.1, itHB h.2.2.2.1 h.2.2.2.2.2⟩
theorem rdIt_n {S : RdS} (hn : S.1.1 ≤ L) : (rdIt f L S).1.1 ≤ L := by
  obtain ⟨⟨n, s, k, v⟩, ⟨ro, te, ch⟩, ⟨pr, sl, mu, wi, ak⟩, ⟨he, li⟩⟩ := S
  exact itN_le hn
theorem rdF_B (hf : ∀ k, 0 ≤ f k ∧ f k ≤ 255) (hL : L ≤ 200) : ∀ m i (S : RdS), S.1.1 ≤ L → RB S → i + m ≤ 201 → RB (rdF f L m i S).2 ∧ -210 ≤ (rdF f L m i S).1 ∧ (rdF f L m i S).1 ≤ 201
  | 0, i, S, hn, h, hi => by
    have := h.1
    refine ⟨h, ?_, ?_⟩
    · show -210 ≤ -10 - ((S.1.2.1 : Nat) : Int); omega
    · show -10 - ((S.1.2.1 : Nat) : Int) ≤ 201; omega
  | m + 1, i, S, hn, h, hi => by
    have hs := RB_st hf hL hn h
    have hsn : (rdSt f L S).1.1 ≤ L := (nT_le f hn).2
    have ht := RB_it hf hL hsn hs
    by_cases h0 : kT f L S.1.1 = 0
    · rw [rdF_a h0]
      exact ⟨hs, by show -210 ≤ ((i : Nat) : Int); omega, by show ((i : Nat) : Int) ≤ 201; omega⟩
    · by_cases h1 : rdR f L (rdSt f L S) = 0
      · rw [rdF_b h0 h1]
        have := ht.1
        refine ⟨ht, ?_, ?_⟩
        · show -210 ≤ -10 - (((rdIt f L (rdSt f L S)).1.2.1 : Nat) : Int); omega
        · show -10 - (((rdIt f L (rdSt f L S)).1.2.1 : Nat) : Int) ≤ 201; omega
      · rw [rdF_c h0 h1]
        exact rdF_B hf hL m (i + 1) _ (rdIt_n hsn) ht (by omega)
theorem mrF_HS : ∀ m i (S : RdS) (d : Int) (g : Nat → Int), S.2.1.1 ≤ 6 → S.2.1.2.1 ≤ 6 → S.2.1.2.2 ≤ 5 → HS g S.2.1.1 S.2.1.2.1 S.2.1.2.2 S.2.2.1.1 S.2.2.1.2.1 S.2.2.1.2.2.1 S.2.2.1.2.2.2.1 S.2.2.1.2.2.2.2 S.2.2.2.1 S.2.2.2.2 → (∀ t, S.2.1.2.1 ≤ t → t < 6 → g (9 + 5 * t + 4) = 0) → 0 ≤ (rdF f L m i S).1 →
    HS (mrF f L m S d g).2.2.2.2 (rdF f L m i S).2.2.1.1 (rdF f L m i S).2.2.1.2.1 (rdF f L m i S).2.2.1.2.2 (rdF f L m i S).2.2.2.1.1 (rdF f L m i S).2.2.2.1.2.1 (rdF f L m i S).2.2.2.1.2.2.1 (rdF f L m i S).2.2.2.1.2.2.2.1 (rdF f L m i S).2.2.2.1.2.2.2.2 (rdF f L m i S).2.2.2.2.1 (rdF f L m i S).2.2.2.2.2
  | 0, i, S, d, g, _, _, _, _, _, h0 => by
    have h1 : (0 : Int) ≤ -10 - ((S.1.2.1 : Nat) : Int) := h0
    omega
  | m + 1, i, S, d, g, hro, hte, hch, hH, hz, h0 => by
    obtain ⟨⟨n, s, k, v⟩, ⟨ro, te, ch⟩, ⟨pr, sl, mu, wi, ak⟩, ⟨he, li⟩⟩ := S
    by_cases hk : kT f L n = 0
    · rw [rdF_a hk, mrF_a hk]
      exact hH
    · by_cases hR : itR f L ro te ch (nT f L n) (kT f L n) (vT f L n v) = 0
      · rw [rdF_b (S := ((n, s, k, v), (ro, te, ch), (pr, sl, mu, wi, ak), (he, li))) hk hR] at h0
        have h1 : (0 : Int) ≤ -10 - (((rdIt f L (rdSt f L ((n, s, k, v), (ro, te, ch), (pr, sl, mu, wi, ak), (he, li)))).1.2.1 : Nat) : Int) := h0
        omega
      · rw [rdF_c (S := ((n, s, k, v), (ro, te, ch), (pr, sl, mu, wi, ak), (he, li))) hk hR] at h0 ⊢
        rw [mrF_c hk hR]
        have h2 := HS_it hR hro hte hch hH hz
        exact mrF_HS m (i + 1) _ _ _ (itRo_le hro) (itTe_le hte) (itCh_le hch) h2.1 h2.2 h0
end RBS
/-- all of it -/
def TXI (xt : Nat → Int) (xl xs : Nat) (xv td : Int) : Prop := xl ≤ 200 ∧ (∀ k, 0 ≤ xt k ∧ xt k ≤ 255) ∧ xs ≤ 200 ∧ (-3000 ≤ xv ∧ xv ≤ 3000) ∧ (-3000 ≤ td ∧ td ≤ 3000)
def HSI (ro te ch : Nat) (pr sl mu wi ak : Nat → Int) (he li : Nat → Nat) (hs : Nat → Int) : Prop := ro ≤ 6 ∧ te ≤ 6 ∧ ch ≤ 5 ∧ HB pr sl mu wi ak he li ∧ HS hs ro te ch pr sl mu wi ak he li
def BKI (ln : Nat) (wh : Nat → Nat) (lk : Nat → Int) : Prop := ln ≤ 6 ∧ (∀ i, wh i < 6) ∧ (∀ i, 0 ≤ lk i ∧ lk i ≤ 24)
def OTH (bt : Nat → Nat → Int) (hh wy rc : Nat → Int) (op : Nat → Nat) (gr : Nat → Int) (so : Nat → Nat) : Prop := (∀ t k, 0 ≤ bt t k ∧ bt t k ≤ 100000) ∧ (∀ t, -9 ≤ hh t ∧ hh t < 6) ∧ (∀ i, op i < 64) ∧ (∀ k, 0 ≤ wy k ∧ wy k ≤ 100000) ∧ (∀ k, rc k = 0 ∨ rc k = 1) ∧ (∀ k, 0 ≤ gr k ∧ gr k ≤ 64) ∧ (∀ t, so t < 64)
