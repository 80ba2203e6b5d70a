/-! the law: answers that are alike -/
section EQS
variable {ro te ln : Nat} {pr sl mu rs hh wy rc lk gr db gp : Nat → Int} {wh op so : Nat → Nat} {a1 : Int}
theorem housed_law (hp : ∀ i, 0 ≤ pr i ∧ pr i ≤ 24) (hro : ro ≤ 6) (hte : te ≤ 6) : (if -2 ≤ a1 ∧ a1 < (te : Int) then (if a1 = -1 then ((cnt (fun t => decide (¬ slvH hh pr sl mu ro te te t = -9)) te : Nat) : Int) else if a1 = -2 then sumI (fun t => if 0 ≤ slvH hh pr sl mu ro te te t ∧ slvH hh pr sl mu ro te te t < (ro : Int) then pr (slvH hh pr sl mu ro te te t).toNat else 0) te else slvH hh pr sl mu ro te te a1.toNat) else -1) = (if -2 ≤ a1 ∧ a1 ≤ ((te : Nat) : Int) - 1 then (if a1 = -1 then (fnS pr sl mu ro te rs ((ro + 1) ^ te)).1.1 else if a1 = -2 then (fnS pr sl mu ro te rs ((ro + 1) ^ te)).1.2 else (fnS pr sl mu ro te rs ((ro + 1) ^ te)).2 a1.toNat) else -1) := by
  have h9 := housed_all (sl := sl) (mu := mu) (rs := rs) (hh := hh) hp hro hte
  by_cases hc : -2 ≤ a1 ∧ a1 < (te : Int)
  · rw [if_pos hc, if_pos (show -2 ≤ a1 ∧ a1 ≤ ((te : Nat) : Int) - 1 from by omega)]
    by_cases h1 : a1 = -1
    · rw [if_pos h1, if_pos h1]; exact h9.1.symm
    · rw [if_neg h1, if_neg h1]
      by_cases h2 : a1 = -2
      · rw [if_pos h2, if_pos h2]; exact h9.2.1.symm
      · rw [if_neg h2, if_neg h2]; exact (h9.2.2 _ (by omega)).symm
  · rw [if_neg hc, if_neg (show ¬ (-2 ≤ a1 ∧ a1 ≤ ((te : Nat) : Int) - 1) from by omega)]
theorem sop_at {t : Nat} (h : t < te) : slvO op wh lk pr sl mu ln ro te t = oag wh lk pr sl mu ln ro t := if_pos h
theorem fits_law (hro : ro ≤ 6) (hte : te ≤ 6) : (if -1 ≤ a1 ∧ a1 < (te : Int) then (if a1 = -1 then (slvW wy (slvO op wh lk pr sl mu ln ro te) ro te 0) 0 else frm (slvW wy (slvO op wh lk pr sl mu ln ro te) ro te 0) (slvO op wh lk pr sl mu ln ro te) ro a1.toNat 0 0) else -1) = (if -1 ≤ a1 ∧ a1 ≤ ((te : Nat) : Int) - 1 then (if a1 < 0 then (((ftW wh lk pr sl mu ln ro te (frw ro te)) : Nat) : Int) else (ftR wh lk pr sl mu ln ro te (fun t => if t < 6 then -9 else rs t) (frw ro te)) a1.toNat) else -1) := by
  have hop : ∀ t, t < te → slvO op wh lk pr sl mu ln ro te t = oag wh lk pr sl mu ln ro t := fun t h => sop_at h
  by_cases hc : -1 ≤ a1 ∧ a1 < (te : Int)
  · rw [if_pos hc, if_pos (show -1 ≤ a1 ∧ a1 ≤ ((te : Nat) : Int) - 1 from by omega)]
    by_cases h1 : a1 = -1
    · rw [if_pos h1, if_pos (show a1 < 0 from by omega), ways_eq hro hop, slvW_at (Nat.two_pow_pos ro), popc_0, Nat.sub_zero]
    · rw [if_neg h1, if_neg (show ¬ a1 < 0 from by omega)]
      exact (fits_eq hro hte hop (show a1.toNat < te by omega) (if_pos (by omega))).symm
  · rw [if_neg hc, if_neg (show ¬ (-1 ≤ a1 ∧ a1 ≤ ((te : Nat) : Int) - 1) from by omega)]
theorem may_law (hro : ro ≤ 6) (hte : te ≤ 6) : (if 0 ≤ a1 ∧ a1 < (te : Int) then ((smr (slvW wy (slvO op wh lk pr sl mu ln ro te) ro te 0) (rcd (slvR rc ro 0) (slvO op wh lk pr sl mu ln ro te) ro te (2 ^ ro)) (slvO op wh lk pr sl mu ln ro te) ro a1.toNat (2 ^ ro) : Nat) : Int) else -1) = (if 0 ≤ a1 ∧ a1 ≤ ((te : Nat) : Int) - 1 then (((ftS wh lk pr sl mu ln ro te (fun t => if t < 6 then 0 else so t) (frw ro te)) a1.toNat : Nat) : Int) else -1) := by
  have hop : ∀ t, t < te → slvO op wh lk pr sl mu ln ro te t = oag wh lk pr sl mu ln ro t := fun t h => sop_at h
  by_cases hc : 0 ≤ a1 ∧ a1 < (te : Int)
  · rw [if_pos hc, if_pos (show 0 ≤ a1 ∧ a1 ≤ ((te : Nat) : Int) - 1 from by omega), may_eq (so := fun t => if t < 6 then 0 else so t) (wy := wy) (rc := rc) hro hop (show a1.toNat < te by omega) (if_pos (show a1.toNat < 6 by omega))]
  · rw [if_neg hc, if_neg (show ¬ (0 ≤ a1 ∧ a1 ≤ ((te : Nat) : Int) - 1) from by omega)]
theorem so_law (hro : ro ≤ 6) (hso : ∀ t, so t < 64) : ∀ t, ftS wh lk pr sl mu ln ro te (fun t => if t < 6 then 0 else so t) (frw ro te) t < 64 := by
  intro t
  have h0 : ∀ t, (fun t => if t < 6 then 0 else so t) t < 64 := fun t => by
    show (if t < 6 then 0 else so t) < 64
    split
    · omega
    · exact hso t
  by_cases h : 0 < te → 0 < ro
  · exact ftS_lt hro h h0 _ t
  · have e : frw ro te = 0 := by unfold frw; rw [if_pos (show ro = 0 ∧ 0 < te from by omega)]
    rw [e]; exact h0 t
theorem gr_law (hte : te ≤ 6) (hgr : ∀ k, 0 ≤ gr k ∧ gr k ≤ 64) : ∀ k, 0 ≤ gtb gr db te (owg db te) k ∧ gtb gr db te (owg db te) k ≤ 64 := by
  have h9 : owg db te < 2 ^ te := bits_lt _ _
  have h64 := (pow_le64 te hte).2
  exact gtb_in hgr hte _ (by omega)
theorem bk_law {α : Type} {kp0 kp1 : Int} {kp : Nat → Int} (h0 : kp 0 = kp0) (h1 : kp 277 = kp1) (x y z : α) : (if (0 ≤ a1 ∧ a1 < 2) ∧ ¬ kp (277 * a1.toNat) = 0 then (if a1.toNat = 0 then x else y) else z) = (if a1 = 0 ∧ ¬ kp0 = 0 then x else if a1 = 1 ∧ ¬ kp1 = 0 then y else z) := by
  by_cases c0 : a1 = 0
  · subst c0
    have e : (277 * (0 : Int).toNat) = 0 := rfl
    rw [e, h0]
    by_cases k0 : kp0 = 0
    · rw [if_neg (fun q => q.2 k0), if_neg (fun q => q.2 k0), if_neg (fun q => absurd q.1 (by decide))]
    · rw [if_pos (show ((0 : Int) ≤ 0 ∧ (0 : Int) < 2) ∧ ¬ kp0 = 0 from ⟨by decide, k0⟩), if_pos (show (0 : Int) = 0 ∧ ¬ kp0 = 0 from ⟨rfl, k0⟩), if_pos (show (0 : Int).toNat = 0 from rfl)]
  · rw [if_neg (show ¬ (a1 = 0 ∧ ¬ kp0 = 0) from fun q => c0 q.1)]
    by_cases c1 : a1 = 1
    · subst c1
      have e : (277 * (1 : Int).toNat) = 277 := rfl
      rw [e, h1]
      by_cases k1 : kp1 = 0
      · rw [if_neg (fun q => q.2 k1), if_neg (fun q => q.2 k1)]
      · rw [if_pos (show ((0 : Int) ≤ 1 ∧ (1 : Int) < 2) ∧ ¬ kp1 = 0 from ⟨by decide, k1⟩), if_pos (show (1 : Int) = 1 ∧ ¬ kp1 = 0 from ⟨rfl, k1⟩), if_neg (show ¬ (1 : Int).toNat = 0 by decide)]
    · rw [if_neg (show ¬ ((0 ≤ a1 ∧ a1 < 2) ∧ ¬ kp (277 * a1.toNat) = 0) from fun q => by have := q.1; omega), if_neg (fun q => c1 q.1)]
theorem bkr_law {kp0 kp1 x y : Int} {kp : Nat → Int} (h0 : kp 0 = kp0) (h1 : kp 277 = kp1) : (if 0 ≤ a1 ∧ a1 < 2 then (if a1 = 0 ∧ ¬ kp0 = 0 then x else if a1 = 1 ∧ ¬ kp1 = 0 then y else -2) else -1) = (if 0 ≤ a1 ∧ a1 < 2 then (if kp (277 * a1.toNat) = 0 then -2 else (if a1.toNat = 0 then x else y)) else -1) := by
  by_cases hc : 0 ≤ a1 ∧ a1 < 2
  · rw [if_pos hc, if_pos hc, ← bk_law h0 h1]
    by_cases hk : kp (277 * a1.toNat) = 0
    · rw [if_neg (fun q => q.2 hk), if_pos hk]
    · rw [if_pos ⟨hc, hk⟩, if_neg hk]
  · rw [if_neg hc, if_neg hc]
theorem ud_law {α : Type} {kn : Nat} (x y : α) : (if kn = 0 then x else y) = (if 0 < kn then y else x) := by
  by_cases h : kn = 0
  · rw [if_pos h, if_neg (show ¬ 0 < kn from by omega)]
  · rw [if_neg h, if_pos (show 0 < kn from by omega)]
theorem zn_swap {a b c d : va_W} : (a ++ (c ++ (b ++ d))).Perm (a ++ (b ++ (c ++ d))) := by
  refine List.Perm.append_left a ?_
  rw [← List.append_assoc, ← List.append_assoc]
  exact List.Perm.append_right d List.perm_append_comm
end EQS
