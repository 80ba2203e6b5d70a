/-! the model: who knows, who watches, the crowd, the odds -/
theorem or_pop : ∀ a, a < 64 → ∀ b, b < 64 → a ||| b = a ∨ popc a + 1 ≤ popc (a ||| b) := by decide +kernel
theorem popc_pw : ∀ te, te < 7 → ∀ m, m < 64 → m < 2 ^ te → popc m ≤ te := by decide +kernel
theorem popc_2k : ∀ k, k < 6 → popc (2 ^ k) = 1 := by decide +kernel
section KN
variable {he : Nat → Nat} {te tl k : Nat}
theorem knw_lt2 (hk : k < te) : ∀ n, knw he te tl k n < 2 ^ te
  | 0 => Nat.pow_lt_pow_right (by decide) hk
  | n + 1 => Nat.or_lt_two_pow (knw_lt2 hk n) (bits_lt _ _)
theorem knw_st {j : Nat} (h : knw he te tl k (j + 1) = knw he te tl k j) : ∀ m, knw he te tl k (j + m) = knw he te tl k j
  | 0 => rfl
  | m + 1 => by
    have ih := knw_st h m
    show knw he te tl k (j + m) ||| hrs he te (knw he te tl k (j + m) &&& tl) = _
    rw [ih]
    exact h
theorem knw_pop (hk : k < te) (hte : te ≤ 6) : ∀ n, (∃ j, j < n ∧ knw he te tl k (j + 1) = knw he te tl k j) ∨ n + 1 ≤ popc (knw he te tl k n)
  | 0 => Or.inr (by show 1 ≤ popc (2 ^ k); rw [popc_2k k (by omega)]; exact Nat.le_refl 1)
  | n + 1 => by
    rcases knw_pop hk hte n with ⟨j, h1, h2⟩ | h
    · exact Or.inl ⟨j, by omega, h2⟩
    · have h1 := knw_lt64 he te tl k (by omega) hte n
      rcases or_pop _ h1 _ (hrs_lt64 he te (knw he te tl k n &&& tl) hte) with h2 | h2
      · exact Or.inl ⟨n, by omega, h2⟩
      · exact Or.inr (by show n + 1 + 1 ≤ popc (knw he te tl k n ||| hrs he te (knw he te tl k n &&& tl)); omega)
theorem knw_fix (hk : k < te) (hte : te ≤ 6) {i : Nat} (hi : te ≤ i + 1) : knw he te tl k i = knw he te tl k te := by
  rcases knw_pop (he := he) (tl := tl) hk hte te with ⟨j, h1, h2⟩ | h
  · have a := knw_st h2 (i - j)
    have b := knw_st h2 (te - j)
    rw [show j + (i - j) = i from by omega] at a
    rw [show j + (te - j) = te from by omega] at b
    rw [a, b]
  · have := popc_pw te (by omega) _ (knw_lt64 he te tl k (by omega) hte te) (knw_lt2 hk te)
    omega
def kwa (he : Nat → Nat) (te tl k : Nat) : Nat → Nat
  | 0 => 0
  | n + 1 => knw he te tl k n
theorem kwa_ne (hk : k < te) (hte : te ≤ 6) {i : Nat} (h : ¬ kwa he te tl k i = knw he te tl k i) : i ≤ te := by
  cases i with
  | zero => omega
  | succ j =>
    by_cases h1 : te ≤ j
    · exact absurd (show kwa he te tl k (j + 1) = knw he te tl k (j + 1) from (knw_fix hk hte (show te ≤ j + 1 by omega)).trans (knw_fix hk hte (show te ≤ j + 1 + 1 by omega)).symm) h
    · omega
theorem kwa_eq (hk : k < te) (hte : te ≤ 6) {i : Nat} (h : kwa he te tl k i = knw he te tl k i) : knw he te tl k i = knw he te tl k te := by
  cases i with
  | zero =>
    have : (0 : Nat) = 2 ^ k := h
    have := pow_le32 k (by omega)
    omega
  | succ j =>
    have h2 : knw he te tl k (j + 1) = knw he te tl k j := h.symm
    by_cases h1 : te ≤ j + 1
    · exact knw_fix hk hte (by omega)
    · have a := knw_st h2 (te - j)
      rw [show j + (te - j) = te from by omega] at a
      rw [h2, a]
end KN
theorem bst2 (ok : Nat → Bool) (w : Nat) : ∀ n, (bst ok w n).2 = if (bst ok w n).1 = -9 then w else popc (bst ok w n).1.toNat
  | 0 => rfl
  | n + 1 => by
    rw [bst_s]
    split
    · show popc n = if (n : Int) = -9 then w else popc ((n : Int)).toNat
      rw [if_neg (by omega), Int.toNat_natCast]
    · exact bst2 ok w n
theorem rnd_none {he : Nat → Nat} {te k : Nat} : ∀ n i, (∀ j, i ≤ j → j < i + n → ¬ knw he te 63 k j = 2 ^ te - 1) → rnd he te k n i = -9
  | 0, _, _ => rfl
  | n + 1, i, h => by
    rw [rnd_s, if_neg (h i (by omega) (by omega))]
    exact rnd_none n (i + 1) (fun j h1 h2 => h j (by omega) (by omega))
theorem rnd_pre {he : Nat → Nat} {te k : Nat} (m : Nat) : ∀ n i, (∃ j, i ≤ j ∧ j < i + n ∧ knw he te 63 k j = 2 ^ te - 1) → rnd he te k (n + m) i = rnd he te k n i
  | 0, i, h => by obtain ⟨j, h1, h2, -⟩ := h; omega
  | n + 1, i, h => by
    rw [show n + 1 + m = (n + m) + 1 from by omega, rnd_s, rnd_s]
    by_cases e : knw he te 63 k i = 2 ^ te - 1
    · rw [if_pos e, if_pos e]
    · rw [if_neg e, if_neg e]
      obtain ⟨j, h1, h2, h3⟩ := h
      refine rnd_pre m n (i + 1) ⟨j, ?_, by omega, h3⟩
      rcases Nat.lt_or_eq_of_le h1 with h4 | h4
      · exact h4
      · subst h4; exact absurd h3 e
theorem rnd7 {he : Nat → Nat} {te k : Nat} (hk : k < te) (hte : te ≤ 6) : rnd he te k 7 0 = rnd he te k te 0 := by
  by_cases h : ∃ j, j < te ∧ knw he te 63 k j = 2 ^ te - 1
  · obtain ⟨j, h1, h2⟩ := h
    have := rnd_pre (he := he) (k := k) (7 - te) te 0 ⟨j, Nat.zero_le _, by omega, h2⟩
    rw [show te + (7 - te) = 7 from by omega] at this
    exact this
  · have hn : ∀ j, j < te → ¬ knw he te 63 k j = 2 ^ te - 1 := fun j h1 h2 => h ⟨j, h1, h2⟩
    rw [rnd_none te 0 (fun j _ h2 => hn j (by omega)), rnd_none 7 0 (fun j _ _ e => by
      by_cases h1 : j < te
      · exact hn j h1 e
      · rw [knw_fix hk hte (show te ≤ j + 1 by omega), ← knw_fix hk hte (show te ≤ (te - 1) + 1 by omega)] at e
        exact hn (te - 1) (by omega) e)]
theorem nd_mask : ∀ te, te < 7 → ∀ s, s < 64 → s < 2 ^ te → ∀ x, x < 64 → ndiff s (x &&& (2 ^ te - 1)) = ndiff s x := by decide +kernel
def sefm (li : Nat → Nat) (ch te set : Nat) : Nat := ors (fun c => if (set >>> c) &&& 1 = 0 then 0 else li c &&& (2 ^ te - 1)) ch
theorem sefm_eq (li : Nat → Nat) (te set : Nat) : ∀ ch, sefm li ch te set = sef li ch set &&& (2 ^ te - 1)
  | 0 => by show 0 = 0 &&& _; simp
  | n + 1 => by
    have ih := sefm_eq li te set n
    unfold sefm sef at ih ⊢
    show ors _ n ||| _ = (ors _ n ||| _) &&& _
    rw [Nat.and_or_distrib_right, ih]
    congr 1
    dsimp only
    split
    · simp
    · rfl
theorem sefm_lt (li : Nat → Nat) (te set : Nat) (h : ∀ i, li i < 64) (ch : Nat) : sefm li ch te set < 64 := by
  rw [sefm_eq]
  exact Nat.lt_of_le_of_lt Nat.and_le_left (sef_lt64 li ch set h)
theorem bst_or (ok : Nat → Bool) (w : Nat) : ∀ n, (bst ok w n).1 = -9 ∨ 0 ≤ (bst ok w n).1
  | 0 => Or.inl rfl
  | n + 1 => by
    rw [bst_s]
    split
    · exact Or.inr (by show (0 : Int) ≤ (n : Int); omega)
    · exact bst_or ok w n
theorem popc_le5 : ∀ n, n < 32 → popc n ≤ 5 := by decide +kernel
theorem kwa_lt {he : Nat → Nat} {te tl k : Nat} (hk : k < 6) (hte : te ≤ 6) : ∀ n, kwa he te tl k n < 64
  | 0 => by show 0 < 64; decide
  | n + 1 => knw_lt64 he te tl k hk hte n
abbrev rm_X9_know : Room := { frames := 1, cells := 0, slots := 0, locals := 23 }
set_option maxHeartbeats 4000000 in
set_option maxRecDepth 100000 in
theorem c_X9_know (l : Launch) (D : va_G) (cy : Nat → ClassId) (ma : Nat → Nat) (xt : Nat → Int) (xl : Nat) (at0 : Nat) (bg : Nat) (tk0 : Int) (td : Int) (rd : Nat → Int) (hs : Nat → Int) (day : Int) (hm : Nat → Int) (tk : Nat → Int) (py : Nat → Int) (db : Nat → Int) (un : Nat → Int) (ud : Nat) (rs : Nat → Int) (be : Int) (bp : Int) (gp : Nat → Int) (ln : Nat) (wh : Nat → Nat) (lk : Nat → Int) (wa : Int) (so : Nat → Nat) (tr : Int) (kp : Nat → Int) (b0 : Nat) (st0 : Nat) (ro : Nat) (te : Nat) (ch : Nat) (pr : Nat → Int) (sl : Nat → Int) (mu : Nat → Int) (wi : Nat → Int) (ak : Nat → Int) (he : Nat → Nat) (li : Nat → Nat) (hb0 : b0 < te) (hst : st0 < 64) (hro : ro ≤ 6) (hte : te ≤ 6) (hch : ch ≤ 5) (hHB : HB pr sl mu wi ak he li) (hHS : HS hs ro te ch pr sl mu wi ak he li) : Met l yX9_know wsX9_know rm_X9_know (pR D cy [((ma 0), .inr (9, [.ref (ma 1), .int (zI ((xl : Nat) : Int)), .int (zI ((at0 : Nat) : Int)), .int (zI ((bg : Nat) : Int)), .int (zI tk0), .int (zI td), .ref (ma 2), .ref (ma 3), .ref (ma 4), .ref (ma 5), .int (zI ((ud : Nat) : Int)), .ref (ma 6), .int (zI be), .int (zI bp), .ref (ma 7), .int (zI ((ln : Nat) : Int)), .ref (ma 8), .ref (ma 9), .int (zI wa), .ref (ma 10), .long (zL tr), .ref (ma 11)])), ((ma 1), .inl (cy 0, 200, .inl (zA xt))), ((ma 2), .inl (cy 0, 44, .inl (zA rd))), ((ma 3), .inl (cy 0, 44, .inl (zA hs))), ((ma 4), .inl (cy 0, 25, .inl (zA (enc day hm tk py db)))), ((ma 5), .inl (cy 0, 250, .inl (zA un))), ((ma 6), .inl (cy 0, 6, .inl (zA rs))), ((ma 7), .inl (cy 0, 64, .inl (zA gp))), ((ma 8), .inl (cy 0, 6, .inl (zA (fun j => ((wh j : Nat) : Int))))), ((ma 9), .inl (cy 0, 6, .inl (zA lk))), ((ma 10), .inl (cy 0, 6, .inl (zA (fun j => ((so j : Nat) : Int))))), ((ma 11), .inl (cy 0, 554, .inl (zA kp)))] [.ref (ma 0), .int (zI ((b0 : Nat) : Int)), .int (zI ((st0 : Nat) : Int))]) (qR ((knw he te st0 b0 te : Nat) : Int)) 0 0 (fun _ => False) := by
  refine met_R (cc := cX9_know) (maxL := 5) (ret := (some .int)) RX9 (by decide) rfl rfl (Nat.le_of_ble_eq_true rfl) ?_
  intro p e s m args below meth c ls Q hx hb hr hml hts hown hlocks hQ hP hK hl
  have hl : lv_has ls 5 [(0, .ref (ma 0)), (1, .int (zI ((b0 : Nat) : Int))), (2, .int (zI ((st0 : Nat) : Int)))] := hl
  refine lv_iconst (v := zI 1) hx hb dX9_know_0 rfl ?_
  refine lv_iload_n hx hb dX9_know_1 rfl (lv_at hl 1 rfl) ?_
  have hp1 := pow_le3 b0 (by omega)
  refine z_ishl (r := ((2 ^ b0 : Nat) : Int)) hx hb (zI_shl1 b0 (by omega)) dX9_know_2 ?_
  refine lv_istore_n (lv' := [(3, .int (zI ((2 ^ b0 : Nat) : Int))), (0, .ref (ma 0)), (1, .int (zI ((b0 : Nat) : Int))), (2, .int (zI ((st0 : Nat) : Int)))]) hx hb dX9_know_3 rfl hl (by decide) rfl (fun ls hl => ?_)
  refine lv_iconst (v := zI 0) hx hb dX9_know_4 rfl ?_
  refine lv_istore (lv' := [(4, .int (zI 0)), (3, .int (zI ((2 ^ b0 : Nat) : Int))), (0, .ref (ma 0)), (1, .int (zI ((b0 : Nat) : Int))), (2, .int (zI ((st0 : Nat) : Int)))]) hx hb dX9_know_5 hl (by decide) rfl (fun ls hl => ?_)
  have loop7 : ∀ (n9 : Nat) (i : Nat), 8 - i < n9 → (i ≤ 7) → ∀ (x7_3 : Int), x7_3 = ((knw he te st0 b0 i : Nat) : Int) → ∀ (x7_4 : Int), x7_4 = ((kwa he te st0 b0 i : Nat) : Int) → ∀ ls : Array Slot, lv_has ls 5 [(0, .ref (ma 0)), (1, .int (zI ((b0 : Nat) : Int))), (2, .int (zI ((st0 : Nat) : Int))), (3, .int (zI x7_3)), (4, .int (zI x7_4))] → W p l e rm_X9_know s m args below meth c s.heap [] 0 0 Q (F0 m 7 ls []) := by
    intro n9
    induction n9 with
    | zero => intro i h9; exact absurd h9 (Nat.not_lt_zero _)
    | succ n9 ih7 =>
      intro i hmu7 hi x7_3 ex7_3 x7_4 ex7_4 ls hl
      subst ex7_3
      subst ex7_4
      have hl : lv_has ls 5 [(0, .ref (ma 0)), (1, .int (zI ((b0 : Nat) : Int))), (2, .int (zI ((st0 : Nat) : Int))), (3, .int (zI ((knw he te st0 b0 i : Nat) : Int))), (4, .int (zI ((kwa he te st0 b0 i : Nat) : Int)))] := hl
      have hf1 := knw_lt64 he te st0 b0 (by omega) hte i
      have hf9 := kwa_lt (he := he) (tl := st0) (k := b0) (by omega) hte i
      have hf2 := hrs_lt64 he te (knw he te st0 b0 i &&& st0) hte
      have hf3 : ¬ kwa he te st0 b0 i = knw he te st0 b0 i → i ≤ te := kwa_ne hb0 hte
      have hf4 : knw he te st0 b0 i &&& st0 ≤ knw he te st0 b0 i := Nat.and_le_left
      refine lv_iload hx hb dX9_know_7 (lv_at hl 4 rfl) ?_
      refine lv_iload_n hx hb dX9_know_9 rfl (lv_at hl 3 rfl) ?_
      refine z_icmp_eq (tgt := 29) hx hb ⟨by omega, by omega⟩ ⟨by omega, by omega⟩ dX9_know_10 (by decide) (fun c2 => ?_) (fun c2 => ?_)
      · have c2 : (kwa he te st0 b0 i : Nat) = (knw he te st0 b0 i : Nat) := by omega
        refine lv_iload_n hx hb dX9_know_29 rfl (lv_at hl 3 rfl) ?_
        exact zr_iret hx hb hr hlocks hQ (by rw [kwa_eq hb0 hte (by omega)]) dX9_know_30
      · have c2 : ¬ ((kwa he te st0 b0 i : Nat) = (knw he te st0 b0 i : Nat)) := by omega
        refine lv_iload_n hx hb dX9_know_13 rfl (lv_at hl 3 rfl) ?_
        refine lv_istore (lv' := [(4, .int (zI ((knw he te st0 b0 i : Nat) : Int))), (0, .ref (ma 0)), (1, .int (zI ((b0 : Nat) : Int))), (2, .int (zI ((st0 : Nat) : Int))), (3, .int (zI ((knw he te st0 b0 i : Nat) : Int)))]) hx hb dX9_know_14 hl (by decide) rfl (fun ls hl => ?_)
        refine lv_iload_n hx hb dX9_know_16 rfl (lv_at hl 4 rfl) ?_
        refine lv_aload_n hx hb dX9_know_17 rfl (lv_at hl 1 rfl) ?_
        refine lv_iload_n hx hb dX9_know_18 rfl (lv_at hl 4 rfl) ?_
        refine lv_iload_n hx hb dX9_know_19 rfl (lv_at hl 3 rfl) ?_
        have hq3 : (knw he te st0 b0 i) &&& st0 ≤ (knw he te st0 b0 i) := Nat.and_le_left
        refine z_iand (r := (((knw he te st0 b0 i) &&& st0 : Nat) : Int)) hx hb (zI_and (a := knw he te st0 b0 i) (b := st0) (by omega) (by omega)) dX9_know_20 ?_
        refine zr_callV (rest := [.int (zI ((knw he te st0 b0 i : Nat) : Int))]) (As := [.int (zI (((knw he te st0 b0 i) &&& st0 : Nat) : Int))]) (v := ((hrs he te ((knw he te st0 b0 i) &&& st0) : Nat) : Int)) ⟨hx, hb, hml, hown, hts⟩ (c_X9_hear l D cy ma xt xl at0 bg tk0 td rd hs day hm tk py db un ud rs be bp gp ln wh lk wa so tr kp ((knw he te st0 b0 i) &&& st0) ro te ch pr sl mu wi ak he li (by omega) (by omega) (by omega) (by omega) hHB hHS) (cwV 1 hts gX9_know_X9_hear rfl rfl rfl (by decide +kernel) ⟨Nat.le_of_ble_eq_true rfl, Nat.le_of_ble_eq_true rfl⟩) hK hP 0 9 rfl rfl rfl hl.1 rfl (Nat.le_of_ble_eq_true rfl) dX9_know_21 ⟨Nat.zero_le _, Nat.zero_le _⟩ ?_
        have hq4 := or_lt64 (a := (knw he te st0 b0 i)) (b := (hrs he te ((knw he te st0 b0 i) &&& st0))) (by omega) (by omega)
        refine z_ior (r := (((knw he te st0 b0 i) ||| (hrs he te ((knw he te st0 b0 i) &&& st0)) : Nat) : Int)) hx hb (zI_or (a := knw he te st0 b0 i) (b := hrs he te ((knw he te st0 b0 i) &&& st0)) (by omega) (by omega)) dX9_know_24 ?_
        refine lv_istore_n (lv' := [(3, .int (zI (((knw he te st0 b0 i) ||| (hrs he te ((knw he te st0 b0 i) &&& st0)) : Nat) : Int))), (4, .int (zI ((knw he te st0 b0 i : Nat) : Int))), (0, .ref (ma 0)), (1, .int (zI ((b0 : Nat) : Int))), (2, .int (zI ((st0 : Nat) : Int)))]) hx hb dX9_know_25 rfl hl (by decide) rfl (fun ls hl => ?_)
        refine lv_goto (tgt := 7) hx hb dX9_know_26 (by decide) ?_
        exact ih7 (i + 1) (by have := hf3 (by omega); omega) (by have := hf3 (by omega); omega) (((knw he te st0 b0 i) ||| (hrs he te ((knw he te st0 b0 i) &&& st0)) : Nat) : Int) rfl ((knw he te st0 b0 i : Nat) : Int) rfl ls (lv_sub hl [2, 3, 4, 0, 1] rfl)
  exact loop7 ((8 - 0) + 1) 0 (by omega) (by omega) ((2 ^ b0 : Nat) : Int) rfl 0 rfl ls (lv_sub hl [2, 3, 4, 1, 0] rfl)
abbrev rm_X9_told : Room := { frames := 2, cells := 0, slots := 0, locals := 47 }
set_option maxHeartbeats 4000000 in
set_option maxRecDepth 100000 in
theorem c_X9_told (l : Launch) (D : va_G) (cy : Nat → ClassId) (ma : Nat → Nat) (xt : Nat → Int) (xl : Nat) (at0 : Nat) (bg : Nat) (tk0 : Int) (td : Int) (rd : Nat → Int) (hs : Nat → Int) (day : Int) (hm : Nat → Int) (tk : Nat → Int) (py : Nat → Int) (db : Nat → Int) (un : Nat → Int) (ud : Nat) (rs : Nat → Int) (be : Int) (bp : Int) (gp : Nat → Int) (ln : Nat) (wh : Nat → Nat) (lk : Nat → Int) (wa : Int) (so : Nat → Nat) (tr : Int) (kp : Nat → Int) (t : Int) (ro : Nat) (te : Nat) (ch : Nat) (pr : Nat → Int) (sl : Nat → Int) (mu : Nat → Int) (wi : Nat → Int) (ak : Nat → Int) (he : Nat → Nat) (li : Nat → Nat) (ht0 : inR t) (hro : ro ≤ 6) (hte : te ≤ 6) (hch : ch ≤ 5) (hHB : HB pr sl mu wi ak he li) (hHS : HS hs ro te ch pr sl mu wi ak he li) : Met l yX9_told wsX9_told rm_X9_told (pR D cy [((ma 0), .inr (9, [.ref (ma 1), .int (zI ((xl : Nat) : Int)), .int (zI ((at0 : Nat) : Int)), .int (zI ((bg : Nat) : Int)), .int (zI tk0), .int (zI td), .ref (ma 2), .ref (ma 3), .ref (ma 4), .ref (ma 5), .int (zI ((ud : Nat) : Int)), .ref (ma 6), .int (zI be), .int (zI bp), .ref (ma 7), .int (zI ((ln : Nat) : Int)), .ref (ma 8), .ref (ma 9), .int (zI wa), .ref (ma 10), .long (zL tr), .ref (ma 11)])), ((ma 1), .inl (cy 0, 200, .inl (zA xt))), ((ma 2), .inl (cy 0, 44, .inl (zA rd))), ((ma 3), .inl (cy 0, 44, .inl (zA hs))), ((ma 4), .inl (cy 0, 25, .inl (zA (enc day hm tk py db)))), ((ma 5), .inl (cy 0, 250, .inl (zA un))), ((ma 6), .inl (cy 0, 6, .inl (zA rs))), ((ma 7), .inl (cy 0, 64, .inl (zA gp))), ((ma 8), .inl (cy 0, 6, .inl (zA (fun j => ((wh j : Nat) : Int))))), ((ma 9), .inl (cy 0, 6, .inl (zA lk))), ((ma 10), .inl (cy 0, 6, .inl (zA (fun j => ((so j : Nat) : Int))))), ((ma 11), .inl (cy 0, 554, .inl (zA kp)))] [.ref (ma 0), .int (zI t)]) (qR (if 0 ≤ t ∧ t < (te : Int) then (bst (fun n => decide (knw he te n t.toNat te = 2 ^ te - 1)) 7 (2 ^ te)).1 else -1)) 0 0 (fun _ => False) := by
  refine met_R (cc := cX9_told) (maxL := 6) (ret := (some .int)) RX9 (by decide) rfl rfl (Nat.le_of_ble_eq_true rfl) ?_
  intro p e s m args below meth c ls Q hx hb hr hml hts hown hlocks hQ hP hK hl
  have hl : lv_has ls 6 [(0, .ref (ma 0)), (1, .int (zI t))] := hl
  have hinX9 : ∀ w ∈ wsX90, w ∈ wsX9_told := (fun w h => List.mem_cons_of_mem _ (List.mem_append_right _ h))
  have hpw := pow_le64 te (by omega)
  refine lv_aload_n hx hb dX9_told_0 rfl (lv_at hl 0 rfl) ?_
  refine lv_iload_n hx hb dX9_told_1 rfl (lv_at hl 1 rfl) ?_
  refine zr_callV (rest := []) (As := [.int (zI t)]) (v := (if 0 ≤ t ∧ t ≤ ((te : Nat) : Int) - 1 then 1 else 0)) ⟨hx, hb, hml, hown, hts⟩ (c_X9_isTenant l D cy ma xt xl at0 bg tk0 td rd hs day hm tk py db un ud rs be bp gp ln wh lk wa so tr kp t ro te ch pr sl mu wi ak he li (by omega) (by omega) (by omega) (by omega) hHB hHS) (cwV 1 hts gX9_told_X9_isTenant rfl rfl rfl (by decide +kernel) ⟨Nat.le_of_ble_eq_true rfl, Nat.le_of_ble_eq_true rfl⟩) hK hP 0 9 rfl rfl rfl hl.1 rfl (Nat.le_of_ble_eq_true rfl) dX9_told_2 ⟨Nat.zero_le _, Nat.zero_le _⟩ ?_
  refine z_if_ne (tgt := 10) hx hb bo_r dX9_told_5 (by decide) (fun c1 => ?_) (fun c1 => ?_)
  · have c1 := bo_t c1
    refine lv_iconst (v := zI 1) hx hb dX9_told_10 rfl ?_
    refine lv_aload_n hx hb dX9_told_11 rfl (lv_at hl 0 rfl) ?_
    refine va_get (D := D) (ci := 9) (v := .ref (ma 3)) (C := RX9) (T := TX9) (N := 22) hx hb hts hinX9 hown hK hP 0 rfl rfl 7 (by decide) (hts (.fieldLink RX9 16 "SilentRentModel" "house" "[I") (List.mem_of_getElem? (i := 1) rfl)) (fun _ h9 => h9) rfl dX9_told_12 ?_
    refine lv_iconst (v := zI 1) hx hb dX9_told_15 rfl ?_
    refine z_iald2 hx hb hK hP 3 0 (f := hs) (v := ((te : Nat) : Int)) rfl rfl 1 (by omega) (by omega) (by decide) (hHS.2.1) dX9_told_16 ?_
    have hp2 := pow_le3 te (by omega)
    refine z_ishl (r := ((2 ^ te : Nat) : Int)) hx hb (zI_shl1 te (by omega)) dX9_told_17 ?_
    refine lv_iconst (v := zI 1) hx hb dX9_told_18 rfl ?_
    refine z_isub (r := ((2 ^ te - 1 : Nat) : Int)) hx hb (by omega) dX9_told_19 ?_
    refine lv_istore_n (lv' := [(2, .int (zI ((2 ^ te - 1 : Nat) : Int))), (0, .ref (ma 0)), (1, .int (zI t))]) hx hb dX9_told_20 rfl hl (by decide) rfl (fun ls hl => ?_)
    have hr3 : t = ((t.toNat : Nat) : Int) := by omega
    rw [hr3] at hl
    have hl : lv_has ls 6 [(2, .int (zI ((2 ^ te - 1 : Nat) : Int))), (0, .ref (ma 0)), (1, .int (zI ((t.toNat : Nat) : Int)))] := hl
    refine lv_bipush (v := zI (-9)) hx hb dX9_told_21 (by decide) ?_
    refine lv_istore_n (lv' := [(3, .int (zI (-9))), (2, .int (zI ((2 ^ te - 1 : Nat) : Int))), (0, .ref (ma 0)), (1, .int (zI ((t.toNat : Nat) : Int)))]) hx hb dX9_told_23 rfl hl (by decide) rfl (fun ls hl => ?_)
    refine lv_iconst (v := zI 0) hx hb dX9_told_24 rfl ?_
    refine lv_istore (lv' := [(4, .int (zI 0)), (3, .int (zI (-9))), (2, .int (zI ((2 ^ te - 1 : Nat) : Int))), (0, .ref (ma 0)), (1, .int (zI ((t.toNat : Nat) : Int)))]) hx hb dX9_told_25 hl (by decide) rfl (fun ls hl => ?_)
    have loop27 : ∀ (n9 : Nat) (i : Nat), 2 ^ te - i < n9 → (i ≤ 2 ^ te) → (0 ≤ t ∧ t < (te : Int)) → ∀ (x27_3 : Int), x27_3 = ((bst (fun n => decide (knw he te n t.toNat te = 2 ^ te - 1)) 7 i).1) → ∀ (x27_4 : Int), x27_4 = ((i : Nat) : Int) → ∀ ls : Array Slot, lv_has ls 6 [(0, .ref (ma 0)), (1, .int (zI ((t.toNat : Nat) : Int))), (2, .int (zI ((2 ^ te - 1 : Nat) : Int))), (3, .int (zI x27_3)), (4, .int (zI x27_4))] → W p l e rm_X9_told s m args below meth c s.heap [] 0 0 Q (F0 m 27 ls []) := by
      intro n9
      induction n9 with
      | zero => intro i h9; exact absurd h9 (Nat.not_lt_zero _)
      | succ n9 ih27 =>
        intro i hmu27 hi htt x27_3 ex27_3 x27_4 ex27_4 ls hl
        subst ex27_3
        subst ex27_4
        have hl : lv_has ls 6 [(0, .ref (ma 0)), (1, .int (zI ((t.toNat : Nat) : Int))), (2, .int (zI ((2 ^ te - 1 : Nat) : Int))), (3, .int (zI ((bst (fun n => decide (knw he te n t.toNat te = 2 ^ te - 1)) 7 i).1))), (4, .int (zI ((i : Nat) : Int)))] := hl
        have hf1 := bst_in (fun n => decide (knw he te n t.toNat te = 2 ^ te - 1)) 7 i
        have hbb := bst2 (fun n => decide (knw he te n t.toNat te = 2 ^ te - 1)) 7 i
        have hbo := bst_or (fun n => decide (knw he te n t.toNat te = 2 ^ te - 1)) 7 i
        have hf9 := knw_lt64 he te i t.toNat (by omega) hte te
        have hf2 := popc_le6 i
        have hf3 := popc_le6 (bst (fun n => decide (knw he te n t.toNat te = 2 ^ te - 1)) 7 i).1.toNat
        refine lv_iload hx hb dX9_told_27 (lv_at hl 4 rfl) ?_
        refine lv_iload_n hx hb dX9_told_29 rfl (lv_at hl 2 rfl) ?_
        refine z_icmp_gt (tgt := 87) hx hb ⟨by omega, by omega⟩ ⟨by omega, by omega⟩ dX9_told_30 (by decide) (fun c4 => ?_) (fun c4 => ?_)
        · have c4 : (2 ^ te - 1 : Nat) < (i : Nat) := by omega
          refine lv_iload_n hx hb dX9_told_87 rfl (lv_at hl 3 rfl) ?_
          exact zr_iret hx hb hr hlocks hQ (by rw [if_pos (by omega), show i = 2 ^ te from by omega]) dX9_told_88
        · have c4 : ¬ ((2 ^ te - 1 : Nat) < (i : Nat)) := by omega
          refine lv_iload_n hx hb dX9_told_33 rfl (lv_at hl 3 rfl) ?_
          refine lv_bipush (v := zI (-9)) hx hb dX9_told_34 (by decide) ?_
          refine z_icmp_eq (tgt := 51) hx hb ⟨by omega, by omega⟩ ⟨by omega, by omega⟩ dX9_told_36 (by decide) (fun c5 => ?_) (fun c5 => ?_)
          · refine lv_iconst (v := zI 1) hx hb dX9_told_51 rfl ?_
            refine lv_goto (tgt := 56) hx hb dX9_told_52 (by decide) ?_
            refine lv_istore (lv' := [(5, .int (zI 1)), (0, .ref (ma 0)), (1, .int (zI ((t.toNat : Nat) : Int))), (2, .int (zI ((2 ^ te - 1 : Nat) : Int))), (3, .int (zI ((bst (fun n => decide (knw he te n t.toNat te = 2 ^ te - 1)) 7 i).1))), (4, .int (zI ((i : Nat) : Int)))]) hx hb dX9_told_56 hl (by decide) rfl (fun ls hl => ?_)
            refine lv_iload hx hb dX9_told_58 (lv_at hl 0 rfl) ?_
            refine z_if_eq (tgt := 79) hx hb ⟨by omega, by omega⟩ dX9_told_60 (by decide) (fun c6 => ?_) (fun c6 => ?_)
            · exact absurd c6 (by decide)
            · refine lv_aload_n hx hb dX9_told_63 rfl (lv_at hl 1 rfl) ?_
              refine lv_iload_n hx hb dX9_told_64 rfl (lv_at hl 2 rfl) ?_
              refine lv_iload hx hb dX9_told_65 (lv_at hl 5 rfl) ?_
              refine zr_callV (rest := []) (As := [.int (zI ((t.toNat : Nat) : Int)), .int (zI ((i : Nat) : Int))]) (v := ((knw he te i t.toNat te : Nat) : Int)) ⟨hx, hb, hml, hown, hts⟩ (c_X9_know l D cy ma xt xl at0 bg tk0 td rd hs day hm tk py db un ud rs be bp gp ln wh lk wa so tr kp t.toNat i ro te ch pr sl mu wi ak he li (by omega) (by omega) (by omega) (by omega) (by omega) hHB hHS) (cwV 2 hts gX9_told_X9_know rfl rfl rfl (by decide +kernel) ⟨Nat.le_of_ble_eq_true rfl, Nat.le_of_ble_eq_true rfl⟩) hK hP 0 9 rfl rfl rfl hl.1 rfl (Nat.le_of_ble_eq_true rfl) dX9_told_67 ⟨Nat.zero_le _, Nat.zero_le _⟩ ?_
              refine lv_iload_n hx hb dX9_told_70 rfl (lv_at hl 3 rfl) ?_
              refine z_icmp_ne (tgt := 79) hx hb ⟨by omega, by omega⟩ ⟨by omega, by omega⟩ dX9_told_71 (by decide) (fun c7 => ?_) (fun c7 => ?_)
              · have c7 : ¬ ((knw he te i t.toNat te : Nat) = (2 ^ te - 1 : Nat)) := by omega
                refine lv_iload_n hx hb dX9_told_79 rfl (lv_at hl 4 rfl) ?_
                refine lv_istore_n (lv' := [(3, .int (zI ((bst (fun n => decide (knw he te n t.toNat te = 2 ^ te - 1)) 7 i).1))), (5, .int (zI 1)), (0, .ref (ma 0)), (1, .int (zI ((t.toNat : Nat) : Int))), (2, .int (zI ((2 ^ te - 1 : Nat) : Int))), (4, .int (zI ((i : Nat) : Int)))]) hx hb dX9_told_80 rfl hl (by decide) rfl (fun ls hl => ?_)
                refine z_iinc (r := ((i + 1 : Nat) : Int)) (lv' := [(4, .int (zI ((i + 1 : Nat) : Int))), (3, .int (zI ((bst (fun n => decide (knw he te n t.toNat te = 2 ^ te - 1)) 7 i).1))), (5, .int (zI 1)), (0, .ref (ma 0)), (1, .int (zI ((t.toNat : Nat) : Int))), (2, .int (zI ((2 ^ te - 1 : Nat) : Int)))]) hx hb (by omega) dX9_told_81 hl (k := 5) rfl (by decide) rfl (fun ls hl => ?_)
                refine lv_goto (tgt := 27) hx hb dX9_told_84 (by decide) ?_
                exact ih27 (i + 1) (by omega) (by omega) (by omega) ((bst (fun n => decide (knw he te n t.toNat te = 2 ^ te - 1)) 7 i).1) (by rw [bst_s, hbb]; simp only [decide_eq_true_eq]; by_cases h9 : (bst (fun n => decide (knw he te n t.toNat te = 2 ^ te - 1)) 7 i).1 = -9; (rw [if_pos h9]; split <;> first | rfl | omega); (rw [if_neg h9]; split <;> first | rfl | omega)) ((i + 1 : Nat) : Int) (by first | rfl | omega) ls (lv_sub hl [3, 4, 5, 1, 0] rfl)
              · have c7 : (knw he te i t.toNat te : Nat) = (2 ^ te - 1 : Nat) := by omega
                refine lv_iload hx hb dX9_told_74 (lv_at hl 5 rfl) ?_
                refine lv_goto (tgt := 80) hx hb dX9_told_76 (by decide) ?_
                refine lv_istore_n (lv' := [(3, .int (zI ((i : Nat) : Int))), (5, .int (zI 1)), (0, .ref (ma 0)), (1, .int (zI ((t.toNat : Nat) : Int))), (2, .int (zI ((2 ^ te - 1 : Nat) : Int))), (4, .int (zI ((i : Nat) : Int)))]) hx hb dX9_told_80 rfl hl (by decide) rfl (fun ls hl => ?_)
                refine z_iinc (r := ((i + 1 : Nat) : Int)) (lv' := [(4, .int (zI ((i + 1 : Nat) : Int))), (3, .int (zI ((i : Nat) : Int))), (5, .int (zI 1)), (0, .ref (ma 0)), (1, .int (zI ((t.toNat : Nat) : Int))), (2, .int (zI ((2 ^ te - 1 : Nat) : Int)))]) hx hb (by omega) dX9_told_81 hl (k := 5) rfl (by decide) rfl (fun ls hl => ?_)
                refine lv_goto (tgt := 27) hx hb dX9_told_84 (by decide) ?_
                exact ih27 (i + 1) (by omega) (by omega) (by omega) ((i : Nat) : Int) (by rw [bst_s, hbb]; simp only [decide_eq_true_eq]; by_cases h9 : (bst (fun n => decide (knw he te n t.toNat te = 2 ^ te - 1)) 7 i).1 = -9; (rw [if_pos h9]; split <;> first | rfl | omega); (rw [if_neg h9]; split <;> first | rfl | omega)) ((i + 1 : Nat) : Int) (by first | rfl | omega) ls (lv_sub hl [3, 4, 5, 1, 0] rfl)
          · refine lv_iload hx hb dX9_told_39 (lv_at hl 4 rfl) ?_
            have hPc8 := hP.sub (ws' := []) [] rfl
            refine zr_callS (rest := []) (As := [.int (zI ((i : Nat) : Int))]) (v := ((popc i : Nat) : Int)) (wd := []) ⟨hx, hb, hml, hown, hts⟩ (c_X9_many l D cy ((i : Nat) : Int) (by omega)) (va_cwS 1 hts gX9_told_X9_many rfl rfl rfl (by decide +kernel) ⟨Nat.le_of_ble_eq_true rfl, Nat.le_of_ble_eq_true rfl⟩) hK (fun k q h => by cases h) rfl hl.1 rfl (Nat.le_of_ble_eq_true rfl) dX9_told_41 ⟨Nat.zero_le _, Nat.zero_le _⟩ ?_
            refine lv_iload_n hx hb dX9_told_44 rfl (lv_at hl 3 rfl) ?_
            have hPc9 := hP.sub (ws' := []) [] rfl
            refine zr_callS (rest := [.int (zI ((popc i : Nat) : Int))]) (As := [.int (zI ((bst (fun n => decide (knw he te n t.toNat te = 2 ^ te - 1)) 7 i).1))]) (v := ((popc ((bst (fun n => decide (knw he te n t.toNat te = 2 ^ te - 1)) 7 i).1).toNat : Nat) : Int)) (wd := []) ⟨hx, hb, hml, hown, hts⟩ (c_X9_many l D cy ((bst (fun n => decide (knw he te n t.toNat te = 2 ^ te - 1)) 7 i).1) (by omega)) (va_cwS 1 hts gX9_told_X9_many rfl rfl rfl (by decide +kernel) ⟨Nat.le_of_ble_eq_true rfl, Nat.le_of_ble_eq_true rfl⟩) hK (fun k q h => by cases h) rfl hl.1 rfl (Nat.le_of_ble_eq_true rfl) dX9_told_45 ⟨Nat.zero_le _, Nat.zero_le _⟩ ?_
            refine z_icmp_ge (tgt := 55) hx hb ⟨by omega, by omega⟩ ⟨by omega, by omega⟩ dX9_told_48 (by decide) (fun c10 => ?_) (fun c10 => ?_)
            · have c10 : (popc ((bst (fun n => decide (knw he te n t.toNat te = 2 ^ te - 1)) 7 i).1).toNat : Nat) ≤ (popc i : Nat) := by omega
              refine lv_iconst (v := zI 0) hx hb dX9_told_55 rfl ?_
              refine lv_istore (lv' := [(5, .int (zI 0)), (0, .ref (ma 0)), (1, .int (zI ((t.toNat : Nat) : Int))), (2, .int (zI ((2 ^ te - 1 : Nat) : Int))), (3, .int (zI ((bst (fun n => decide (knw he te n t.toNat te = 2 ^ te - 1)) 7 i).1))), (4, .int (zI ((i : Nat) : Int)))]) hx hb dX9_told_56 hl (by decide) rfl (fun ls hl => ?_)
              refine lv_iload hx hb dX9_told_58 (lv_at hl 0 rfl) ?_
              refine z_if_eq (tgt := 79) hx hb ⟨by omega, by omega⟩ dX9_told_60 (by decide) (fun c11 => ?_) (fun c11 => ?_)
              · refine lv_iload_n hx hb dX9_told_79 rfl (lv_at hl 4 rfl) ?_
                refine lv_istore_n (lv' := [(3, .int (zI ((bst (fun n => decide (knw he te n t.toNat te = 2 ^ te - 1)) 7 i).1))), (5, .int (zI 0)), (0, .ref (ma 0)), (1, .int (zI ((t.toNat : Nat) : Int))), (2, .int (zI ((2 ^ te - 1 : Nat) : Int))), (4, .int (zI ((i : Nat) : Int)))]) hx hb dX9_told_80 rfl hl (by decide) rfl (fun ls hl => ?_)
                refine z_iinc (r := ((i + 1 : Nat) : Int)) (lv' := [(4, .int (zI ((i + 1 : Nat) : Int))), (3, .int (zI ((bst (fun n => decide (knw he te n t.toNat te = 2 ^ te - 1)) 7 i).1))), (5, .int (zI 0)), (0, .ref (ma 0)), (1, .int (zI ((t.toNat : Nat) : Int))), (2, .int (zI ((2 ^ te - 1 : Nat) : Int)))]) hx hb (by omega) dX9_told_81 hl (k := 5) rfl (by decide) rfl (fun ls hl => ?_)
                refine lv_goto (tgt := 27) hx hb dX9_told_84 (by decide) ?_
                exact ih27 (i + 1) (by omega) (by omega) (by omega) ((bst (fun n => decide (knw he te n t.toNat te = 2 ^ te - 1)) 7 i).1) (by rw [bst_s, hbb]; simp only [decide_eq_true_eq]; by_cases h9 : (bst (fun n => decide (knw he te n t.toNat te = 2 ^ te - 1)) 7 i).1 = -9; (rw [if_pos h9]; split <;> first | rfl | omega); (rw [if_neg h9]; split <;> first | rfl | omega)) ((i + 1 : Nat) : Int) (by first | rfl | omega) ls (lv_sub hl [3, 4, 5, 1, 0] rfl)
              · exact absurd c11 (by decide)
            · have c10 : ¬ ((popc ((bst (fun n => decide (knw he te n t.toNat te = 2 ^ te - 1)) 7 i).1).toNat : Nat) ≤ (popc i : Nat)) := by omega
              refine lv_iconst (v := zI 1) hx hb dX9_told_51 rfl ?_
              refine lv_goto (tgt := 56) hx hb dX9_told_52 (by decide) ?_
              refine lv_istore (lv' := [(5, .int (zI 1)), (0, .ref (ma 0)), (1, .int (zI ((t.toNat : Nat) : Int))), (2, .int (zI ((2 ^ te - 1 : Nat) : Int))), (3, .int (zI ((bst (fun n => decide (knw he te n t.toNat te = 2 ^ te - 1)) 7 i).1))), (4, .int (zI ((i : Nat) : Int)))]) hx hb dX9_told_56 hl (by decide) rfl (fun ls hl => ?_)
              refine lv_iload hx hb dX9_told_58 (lv_at hl 0 rfl) ?_
              refine z_if_eq (tgt := 79) hx hb ⟨by omega, by omega⟩ dX9_told_60 (by decide) (fun c12 => ?_) (fun c12 => ?_)
              · exact absurd c12 (by decide)
              · refine lv_aload_n hx hb dX9_told_63 rfl (lv_at hl 1 rfl) ?_
                refine lv_iload_n hx hb dX9_told_64 rfl (lv_at hl 2 rfl) ?_
                refine lv_iload hx hb dX9_told_65 (lv_at hl 5 rfl) ?_
                refine zr_callV (rest := []) (As := [.int (zI ((t.toNat : Nat) : Int)), .int (zI ((i : Nat) : Int))]) (v := ((knw he te i t.toNat te : Nat) : Int)) ⟨hx, hb, hml, hown, hts⟩ (c_X9_know l D cy ma xt xl at0 bg tk0 td rd hs day hm tk py db un ud rs be bp gp ln wh lk wa so tr kp t.toNat i ro te ch pr sl mu wi ak he li (by omega) (by omega) (by omega) (by omega) (by omega) hHB hHS) (cwV 2 hts gX9_told_X9_know rfl rfl rfl (by decide +kernel) ⟨Nat.le_of_ble_eq_true rfl, Nat.le_of_ble_eq_true rfl⟩) hK hP 0 9 rfl rfl rfl hl.1 rfl (Nat.le_of_ble_eq_true rfl) dX9_told_67 ⟨Nat.zero_le _, Nat.zero_le _⟩ ?_
                refine lv_iload_n hx hb dX9_told_70 rfl (lv_at hl 3 rfl) ?_
                refine z_icmp_ne (tgt := 79) hx hb ⟨by omega, by omega⟩ ⟨by omega, by omega⟩ dX9_told_71 (by decide) (fun c13 => ?_) (fun c13 => ?_)
                · have c13 : ¬ ((knw he te i t.toNat te : Nat) = (2 ^ te - 1 : Nat)) := by omega
                  refine lv_iload_n hx hb dX9_told_79 rfl (lv_at hl 4 rfl) ?_
                  refine lv_istore_n (lv' := [(3, .int (zI ((bst (fun n => decide (knw he te n t.toNat te = 2 ^ te - 1)) 7 i).1))), (5, .int (zI 1)), (0, .ref (ma 0)), (1, .int (zI ((t.toNat : Nat) : Int))), (2, .int (zI ((2 ^ te - 1 : Nat) : Int))), (4, .int (zI ((i : Nat) : Int)))]) hx hb dX9_told_80 rfl hl (by decide) rfl (fun ls hl => ?_)
                  refine z_iinc (r := ((i + 1 : Nat) : Int)) (lv' := [(4, .int (zI ((i + 1 : Nat) : Int))), (3, .int (zI ((bst (fun n => decide (knw he te n t.toNat te = 2 ^ te - 1)) 7 i).1))), (5, .int (zI 1)), (0, .ref (ma 0)), (1, .int (zI ((t.toNat : Nat) : Int))), (2, .int (zI ((2 ^ te - 1 : Nat) : Int)))]) hx hb (by omega) dX9_told_81 hl (k := 5) rfl (by decide) rfl (fun ls hl => ?_)
                  refine lv_goto (tgt := 27) hx hb dX9_told_84 (by decide) ?_
                  exact ih27 (i + 1) (by omega) (by omega) (by omega) ((bst (fun n => decide (knw he te n t.toNat te = 2 ^ te - 1)) 7 i).1) (by rw [bst_s, hbb]; simp only [decide_eq_true_eq]; by_cases h9 : (bst (fun n => decide (knw he te n t.toNat te = 2 ^ te - 1)) 7 i).1 = -9; (rw [if_pos h9]; split <;> first | rfl | omega); (rw [if_neg h9]; split <;> first | rfl | omega)) ((i + 1 : Nat) : Int) (by first | rfl | omega) ls (lv_sub hl [3, 4, 5, 1, 0] rfl)
                · have c13 : (knw he te i t.toNat te : Nat) = (2 ^ te - 1 : Nat) := by omega
                  refine lv_iload hx hb dX9_told_74 (lv_at hl 5 rfl) ?_
                  refine lv_goto (tgt := 80) hx hb dX9_told_76 (by decide) ?_
                  refine lv_istore_n (lv' := [(3, .int (zI ((i : Nat) : Int))), (5, .int (zI 1)), (0, .ref (ma 0)), (1, .int (zI ((t.toNat : Nat) : Int))), (2, .int (zI ((2 ^ te - 1 : Nat) : Int))), (4, .int (zI ((i : Nat) : Int)))]) hx hb dX9_told_80 rfl hl (by decide) rfl (fun ls hl => ?_)
                  refine z_iinc (r := ((i + 1 : Nat) : Int)) (lv' := [(4, .int (zI ((i + 1 : Nat) : Int))), (3, .int (zI ((i : Nat) : Int))), (5, .int (zI 1)), (0, .ref (ma 0)), (1, .int (zI ((t.toNat : Nat) : Int))), (2, .int (zI ((2 ^ te - 1 : Nat) : Int)))]) hx hb (by omega) dX9_told_81 hl (k := 5) rfl (by decide) rfl (fun ls hl => ?_)
                  refine lv_goto (tgt := 27) hx hb dX9_told_84 (by decide) ?_
                  exact ih27 (i + 1) (by omega) (by omega) (by omega) ((i : Nat) : Int) (by rw [bst_s, hbb]; simp only [decide_eq_true_eq]; by_cases h9 : (bst (fun n => decide (knw he te n t.toNat te = 2 ^ te - 1)) 7 i).1 = -9; (rw [if_pos h9]; split <;> first | rfl | omega); (rw [if_neg h9]; split <;> first | rfl | omega)) ((i + 1 : Nat) : Int) (by first | rfl | omega) ls (lv_sub hl [3, 4, 5, 1, 0] rfl)
    exact loop27 ((2 ^ te - 0) + 1) 0 (by omega) (by omega) (by omega) (-9) rfl 0 (by first | rfl | omega | simp) ls (lv_sub hl [3, 4, 2, 1, 0] rfl)
  · have c1 := bo_f c1
    refine lv_iconst (v := zI (-1)) hx hb dX9_told_8 rfl ?_
    exact zr_iret hx hb hr hlocks hQ (by exact (if_neg (by omega)).symm) dX9_told_9
abbrev rm_X9_rounds : Room := { frames := 2, cells := 0, slots := 0, locals := 46 }
set_option maxHeartbeats 4000000 in
set_option maxRecDepth 100000 in
theorem c_X9_rounds (l : Launch) (D : va_G) (cy : Nat → ClassId) (ma : Nat → Nat) (xt : Nat → Int) (xl : Nat) (at0 : Nat) (bg : Nat) (tk0 : Int) (td : Int) (rd : Nat → Int) (hs : Nat → Int) (day : Int) (hm : Nat → Int) (tk : Nat → Int) (py : Nat → Int) (db : Nat → Int) (un : Nat → Int) (ud : Nat) (rs : Nat → Int) (be : Int) (bp : Int) (gp : Nat → Int) (ln : Nat) (wh : Nat → Nat) (lk : Nat → Int) (wa : Int) (so : Nat → Nat) (tr : Int) (kp : Nat → Int) (t : Int) (ro : Nat) (te : Nat) (ch : Nat) (pr : Nat → Int) (sl : Nat → Int) (mu : Nat → Int) (wi : Nat → Int) (ak : Nat → Int) (he : Nat → Nat) (li : Nat → Nat) (ht0 : inR t) (hro : ro ≤ 6) (hte : te ≤ 6) (hch : ch ≤ 5) (hHB : HB pr sl mu wi ak he li) (hHS : HS hs ro te ch pr sl mu wi ak he li) : Met l yX9_rounds wsX9_rounds rm_X9_rounds (pR D cy [((ma 0), .inr (9, [.ref (ma 1), .int (zI ((xl : Nat) : Int)), .int (zI ((at0 : Nat) : Int)), .int (zI ((bg : Nat) : Int)), .int (zI tk0), .int (zI td), .ref (ma 2), .ref (ma 3), .ref (ma 4), .ref (ma 5), .int (zI ((ud : Nat) : Int)), .ref (ma 6), .int (zI be), .int (zI bp), .ref (ma 7), .int (zI ((ln : Nat) : Int)), .ref (ma 8), .ref (ma 9), .int (zI wa), .ref (ma 10), .long (zL tr), .ref (ma 11)])), ((ma 1), .inl (cy 0, 200, .inl (zA xt))), ((ma 2), .inl (cy 0, 44, .inl (zA rd))), ((ma 3), .inl (cy 0, 44, .inl (zA hs))), ((ma 4), .inl (cy 0, 25, .inl (zA (enc day hm tk py db)))), ((ma 5), .inl (cy 0, 250, .inl (zA un))), ((ma 6), .inl (cy 0, 6, .inl (zA rs))), ((ma 7), .inl (cy 0, 64, .inl (zA gp))), ((ma 8), .inl (cy 0, 6, .inl (zA (fun j => ((wh j : Nat) : Int))))), ((ma 9), .inl (cy 0, 6, .inl (zA lk))), ((ma 10), .inl (cy 0, 6, .inl (zA (fun j => ((so j : Nat) : Int))))), ((ma 11), .inl (cy 0, 554, .inl (zA kp)))] [.ref (ma 0), .int (zI t)]) (qR (if 0 ≤ t ∧ t < (te : Int) then rnd he te t.toNat te 0 else -1)) 0 0 (fun _ => False) := by
  refine met_R (cc := cX9_rounds) (maxL := 4) (ret := (some .int)) RX9 (by decide) rfl rfl (Nat.le_of_ble_eq_true rfl) ?_
  intro p e s m args below meth c ls Q hx hb hr hml hts hown hlocks hQ hP hK hl
  have hl : lv_has ls 4 [(0, .ref (ma 0)), (1, .int (zI t))] := hl
  have hinX9 : ∀ w ∈ wsX90, w ∈ wsX9_rounds := (fun w h => List.mem_cons_of_mem _ (List.mem_append_right _ h))
  have hpw := pow_le64 te (by omega)
  refine lv_aload_n hx hb dX9_rounds_0 rfl (lv_at hl 0 rfl) ?_
  refine lv_iload_n hx hb dX9_rounds_1 rfl (lv_at hl 1 rfl) ?_
  refine zr_callV (rest := []) (As := [.int (zI t)]) (v := (if 0 ≤ t ∧ t ≤ ((te : Nat) : Int) - 1 then 1 else 0)) ⟨hx, hb, hml, hown, hts⟩ (c_X9_isTenant l D cy ma xt xl at0 bg tk0 td rd hs day hm tk py db un ud rs be bp gp ln wh lk wa so tr kp t ro te ch pr sl mu wi ak he li (by omega) (by omega) (by omega) (by omega) hHB hHS) (cwV 1 hts gX9_rounds_X9_isTenant rfl rfl rfl (by decide +kernel) ⟨Nat.le_of_ble_eq_true rfl, Nat.le_of_ble_eq_true rfl⟩) hK hP 0 9 rfl rfl rfl hl.1 rfl (Nat.le_of_ble_eq_true rfl) dX9_rounds_2 ⟨Nat.zero_le _, Nat.zero_le _⟩ ?_
  refine z_if_ne (tgt := 10) hx hb bo_r dX9_rounds_5 (by decide) (fun c1 => ?_) (fun c1 => ?_)
  · have c1 := bo_t c1
    have hr2 : t = ((t.toNat : Nat) : Int) := by omega
    rw [hr2] at hl
    have hl : lv_has ls 4 [(0, .ref (ma 0)), (1, .int (zI ((t.toNat : Nat) : Int)))] := hl
    refine lv_iconst (v := zI 1) hx hb dX9_rounds_10 rfl ?_
    refine lv_iload_n hx hb dX9_rounds_11 rfl (lv_at hl 1 rfl) ?_
    have hp3 := pow_le3 t.toNat (by omega)
    refine z_ishl (r := ((2 ^ t.toNat : Nat) : Int)) hx hb (zI_shl1 t.toNat (by omega)) dX9_rounds_12 ?_
    refine lv_istore_n (lv' := [(2, .int (zI ((2 ^ t.toNat : Nat) : Int))), (0, .ref (ma 0)), (1, .int (zI ((t.toNat : Nat) : Int)))]) hx hb dX9_rounds_13 rfl hl (by decide) rfl (fun ls hl => ?_)
    refine lv_iconst (v := zI 0) hx hb dX9_rounds_14 rfl ?_
    refine lv_istore_n (lv' := [(3, .int (zI 0)), (2, .int (zI ((2 ^ t.toNat : Nat) : Int))), (0, .ref (ma 0)), (1, .int (zI ((t.toNat : Nat) : Int)))]) hx hb dX9_rounds_15 rfl hl (by decide) rfl (fun ls hl => ?_)
    have loop16 : ∀ (n9 : Nat) (i : Nat), 7 - i < n9 → (i ≤ 7) → (0 ≤ t ∧ t < (te : Int)) → (rnd he te t.toNat 7 0 = rnd he te t.toNat (7 - i) i) → ∀ (x16_2 : Int), x16_2 = ((knw he te 63 t.toNat i : Nat) : Int) → ∀ (x16_3 : Int), x16_3 = ((i : Nat) : Int) → ∀ ls : Array Slot, lv_has ls 4 [(0, .ref (ma 0)), (1, .int (zI ((t.toNat : Nat) : Int))), (2, .int (zI x16_2)), (3, .int (zI x16_3))] → W p l e rm_X9_rounds s m args below meth c s.heap [] 0 0 Q (F0 m 16 ls []) := by
      intro n9
      induction n9 with
      | zero => intro i h9; exact absurd h9 (Nat.not_lt_zero _)
      | succ n9 ih16 =>
        intro i hmu16 hi htt hq x16_2 ex16_2 x16_3 ex16_3 ls hl
        subst ex16_2
        subst ex16_3
        have hl : lv_has ls 4 [(0, .ref (ma 0)), (1, .int (zI ((t.toNat : Nat) : Int))), (2, .int (zI ((knw he te 63 t.toNat i : Nat) : Int))), (3, .int (zI ((i : Nat) : Int)))] := hl
        have hf1 := knw_lt64 he te 63 t.toNat (by omega) (by omega) i
        have hf2 := hrs_lt64 he te (knw he te 63 t.toNat i) (by omega)
        refine lv_iload_n hx hb dX9_rounds_16 rfl (lv_at hl 3 rfl) ?_
        refine lv_bipush (v := zI 7) hx hb dX9_rounds_17 (by decide) ?_
        refine z_icmp_ge (tgt := 52) hx hb ⟨by omega, by omega⟩ ⟨by omega, by omega⟩ dX9_rounds_19 (by decide) (fun c4 => ?_) (fun c4 => ?_)
        · have c4 : (7 : Nat) ≤ (i : Nat) := by omega
          refine lv_bipush (v := zI (-9)) hx hb dX9_rounds_52 (by decide) ?_
          exact zr_iret hx hb hr hlocks hQ (by rw [if_pos (by omega), ← rnd7 (show t.toNat < te by omega) hte, hq, show 7 - i = 0 from by omega]; rfl) dX9_rounds_54
        · have c4 : ¬ ((7 : Nat) ≤ (i : Nat)) := by omega
          refine lv_iload_n hx hb dX9_rounds_22 rfl (lv_at hl 2 rfl) ?_
          refine lv_iconst (v := zI 1) hx hb dX9_rounds_23 rfl ?_
          refine lv_aload_n hx hb dX9_rounds_24 rfl (lv_at hl 0 rfl) ?_
          refine va_get (D := D) (ci := 9) (v := .ref (ma 3)) (C := RX9) (T := TX9) (N := 22) hx hb hts hinX9 hown hK hP 0 rfl rfl 7 (by decide) (hts (.fieldLink RX9 16 "SilentRentModel" "house" "[I") (List.mem_of_getElem? (i := 1) rfl)) (fun _ h9 => h9) rfl dX9_rounds_25 ?_
          refine lv_iconst (v := zI 1) hx hb dX9_rounds_28 rfl ?_
          refine z_iald2 hx hb hK hP 3 0 (f := hs) (v := ((te : Nat) : Int)) rfl rfl 1 (by omega) (by omega) (by decide) (hHS.2.1) dX9_rounds_29 ?_
          have hp5 := pow_le3 te (by omega)
          refine z_ishl (r := ((2 ^ te : Nat) : Int)) hx hb (zI_shl1 te (by omega)) dX9_rounds_30 ?_
          refine lv_iconst (v := zI 1) hx hb dX9_rounds_31 rfl ?_
          refine z_isub (r := ((2 ^ te - 1 : Nat) : Int)) hx hb (by omega) dX9_rounds_32 ?_
          refine z_icmp_ne (tgt := 38) hx hb ⟨by omega, by omega⟩ ⟨by omega, by omega⟩ dX9_rounds_33 (by decide) (fun c6 => ?_) (fun c6 => ?_)
          · have c6 : ¬ ((knw he te 63 t.toNat i : Nat) = (2 ^ te - 1 : Nat)) := by omega
            refine lv_iload_n hx hb dX9_rounds_38 rfl (lv_at hl 2 rfl) ?_
            refine lv_aload_n hx hb dX9_rounds_39 rfl (lv_at hl 0 rfl) ?_
            refine lv_iload_n hx hb dX9_rounds_40 rfl (lv_at hl 2 rfl) ?_
            refine zr_callV (rest := [.int (zI ((knw he te 63 t.toNat i : Nat) : Int))]) (As := [.int (zI ((knw he te 63 t.toNat i : Nat) : Int))]) (v := ((hrs he te (knw he te 63 t.toNat i) : Nat) : Int)) ⟨hx, hb, hml, hown, hts⟩ (c_X9_hear l D cy ma xt xl at0 bg tk0 td rd hs day hm tk py db un ud rs be bp gp ln wh lk wa so tr kp (knw he te 63 t.toNat i) ro te ch pr sl mu wi ak he li (by omega) (by omega) (by omega) (by omega) hHB hHS) (cwV 1 hts gX9_rounds_X9_hear rfl rfl rfl (by decide +kernel) ⟨Nat.le_of_ble_eq_true rfl, Nat.le_of_ble_eq_true rfl⟩) hK hP 0 9 rfl rfl rfl hl.1 rfl (Nat.le_of_ble_eq_true rfl) dX9_rounds_41 ⟨Nat.zero_le _, Nat.zero_le _⟩ ?_
            have hq7 := or_lt64 (a := (knw he te 63 t.toNat i)) (b := (hrs he te (knw he te 63 t.toNat i))) (by omega) (by omega)
            refine z_ior (r := (((knw he te 63 t.toNat i) ||| (hrs he te (knw he te 63 t.toNat i)) : Nat) : Int)) hx hb (zI_or (a := knw he te 63 t.toNat i) (b := hrs he te (knw he te 63 t.toNat i)) (by omega) (by omega)) dX9_rounds_44 ?_
            refine lv_istore_n (lv' := [(2, .int (zI (((knw he te 63 t.toNat i) ||| (hrs he te (knw he te 63 t.toNat i)) : Nat) : Int))), (0, .ref (ma 0)), (1, .int (zI ((t.toNat : Nat) : Int))), (3, .int (zI ((i : Nat) : Int)))]) hx hb dX9_rounds_45 rfl hl (by decide) rfl (fun ls hl => ?_)
            refine z_iinc (r := ((i + 1 : Nat) : Int)) (lv' := [(3, .int (zI ((i + 1 : Nat) : Int))), (2, .int (zI (((knw he te 63 t.toNat i) ||| (hrs he te (knw he te 63 t.toNat i)) : Nat) : Int))), (0, .ref (ma 0)), (1, .int (zI ((t.toNat : Nat) : Int)))]) hx hb (by omega) dX9_rounds_46 hl (k := 3) rfl (by decide) rfl (fun ls hl => ?_)
            refine lv_goto (tgt := 16) hx hb dX9_rounds_49 (by decide) ?_
            exact ih16 (i + 1) (by omega) (by omega) (by omega) (by rw [hq, show 7 - i = (7 - (i + 1)) + 1 from by omega, rnd_s, if_neg (by omega)]) (((knw he te 63 t.toNat i) ||| (hrs he te (knw he te 63 t.toNat i)) : Nat) : Int) (by show _ = ((knw he te 63 t.toNat i ||| hrs he te (knw he te 63 t.toNat i &&& 63) : Nat) : Int); rw [and63 hf1]) ((i + 1 : Nat) : Int) (by first | rfl | omega) ls (lv_sub hl [2, 3, 1, 0] rfl)
          · have c6 : (knw he te 63 t.toNat i : Nat) = (2 ^ te - 1 : Nat) := by omega
            refine lv_iload_n hx hb dX9_rounds_36 rfl (lv_at hl 3 rfl) ?_
            exact zr_iret hx hb hr hlocks hQ (by rw [if_pos (by omega), ← rnd7 (show t.toNat < te by omega) hte, hq, show 7 - i = (7 - (i + 1)) + 1 from by omega, rnd_s, if_pos (by omega)]) dX9_rounds_37
    exact loop16 ((7 - 0) + 1) 0 (by omega) (by omega) (by omega) rfl ((2 ^ t.toNat : Nat) : Int) rfl 0 (by first | rfl | omega | simp) ls (lv_sub hl [2, 3, 1, 0] rfl)
  · have c1 := bo_f c1
    refine lv_iconst (v := zI (-1)) hx hb dX9_rounds_8 rfl ?_
    exact zr_iret hx hb hr hlocks hQ (by exact (if_neg (by omega)).symm) dX9_rounds_9
abbrev rm_X9_watch : Room := { frames := 1, cells := 0, slots := 0, locals := 25 }
set_option maxHeartbeats 4000000 in
set_option maxRecDepth 100000 in
theorem c_X9_watch (l : Launch) (D : va_G) (cy : Nat → ClassId) (ma : Nat → Nat) (xt : Nat → Int) (xl : Nat) (at0 : Nat) (bg : Nat) (tk0 : Int) (td : Int) (rd : Nat → Int) (hs : Nat → Int) (day : Int) (hm : Nat → Int) (tk : Nat → Int) (py : Nat → Int) (db : Nat → Int) (un : Nat → Int) (ud : Nat) (rs : Nat → Int) (be : Int) (bp : Int) (gp : Nat → Int) (ln : Nat) (wh : Nat → Nat) (lk : Nat → Int) (wa : Int) (so : Nat → Nat) (tr : Int) (kp : Nat → Int) (sm : Int) (ro : Nat) (te : Nat) (ch : Nat) (pr : Nat → Int) (sl : Nat → Int) (mu : Nat → Int) (wi : Nat → Int) (ak : Nat → Int) (he : Nat → Nat) (li : Nat → Nat) (hs0 : inR sm) (hro : ro ≤ 6) (hte : te ≤ 6) (hch : ch ≤ 5) (hHB : HB pr sl mu wi ak he li) (hHS : HS hs ro te ch pr sl mu wi ak he li) : Met l yX9_watch wsX9_watch rm_X9_watch (pR D cy [((ma 0), .inr (9, [.ref (ma 1), .int (zI ((xl : Nat) : Int)), .int (zI ((at0 : Nat) : Int)), .int (zI ((bg : Nat) : Int)), .int (zI tk0), .int (zI td), .ref (ma 2), .ref (ma 3), .ref (ma 4), .ref (ma 5), .int (zI ((ud : Nat) : Int)), .ref (ma 6), .int (zI be), .int (zI bp), .ref (ma 7), .int (zI ((ln : Nat) : Int)), .ref (ma 8), .ref (ma 9), .int (zI wa), .ref (ma 10), .long (zL tr), .ref (ma 11)])), ((ma 1), .inl (cy 0, 200, .inl (zA xt))), ((ma 2), .inl (cy 0, 44, .inl (zA rd))), ((ma 3), .inl (cy 0, 44, .inl (zA hs))), ((ma 4), .inl (cy 0, 25, .inl (zA (enc day hm tk py db)))), ((ma 5), .inl (cy 0, 250, .inl (zA un))), ((ma 6), .inl (cy 0, 6, .inl (zA rs))), ((ma 7), .inl (cy 0, 64, .inl (zA gp))), ((ma 8), .inl (cy 0, 6, .inl (zA (fun j => ((wh j : Nat) : Int))))), ((ma 9), .inl (cy 0, 6, .inl (zA lk))), ((ma 10), .inl (cy 0, 6, .inl (zA (fun j => ((so j : Nat) : Int))))), ((ma 11), .inl (cy 0, 554, .inl (zA kp)))] [.ref (ma 0), .int (zI sm)]) (qR (if 0 ≤ sm ∧ sm ≤ ((2 ^ te - 1 : Nat) : Int) then (bst (fun n => decide (ndiff sm.toNat (sef li ch n) = 0)) 6 (2 ^ ch)).1 else -1)) 0 0 (fun _ => False) := by
  refine met_R (cc := cX9_watch) (maxL := 6) (ret := (some .int)) RX9 (by decide) rfl rfl (Nat.le_of_ble_eq_true rfl) ?_
  intro p e s m args below meth c ls Q hx hb hr hml hts hown hlocks hQ hP hK hl
  have hl : lv_has ls 6 [(0, .ref (ma 0)), (1, .int (zI sm))] := hl
  have hinX9 : ∀ w ∈ wsX90, w ∈ wsX9_watch := (fun w h => List.mem_cons_of_mem _ (List.mem_append_right _ h))
  have hpw := pow_le64 te (by omega)
  have hpc := pow_le64 ch (by omega)
  have hpc2 : 2 ^ ch ≤ 2 ^ 5 := Nat.pow_le_pow_right (by decide) (by omega)
  refine lv_iload_n hx hb dX9_watch_0 rfl (lv_at hl 1 rfl) ?_
  refine z_i2l hx hb ⟨by omega, by omega⟩ dX9_watch_1 ?_
  refine lv_lconst (v := zL 0) hx hb dX9_watch_2 rfl ?_
  refine lv_iconst (v := zI 1) hx hb dX9_watch_3 rfl ?_
  refine lv_aload_n hx hb dX9_watch_4 rfl (lv_at hl 0 rfl) ?_
  refine va_get (D := D) (ci := 9) (v := .ref (ma 3)) (C := RX9) (T := TX9) (N := 22) hx hb hts hinX9 hown hK hP 0 rfl rfl 7 (by decide) (hts (.fieldLink RX9 16 "SilentRentModel" "house" "[I") (List.mem_of_getElem? (i := 1) rfl)) (fun _ h9 => h9) rfl dX9_watch_5 ?_
  refine lv_iconst (v := zI 1) hx hb dX9_watch_8 rfl ?_
  refine z_iald2 hx hb hK hP 3 0 (f := hs) (v := ((te : Nat) : Int)) rfl rfl 1 (by omega) (by omega) (by decide) (hHS.2.1) dX9_watch_9 ?_
  have hp1 := pow_le3 te (by omega)
  refine z_ishl (r := ((2 ^ te : Nat) : Int)) hx hb (zI_shl1 te (by omega)) dX9_watch_10 ?_
  refine lv_iconst (v := zI 1) hx hb dX9_watch_11 rfl ?_
  refine z_isub (r := (((2 ^ te : Nat) : Int) - 1)) hx hb rfl dX9_watch_12 ?_
  refine z_i2l hx hb ⟨by omega, by omega⟩ dX9_watch_13 ?_
  have hPc2 := hP.sub (ws' := []) [] rfl
  refine zr_callS (rest := []) (As := [.long (zL sm), .long (zL 0), .long (zL (((2 ^ te : Nat) : Int) - 1))]) (v := (if 0 ≤ sm ∧ sm ≤ (((2 ^ te : Nat) : Int) - 1) then 1 else 0)) (wd := []) ⟨hx, hb, hml, hown, hts⟩ (c_X9_in l D cy sm 0 (((2 ^ te : Nat) : Int) - 1) (by omega) (by omega) (by omega)) (va_cwS 3 hts gX9_watch_X9_in rfl rfl rfl (by decide +kernel) ⟨Nat.le_of_ble_eq_true rfl, Nat.le_of_ble_eq_true rfl⟩) hK (fun k q h => by cases h) rfl hl.1 rfl (Nat.le_of_ble_eq_true rfl) dX9_watch_14 ⟨Nat.zero_le _, Nat.zero_le _⟩ ?_
  refine z_if_ne (tgt := 22) hx hb bo_r dX9_watch_17 (by decide) (fun c3 => ?_) (fun c3 => ?_)
  · have c3 := bo_t c3
    have hr4 : sm = ((sm.toNat : Nat) : Int) := by omega
    rw [hr4] at hl
    have hl : lv_has ls 6 [(0, .ref (ma 0)), (1, .int (zI ((sm.toNat : Nat) : Int)))] := hl
    refine lv_bipush (v := zI (-9)) hx hb dX9_watch_22 (by decide) ?_
    refine lv_istore_n (lv' := [(2, .int (zI (-9))), (0, .ref (ma 0)), (1, .int (zI ((sm.toNat : Nat) : Int)))]) hx hb dX9_watch_24 rfl hl (by decide) rfl (fun ls hl => ?_)
    refine lv_iconst (v := zI 0) hx hb dX9_watch_25 rfl ?_
    refine lv_istore_n (lv' := [(3, .int (zI 0)), (2, .int (zI (-9))), (0, .ref (ma 0)), (1, .int (zI ((sm.toNat : Nat) : Int)))]) hx hb dX9_watch_26 rfl hl (by decide) rfl (fun ls hl => ?_)
    have loop27 : ∀ (n9 : Nat) (i : Nat), 2 ^ ch - i < n9 → (i ≤ 2 ^ ch) → (0 ≤ sm ∧ sm ≤ ((2 ^ te - 1 : Nat) : Int)) → ∀ (x27_2 : Int), x27_2 = ((bst (fun n => decide (ndiff sm.toNat (sef li ch n) = 0)) 6 i).1) → ∀ (x27_3 : Int), x27_3 = ((i : Nat) : Int) → ∀ ls : Array Slot, lv_has ls 6 [(0, .ref (ma 0)), (1, .int (zI ((sm.toNat : Nat) : Int))), (2, .int (zI x27_2)), (3, .int (zI x27_3))] → W p l e rm_X9_watch s m args below meth c s.heap [] 0 0 Q (F0 m 27 ls []) := by
      intro n9
      induction n9 with
      | zero => intro i h9; exact absurd h9 (Nat.not_lt_zero _)
      | succ n9 ih27 =>
        intro i hmu27 hi hss x27_2 ex27_2 x27_3 ex27_3 ls hl
        subst ex27_2
        subst ex27_3
        have hl : lv_has ls 6 [(0, .ref (ma 0)), (1, .int (zI ((sm.toNat : Nat) : Int))), (2, .int (zI ((bst (fun n => decide (ndiff sm.toNat (sef li ch n) = 0)) 6 i).1))), (3, .int (zI ((i : Nat) : Int)))] := hl
        have hf1 := bst_in (fun n => decide (ndiff sm.toNat (sef li ch n) = 0)) 6 i
        have hbb := bst2 (fun n => decide (ndiff sm.toNat (sef li ch n) = 0)) 6 i
        have hbo := bst_or (fun n => decide (ndiff sm.toNat (sef li ch n) = 0)) 6 i
        have hf2 := popc_le6 i
        have hf3 := popc_le6 (bst (fun n => decide (ndiff sm.toNat (sef li ch n) = 0)) 6 i).1.toNat
        have hf5 : 0 < i → True := fun _ => trivial
        refine lv_iload_n hx hb dX9_watch_27 rfl (lv_at hl 3 rfl) ?_
        refine lv_iconst (v := zI 1) hx hb dX9_watch_28 rfl ?_
        refine lv_aload_n hx hb dX9_watch_29 rfl (lv_at hl 0 rfl) ?_
        refine va_get (D := D) (ci := 9) (v := .ref (ma 3)) (C := RX9) (T := TX9) (N := 22) hx hb hts hinX9 hown hK hP 0 rfl rfl 7 (by decide) (hts (.fieldLink RX9 16 "SilentRentModel" "house" "[I") (List.mem_of_getElem? (i := 1) rfl)) (fun _ h9 => h9) rfl dX9_watch_30 ?_
        refine lv_iconst (v := zI 2) hx hb dX9_watch_33 rfl ?_
        refine z_iald2 hx hb hK hP 3 0 (f := hs) (v := ((ch : Nat) : Int)) rfl rfl 2 (by omega) (by omega) (by decide) (hHS.2.2.1) dX9_watch_34 ?_
        have hp5 := pow_le3 ch (by omega)
        refine z_ishl (r := ((2 ^ ch : Nat) : Int)) hx hb (zI_shl1 ch (by omega)) dX9_watch_35 ?_
        refine z_icmp_ge (tgt := 137) hx hb ⟨by omega, by omega⟩ ⟨by omega, by omega⟩ dX9_watch_36 (by decide) (fun c6 => ?_) (fun c6 => ?_)
        · have c6 : (2 ^ ch : Nat) ≤ (i : Nat) := by omega
          refine lv_iload_n hx hb dX9_watch_137 rfl (lv_at hl 2 rfl) ?_
          exact zr_iret hx hb hr hlocks hQ (by rw [if_pos (by omega), show i = 2 ^ ch from by omega]) dX9_watch_138
        · have c6 : ¬ ((2 ^ ch : Nat) ≤ (i : Nat)) := by omega
          refine lv_iconst (v := zI 0) hx hb dX9_watch_39 rfl ?_
          refine lv_istore (lv' := [(4, .int (zI 0)), (0, .ref (ma 0)), (1, .int (zI ((sm.toNat : Nat) : Int))), (2, .int (zI ((bst (fun n => decide (ndiff sm.toNat (sef li ch n) = 0)) 6 i).1))), (3, .int (zI ((i : Nat) : Int)))]) hx hb dX9_watch_40 hl (by decide) rfl (fun ls hl => ?_)
          refine lv_iconst (v := zI 0) hx hb dX9_watch_42 rfl ?_
          refine lv_istore (lv' := [(5, .int (zI 0)), (4, .int (zI 0)), (0, .ref (ma 0)), (1, .int (zI ((sm.toNat : Nat) : Int))), (2, .int (zI ((bst (fun n => decide (ndiff sm.toNat (sef li ch n) = 0)) 6 i).1))), (3, .int (zI ((i : Nat) : Int)))]) hx hb dX9_watch_43 hl (by decide) rfl (fun ls hl => ?_)
          have loop45 : ∀ (n9 : Nat) (j : Nat), ch - j < n9 → (j ≤ ch) → (i < 2 ^ ch) → ∀ (x45_4 : Int), x45_4 = ((sefm li j te i : Nat) : Int) → ∀ (x45_5 : Int), x45_5 = ((j : Nat) : Int) → ∀ ls : Array Slot, lv_has ls 6 [(0, .ref (ma 0)), (1, .int (zI ((sm.toNat : Nat) : Int))), (2, .int (zI ((bst (fun n => decide (ndiff sm.toNat (sef li ch n) = 0)) 6 i).1))), (3, .int (zI ((i : Nat) : Int))), (4, .int (zI x45_4)), (5, .int (zI x45_5))] → W p l e rm_X9_watch s m args below meth c s.heap [] 0 0 Q (F0 m 45 ls []) := by
            intro n9
            induction n9 with
            | zero => intro j h9; exact absurd h9 (Nat.not_lt_zero _)
            | succ n9 ih45 =>
              intro j hmu45 hj hi9 x45_4 ex45_4 x45_5 ex45_5 ls hl
              subst ex45_4
              subst ex45_5
              have hl : lv_has ls 6 [(0, .ref (ma 0)), (1, .int (zI ((sm.toNat : Nat) : Int))), (2, .int (zI ((bst (fun n => decide (ndiff sm.toNat (sef li ch n) = 0)) 6 i).1))), (3, .int (zI ((i : Nat) : Int))), (4, .int (zI ((sefm li j te i : Nat) : Int))), (5, .int (zI ((j : Nat) : Int)))] := hl
              have hg1 := sefm_lt li te i hHB.2.2.2.2.2.2 j
              have hg2 := hHB.2.2.2.2.2.2 j
              have hx1 : (i >>> j) &&& 1 ≤ 1 := Nat.and_le_right
              have hx2 : li j &&& (2 ^ te - 1) ≤ li j := Nat.and_le_left
              refine lv_iload hx hb dX9_watch_45 (lv_at hl 5 rfl) ?_
              refine lv_aload_n hx hb dX9_watch_47 rfl (lv_at hl 0 rfl) ?_
              refine va_get (D := D) (ci := 9) (v := .ref (ma 3)) (C := RX9) (T := TX9) (N := 22) hx hb hts hinX9 hown hK hP 0 rfl rfl 7 (by decide) (hts (.fieldLink RX9 16 "SilentRentModel" "house" "[I") (List.mem_of_getElem? (i := 1) rfl)) (fun _ h9 => h9) rfl dX9_watch_48 ?_
              refine lv_iconst (v := zI 2) hx hb dX9_watch_51 rfl ?_
              refine z_iald2 hx hb hK hP 3 0 (f := hs) (v := ((ch : Nat) : Int)) rfl rfl 2 (by omega) (by omega) (by decide) (hHS.2.2.1) dX9_watch_52 ?_
              refine z_icmp_ge (tgt := 87) hx hb ⟨by omega, by omega⟩ ⟨by omega, by omega⟩ dX9_watch_53 (by decide) (fun c7 => ?_) (fun c7 => ?_)
              · have c7 : (ch : Nat) ≤ (j : Nat) := by omega
                have hje : j = ch := by omega
                have hnd : ndiff sm.toNat (sefm li j te i) = ndiff sm.toNat (sef li ch i) := by rw [hje, sefm_eq]; exact nd_mask te (by omega) _ (by omega) (by omega) _ (sef_lt64 li ch i hHB.2.2.2.2.2.2)
                have hp5 := popc_le5 i (by omega)
                refine lv_iload_n hx hb dX9_watch_87 rfl (lv_at hl 1 rfl) ?_
                refine lv_iload hx hb dX9_watch_88 (lv_at hl 4 rfl) ?_
                refine lv_iconst (v := zI (-1)) hx hb dX9_watch_90 rfl ?_
                refine z_ixor (r := (-((sefm li j te i : Nat) : Int) - 1)) hx hb (zI_not _) dX9_watch_91 ?_
                have hn8 := ndiff_le sm.toNat (sefm li j te i) (by omega)
                refine z_iand (r := ((ndiff sm.toNat (sefm li j te i) : Nat) : Int)) hx hb (zI_andnot (a := sm.toNat) (b := sefm li j te i) (by omega) (by omega)) dX9_watch_92 ?_
                refine z_if_ne (tgt := 117) hx hb ⟨by omega, by omega⟩ dX9_watch_93 (by decide) (fun c9 => ?_) (fun c9 => ?_)
                · have c9 : ¬ ((ndiff sm.toNat (sefm li j te i) : Nat) = (0 : Nat)) := by omega
                  refine lv_iconst (v := zI 0) hx hb dX9_watch_117 rfl ?_
                  refine lv_istore (lv' := [(5, .int (zI 0)), (0, .ref (ma 0)), (1, .int (zI ((sm.toNat : Nat) : Int))), (2, .int (zI ((bst (fun n => decide (ndiff sm.toNat (sef li ch n) = 0)) 6 i).1))), (3, .int (zI ((i : Nat) : Int))), (4, .int (zI ((sefm li j te i : Nat) : Int)))]) hx hb dX9_watch_118 hl (by decide) rfl (fun ls hl => ?_)
                  refine lv_iload hx hb dX9_watch_120 (lv_at hl 0 rfl) ?_
                  refine z_if_eq (tgt := 129) hx hb ⟨by omega, by omega⟩ dX9_watch_122 (by decide) (fun c10 => ?_) (fun c10 => ?_)
                  · refine lv_iload_n hx hb dX9_watch_129 rfl (lv_at hl 3 rfl) ?_
                    refine lv_istore_n (lv' := [(2, .int (zI ((bst (fun n => decide (ndiff sm.toNat (sef li ch n) = 0)) 6 i).1))), (5, .int (zI 0)), (0, .ref (ma 0)), (1, .int (zI ((sm.toNat : Nat) : Int))), (3, .int (zI ((i : Nat) : Int))), (4, .int (zI ((sefm li j te i : Nat) : Int)))]) hx hb dX9_watch_130 rfl hl (by decide) rfl (fun ls hl => ?_)
                    refine z_iinc (r := ((i + 1 : Nat) : Int)) (lv' := [(3, .int (zI ((i + 1 : Nat) : Int))), (2, .int (zI ((bst (fun n => decide (ndiff sm.toNat (sef li ch n) = 0)) 6 i).1))), (5, .int (zI 0)), (0, .ref (ma 0)), (1, .int (zI ((sm.toNat : Nat) : Int))), (4, .int (zI ((sefm li j te i : Nat) : Int)))]) hx hb (by omega) dX9_watch_131 hl (k := 4) rfl (by decide) rfl (fun ls hl => ?_)
                    refine lv_goto (tgt := 27) hx hb dX9_watch_134 (by decide) ?_
                    exact ih27 (i + 1) (by omega) (by omega) (by omega) ((bst (fun n => decide (ndiff sm.toNat (sef li ch n) = 0)) 6 i).1) (by rw [bst_s, hbb]; simp only [decide_eq_true_eq]; by_cases h9 : (bst (fun n => decide (ndiff sm.toNat (sef li ch n) = 0)) 6 i).1 = -9; (rw [if_pos h9]; split <;> first | rfl | omega); (rw [if_neg h9]; split <;> first | rfl | omega)) ((i + 1 : Nat) : Int) (by first | rfl | omega) ls (lv_sub hl [3, 4, 1, 0] rfl)
                  · exact absurd c10 (by decide)
                · have c9 : (ndiff sm.toNat (sefm li j te i) : Nat) = (0 : Nat) := by omega
                  refine lv_iload_n hx hb dX9_watch_96 rfl (lv_at hl 2 rfl) ?_
                  refine lv_bipush (v := zI (-9)) hx hb dX9_watch_97 (by decide) ?_
                  refine z_icmp_eq (tgt := 113) hx hb ⟨by omega, by omega⟩ ⟨by omega, by omega⟩ dX9_watch_99 (by decide) (fun c11 => ?_) (fun c11 => ?_)
                  · refine lv_iconst (v := zI 1) hx hb dX9_watch_113 rfl ?_
                    refine lv_goto (tgt := 118) hx hb dX9_watch_114 (by decide) ?_
                    refine lv_istore (lv' := [(5, .int (zI 1)), (0, .ref (ma 0)), (1, .int (zI ((sm.toNat : Nat) : Int))), (2, .int (zI ((bst (fun n => decide (ndiff sm.toNat (sef li ch n) = 0)) 6 i).1))), (3, .int (zI ((i : Nat) : Int))), (4, .int (zI ((sefm li j te i : Nat) : Int)))]) hx hb dX9_watch_118 hl (by decide) rfl (fun ls hl => ?_)
                    refine lv_iload hx hb dX9_watch_120 (lv_at hl 0 rfl) ?_
                    refine z_if_eq (tgt := 129) hx hb ⟨by omega, by omega⟩ dX9_watch_122 (by decide) (fun c12 => ?_) (fun c12 => ?_)
                    · exact absurd c12 (by decide)
                    · refine lv_iload_n hx hb dX9_watch_125 rfl (lv_at hl 4 rfl) ?_
                      refine lv_goto (tgt := 130) hx hb dX9_watch_126 (by decide) ?_
                      refine lv_istore_n (lv' := [(2, .int (zI ((i : Nat) : Int))), (5, .int (zI 1)), (0, .ref (ma 0)), (1, .int (zI ((sm.toNat : Nat) : Int))), (3, .int (zI ((i : Nat) : Int))), (4, .int (zI ((sefm li j te i : Nat) : Int)))]) hx hb dX9_watch_130 rfl hl (by decide) rfl (fun ls hl => ?_)
                      refine z_iinc (r := ((i + 1 : Nat) : Int)) (lv' := [(3, .int (zI ((i + 1 : Nat) : Int))), (2, .int (zI ((i : Nat) : Int))), (5, .int (zI 1)), (0, .ref (ma 0)), (1, .int (zI ((sm.toNat : Nat) : Int))), (4, .int (zI ((sefm li j te i : Nat) : Int)))]) hx hb (by omega) dX9_watch_131 hl (k := 4) rfl (by decide) rfl (fun ls hl => ?_)
                      refine lv_goto (tgt := 27) hx hb dX9_watch_134 (by decide) ?_
                      exact ih27 (i + 1) (by omega) (by omega) (by omega) ((i : Nat) : Int) (by rw [bst_s, hbb]; simp only [decide_eq_true_eq]; by_cases h9 : (bst (fun n => decide (ndiff sm.toNat (sef li ch n) = 0)) 6 i).1 = -9; (rw [if_pos h9]; split <;> first | rfl | omega); (rw [if_neg h9]; split <;> first | rfl | omega)) ((i + 1 : Nat) : Int) (by first | rfl | omega) ls (lv_sub hl [3, 4, 1, 0] rfl)
                  · refine lv_iload_n hx hb dX9_watch_102 rfl (lv_at hl 3 rfl) ?_
                    have hPc13 := hP.sub (ws' := []) [] rfl
                    refine zr_callS (rest := []) (As := [.int (zI ((i : Nat) : Int))]) (v := ((popc i : Nat) : Int)) (wd := []) ⟨hx, hb, hml, hown, hts⟩ (c_X9_many l D cy ((i : Nat) : Int) (by omega)) (va_cwS 1 hts gX9_watch_X9_many rfl rfl rfl (by decide +kernel) ⟨Nat.le_of_ble_eq_true rfl, Nat.le_of_ble_eq_true rfl⟩) hK (fun k q h => by cases h) rfl hl.1 rfl (Nat.le_of_ble_eq_true rfl) dX9_watch_103 ⟨Nat.zero_le _, Nat.zero_le _⟩ ?_
                    refine lv_iload_n hx hb dX9_watch_106 rfl (lv_at hl 2 rfl) ?_
                    have hPc14 := hP.sub (ws' := []) [] rfl
                    refine zr_callS (rest := [.int (zI ((popc i : Nat) : Int))]) (As := [.int (zI ((bst (fun n => decide (ndiff sm.toNat (sef li ch n) = 0)) 6 i).1))]) (v := ((popc ((bst (fun n => decide (ndiff sm.toNat (sef li ch n) = 0)) 6 i).1).toNat : Nat) : Int)) (wd := []) ⟨hx, hb, hml, hown, hts⟩ (c_X9_many l D cy ((bst (fun n => decide (ndiff sm.toNat (sef li ch n) = 0)) 6 i).1) (by omega)) (va_cwS 1 hts gX9_watch_X9_many rfl rfl rfl (by decide +kernel) ⟨Nat.le_of_ble_eq_true rfl, Nat.le_of_ble_eq_true rfl⟩) hK (fun k q h => by cases h) rfl hl.1 rfl (Nat.le_of_ble_eq_true rfl) dX9_watch_107 ⟨Nat.zero_le _, Nat.zero_le _⟩ ?_
                    refine z_icmp_ge (tgt := 117) hx hb ⟨by omega, by omega⟩ ⟨by omega, by omega⟩ dX9_watch_110 (by decide) (fun c15 => ?_) (fun c15 => ?_)
                    · have c15 : (popc ((bst (fun n => decide (ndiff sm.toNat (sef li ch n) = 0)) 6 i).1).toNat : Nat) ≤ (popc i : Nat) := by omega
                      refine lv_iconst (v := zI 0) hx hb dX9_watch_117 rfl ?_
                      refine lv_istore (lv' := [(5, .int (zI 0)), (0, .ref (ma 0)), (1, .int (zI ((sm.toNat : Nat) : Int))), (2, .int (zI ((bst (fun n => decide (ndiff sm.toNat (sef li ch n) = 0)) 6 i).1))), (3, .int (zI ((i : Nat) : Int))), (4, .int (zI ((sefm li j te i : Nat) : Int)))]) hx hb dX9_watch_118 hl (by decide) rfl (fun ls hl => ?_)
                      refine lv_iload hx hb dX9_watch_120 (lv_at hl 0 rfl) ?_
                      refine z_if_eq (tgt := 129) hx hb ⟨by omega, by omega⟩ dX9_watch_122 (by decide) (fun c16 => ?_) (fun c16 => ?_)
                      · refine lv_iload_n hx hb dX9_watch_129 rfl (lv_at hl 3 rfl) ?_
                        refine lv_istore_n (lv' := [(2, .int (zI ((bst (fun n => decide (ndiff sm.toNat (sef li ch n) = 0)) 6 i).1))), (5, .int (zI 0)), (0, .ref (ma 0)), (1, .int (zI ((sm.toNat : Nat) : Int))), (3, .int (zI ((i : Nat) : Int))), (4, .int (zI ((sefm li j te i : Nat) : Int)))]) hx hb dX9_watch_130 rfl hl (by decide) rfl (fun ls hl => ?_)
                        refine z_iinc (r := ((i + 1 : Nat) : Int)) (lv' := [(3, .int (zI ((i + 1 : Nat) : Int))), (2, .int (zI ((bst (fun n => decide (ndiff sm.toNat (sef li ch n) = 0)) 6 i).1))), (5, .int (zI 0)), (0, .ref (ma 0)), (1, .int (zI ((sm.toNat : Nat) : Int))), (4, .int (zI ((sefm li j te i : Nat) : Int)))]) hx hb (by omega) dX9_watch_131 hl (k := 4) rfl (by decide) rfl (fun ls hl => ?_)
                        refine lv_goto (tgt := 27) hx hb dX9_watch_134 (by decide) ?_
                        exact ih27 (i + 1) (by omega) (by omega) (by omega) ((bst (fun n => decide (ndiff sm.toNat (sef li ch n) = 0)) 6 i).1) (by rw [bst_s, hbb]; simp only [decide_eq_true_eq]; by_cases h9 : (bst (fun n => decide (ndiff sm.toNat (sef li ch n) = 0)) 6 i).1 = -9; (rw [if_pos h9]; split <;> first | rfl | omega); (rw [if_neg h9]; split <;> first | rfl | omega)) ((i + 1 : Nat) : Int) (by first | rfl | omega) ls (lv_sub hl [3, 4, 1, 0] rfl)
                      · exact absurd c16 (by decide)
                    · have c15 : ¬ ((popc ((bst (fun n => decide (ndiff sm.toNat (sef li ch n) = 0)) 6 i).1).toNat : Nat) ≤ (popc i : Nat)) := by omega
                      refine lv_iconst (v := zI 1) hx hb dX9_watch_113 rfl ?_
                      refine lv_goto (tgt := 118) hx hb dX9_watch_114 (by decide) ?_
                      refine lv_istore (lv' := [(5, .int (zI 1)), (0, .ref (ma 0)), (1, .int (zI ((sm.toNat : Nat) : Int))), (2, .int (zI ((bst (fun n => decide (ndiff sm.toNat (sef li ch n) = 0)) 6 i).1))), (3, .int (zI ((i : Nat) : Int))), (4, .int (zI ((sefm li j te i : Nat) : Int)))]) hx hb dX9_watch_118 hl (by decide) rfl (fun ls hl => ?_)
                      refine lv_iload hx hb dX9_watch_120 (lv_at hl 0 rfl) ?_
                      refine z_if_eq (tgt := 129) hx hb ⟨by omega, by omega⟩ dX9_watch_122 (by decide) (fun c17 => ?_) (fun c17 => ?_)
                      · exact absurd c17 (by decide)
                      · refine lv_iload_n hx hb dX9_watch_125 rfl (lv_at hl 4 rfl) ?_
                        refine lv_goto (tgt := 130) hx hb dX9_watch_126 (by decide) ?_
                        refine lv_istore_n (lv' := [(2, .int (zI ((i : Nat) : Int))), (5, .int (zI 1)), (0, .ref (ma 0)), (1, .int (zI ((sm.toNat : Nat) : Int))), (3, .int (zI ((i : Nat) : Int))), (4, .int (zI ((sefm li j te i : Nat) : Int)))]) hx hb dX9_watch_130 rfl hl (by decide) rfl (fun ls hl => ?_)
                        refine z_iinc (r := ((i + 1 : Nat) : Int)) (lv' := [(3, .int (zI ((i + 1 : Nat) : Int))), (2, .int (zI ((i : Nat) : Int))), (5, .int (zI 1)), (0, .ref (ma 0)), (1, .int (zI ((sm.toNat : Nat) : Int))), (4, .int (zI ((sefm li j te i : Nat) : Int)))]) hx hb (by omega) dX9_watch_131 hl (k := 4) rfl (by decide) rfl (fun ls hl => ?_)
                        refine lv_goto (tgt := 27) hx hb dX9_watch_134 (by decide) ?_
                        exact ih27 (i + 1) (by omega) (by omega) (by omega) ((i : Nat) : Int) (by rw [bst_s, hbb]; simp only [decide_eq_true_eq]; by_cases h9 : (bst (fun n => decide (ndiff sm.toNat (sef li ch n) = 0)) 6 i).1 = -9; (rw [if_pos h9]; split <;> first | rfl | omega); (rw [if_neg h9]; split <;> first | rfl | omega)) ((i + 1 : Nat) : Int) (by first | rfl | omega) ls (lv_sub hl [3, 4, 1, 0] rfl)
              · have c7 : ¬ ((ch : Nat) ≤ (j : Nat)) := by omega
                refine lv_iload hx hb dX9_watch_56 (lv_at hl 4 rfl) ?_
                refine lv_iload_n hx hb dX9_watch_58 rfl (lv_at hl 3 rfl) ?_
                refine lv_iload hx hb dX9_watch_59 (lv_at hl 5 rfl) ?_
                have hs18 := shr_le i j
                refine z_ishr (r := ((i >>> j : Nat) : Int)) hx hb (zI_shr (a := i) (k := j) (by omega) (by omega)) dX9_watch_61 ?_
                refine lv_iconst (v := zI 1) hx hb dX9_watch_62 rfl ?_
                have hq19 : (i >>> j) &&& 1 ≤ (i >>> j) := Nat.and_le_left
                refine z_iand (r := (((i >>> j) &&& 1 : Nat) : Int)) hx hb (zI_and (a := i >>> j) (b := 1) (by omega) (by omega)) dX9_watch_63 ?_
                refine lv_iconst (v := zI 1) hx hb dX9_watch_64 rfl ?_
                refine z_icmp_ne (tgt := 77) hx hb ⟨by omega, by omega⟩ ⟨by omega, by omega⟩ dX9_watch_65 (by decide) (fun c20 => ?_) (fun c20 => ?_)
                · have c20 : ¬ (((i >>> j) &&& 1 : Nat) = (1 : Nat)) := by omega
                  refine lv_iconst (v := zI 0) hx hb dX9_watch_77 rfl ?_
                  have hq21 := or_lt64 (a := (sefm li j te i)) (b := 0) (by omega) (by omega)
                  refine z_ior (r := (((sefm li j te i) ||| 0 : Nat) : Int)) hx hb (zI_or (a := sefm li j te i) (b := 0) (by omega) (by omega)) dX9_watch_78 ?_
                  refine lv_istore (lv' := [(4, .int (zI (((sefm li j te i) ||| 0 : Nat) : Int))), (0, .ref (ma 0)), (1, .int (zI ((sm.toNat : Nat) : Int))), (2, .int (zI ((bst (fun n => decide (ndiff sm.toNat (sef li ch n) = 0)) 6 i).1))), (3, .int (zI ((i : Nat) : Int))), (5, .int (zI ((j : Nat) : Int)))]) hx hb dX9_watch_79 hl (by decide) rfl (fun ls hl => ?_)
                  refine z_iinc (r := ((j + 1 : Nat) : Int)) (lv' := [(5, .int (zI ((j + 1 : Nat) : Int))), (4, .int (zI (((sefm li j te i) ||| 0 : Nat) : Int))), (0, .ref (ma 0)), (1, .int (zI ((sm.toNat : Nat) : Int))), (2, .int (zI ((bst (fun n => decide (ndiff sm.toNat (sef li ch n) = 0)) 6 i).1))), (3, .int (zI ((i : Nat) : Int)))]) hx hb (by omega) dX9_watch_81 hl (k := 5) rfl (by decide) rfl (fun ls hl => ?_)
                  refine lv_goto (tgt := 45) hx hb dX9_watch_84 (by decide) ?_
                  exact ih45 (j + 1) (by omega) (by omega) (by omega) (((sefm li j te i) ||| 0 : Nat) : Int) (by show _ = ((sefm li j te i ||| (if (i >>> j) &&& 1 = 0 then 0 else li j &&& (2 ^ te - 1)) : Nat) : Int); split <;> first | rfl | omega) ((j + 1 : Nat) : Int) (by first | rfl | omega) ls (lv_sub hl [2, 3, 4, 5, 1, 0] rfl)
                · have c20 : ((i >>> j) &&& 1 : Nat) = (1 : Nat) := by omega
                  refine lv_aload_n hx hb dX9_watch_68 rfl (lv_at hl 0 rfl) ?_
                  refine lv_iload hx hb dX9_watch_69 (lv_at hl 5 rfl) ?_
                  refine zr_callV (rest := [.int (zI ((sefm li j te i : Nat) : Int))]) (As := [.int (zI ((j : Nat) : Int))]) (v := ((li j &&& (2 ^ te - 1) : Nat) : Int)) ⟨hx, hb, hml, hown, hts⟩ (c_X9_lips l D cy ma xt xl at0 bg tk0 td rd hs day hm tk py db un ud rs be bp gp ln wh lk wa so tr kp ((j : Nat) : Int) ro te ch pr sl mu wi ak he li (by omega) (by omega) (by omega) (by omega) hHB hHS) (cwV 1 hts gX9_watch_X9_lips rfl rfl rfl (by decide +kernel) ⟨Nat.le_of_ble_eq_true rfl, Nat.le_of_ble_eq_true rfl⟩) hK hP 0 9 rfl rfl rfl hl.1 rfl (Nat.le_of_ble_eq_true rfl) dX9_watch_71 ⟨Nat.zero_le _, Nat.zero_le _⟩ ?_
                  refine lv_goto (tgt := 78) hx hb dX9_watch_74 (by decide) ?_
                  have hq22 := or_lt64 (a := (sefm li j te i)) (b := (li j &&& (2 ^ te - 1))) (by omega) (by omega)
                  refine z_ior (r := (((sefm li j te i) ||| (li j &&& (2 ^ te - 1)) : Nat) : Int)) hx hb (zI_or (a := sefm li j te i) (b := li j &&& (2 ^ te - 1)) (by omega) (by omega)) dX9_watch_78 ?_
                  refine lv_istore (lv' := [(4, .int (zI (((sefm li j te i) ||| (li j &&& (2 ^ te - 1)) : Nat) : Int))), (0, .ref (ma 0)), (1, .int (zI ((sm.toNat : Nat) : Int))), (2, .int (zI ((bst (fun n => decide (ndiff sm.toNat (sef li ch n) = 0)) 6 i).1))), (3, .int (zI ((i : Nat) : Int))), (5, .int (zI ((j : Nat) : Int)))]) hx hb dX9_watch_79 hl (by decide) rfl (fun ls hl => ?_)
                  refine z_iinc (r := ((j + 1 : Nat) : Int)) (lv' := [(5, .int (zI ((j + 1 : Nat) : Int))), (4, .int (zI (((sefm li j te i) ||| (li j &&& (2 ^ te - 1)) : Nat) : Int))), (0, .ref (ma 0)), (1, .int (zI ((sm.toNat : Nat) : Int))), (2, .int (zI ((bst (fun n => decide (ndiff sm.toNat (sef li ch n) = 0)) 6 i).1))), (3, .int (zI ((i : Nat) : Int)))]) hx hb (by omega) dX9_watch_81 hl (k := 5) rfl (by decide) rfl (fun ls hl => ?_)
                  refine lv_goto (tgt := 45) hx hb dX9_watch_84 (by decide) ?_
                  exact ih45 (j + 1) (by omega) (by omega) (by omega) (((sefm li j te i) ||| (li j &&& (2 ^ te - 1)) : Nat) : Int) (by show _ = ((sefm li j te i ||| (if (i >>> j) &&& 1 = 0 then 0 else li j &&& (2 ^ te - 1)) : Nat) : Int); split <;> first | rfl | omega) ((j + 1 : Nat) : Int) (by first | rfl | omega) ls (lv_sub hl [2, 3, 4, 5, 1, 0] rfl)
          exact loop45 ((ch - 0) + 1) 0 (by omega) (by omega) (by omega) 0 rfl 0 (by first | rfl | omega | simp) ls (lv_sub hl [2, 3, 4, 5, 1, 0] rfl)
    exact loop27 ((2 ^ ch - 0) + 1) 0 (by omega) (by omega) (by omega) (-9) rfl 0 (by first | rfl | omega | simp) ls (lv_sub hl [2, 3, 1, 0] rfl)
  · have c3 := bo_f c3
    refine lv_iconst (v := zI (-1)) hx hb dX9_watch_20 rfl ?_
    exact zr_iret hx hb hr hlocks hQ (by exact (if_neg (by omega)).symm) dX9_watch_21
