/-! SilentRent's methods that write nothing -/
section ZD
variable {p : Program} {l : Launch} {e : Env} {R : Room} {s : State} {m : MethodId} {args : Array Value} {below : List Frame} {meth : Method} {c : Code} {H : Heap} {locs : List Loc} {cells slots : Nat} {Q : State → Prop}
variable {cc : ByteArray} {pc : Nat} {ls : Array Slot} {rest : List Value}
theorem zL_n (a : Nat) : zL (a : Int) = lN a := Int64.ofInt_eq_ofNat
theorem zL_div {a b : Int} (ha : 0 ≤ a) (ha2 : a < 9223372036854775808) (hb : 0 < b) (hb2 : b < 9223372036854775808) : zL a / zL b = zL (a / b) := by
  obtain ⟨n, rfl⟩ := Int.eq_ofNat_of_zero_le ha
  obtain ⟨d, rfl⟩ := Int.eq_ofNat_of_zero_le (Int.le_of_lt hb)
  rw [zL_n, zL_n, pk_lDiv (by omega) (by omega) (by omega), ← zL_n]
  rfl
theorem zL_rem {a b : Int} (ha : 0 ≤ a) (ha2 : a < 9223372036854775808) (hb : 0 < b) (hb2 : b < 9223372036854775808) : zL a - zL a / zL b * zL b = zL (a % b) := by
  rw [zL_div ha ha2 hb hb2, zL_mul, zL_sub]
  congr 1
  have := Int.emod_add_mul_ediv a b
  rw [Int.mul_comm (a / b) b]
  omega
theorem zL_ne0 {b : Int} (hb : 0 < b) (hb2 : b < 9223372036854775808) : ¬ zL b = 0 := by
  intro q
  have h0 : (0 : Int64) = zL 0 := by decide
  rw [h0, zL_inj ⟨by omega, by omega⟩ ⟨by omega, by omega⟩] at q
  omega
theorem z_ldiv (hx : p.tables.exec = Jvm.exec) (hb : c.code = cc) {a b r : Int} (ha : 0 ≤ a ∧ a < 9223372036854775808) (hb0 : 0 < b ∧ b < 9223372036854775808) (he : a / b = r) (hdg : decode cc pc = .ok (.ldiv, 1)) (k : W p l e R s m args below meth c H locs cells slots Q (F0 m (pc + 1) ls (.long (zL r) :: rest))) : W p l e R s m args below meth c H locs cells slots Q (F0 m pc ls (.long (zL b) :: .long (zL a) :: rest)) :=
  lv_ldiv hx hb hdg (zL_ne0 hb0.1 hb0.2) (by rw [zL_div ha.1 ha.2 hb0.1 hb0.2, he]; exact k)
theorem z_lrem (hx : p.tables.exec = Jvm.exec) (hb : c.code = cc) {a b r : Int} (ha : 0 ≤ a ∧ a < 9223372036854775808) (hb0 : 0 < b ∧ b < 9223372036854775808) (he : a % b = r) (hdg : decode cc pc = .ok (.lrem, 1)) (k : W p l e R s m args below meth c H locs cells slots Q (F0 m (pc + 1) ls (.long (zL r) :: rest))) : W p l e R s m args below meth c H locs cells slots Q (F0 m pc ls (.long (zL b) :: .long (zL a) :: rest)) :=
  lv_lrem hx hb hdg (zL_ne0 hb0.1 hb0.2) (by rw [zL_rem ha.1 ha.2 hb0.1 hb0.2, he]; exact k)
end ZD
/-- SPARE of a tenant, in the class's words -/
def spr (hm pr sl mu : Nat → Int) (ro t : Nat) : Int := if 0 ≤ hm t ∧ hm t < (ro : Int) then 24 - sl t - mu t - pr (hm t).toNat else 0
def hfs (hm pr sl mu ak : Nat → Int) (ro te : Nat) (q : Int) : Int := sumI (fun t => if ak t ≤ q then max 0 (spr hm pr sl mu ro t) else 0) te
def hbo (hm pr sl mu ak : Nat → Int) (ro te : Nat) (q : Int) : Int := sumI (fun t => if q ≤ ak t then max 0 (-(spr hm pr sl mu ro t)) else 0) te
def lsh (db : Nat → Int) (te t : Nat) : Int := if te = 0 then 0 else sumI db 6 / (te : Int) + (if (t : Int) < sumI db 6 % (te : Int) then 1 else 0) - db t
/-- the best set of those below n: fewest (of as few the first), w: more than any -/
def bst (ok : Nat → Bool) (w : Nat) : Nat → Int × Nat
  | 0 => (-9, w)
  | n + 1 => if popc n < (bst ok w n).2 ∧ ok n = true then ((n : Int), popc n) else bst ok w n
theorem bst_s (ok : Nat → Bool) (w n : Nat) : bst ok w (n + 1) = if popc n < (bst ok w n).2 ∧ ok n = true then ((n : Int), popc n) else bst ok w n := rfl
theorem bst_in (ok : Nat → Bool) (w : Nat) : ∀ n, -9 ≤ (bst ok w n).1 ∧ (bst ok w n).1 < (n : Int) ∧ (bst ok w n).2 ≤ w
  | 0 => ⟨by show (-9 : Int) ≤ -9; omega, by show (-9 : Int) < ((0 : Nat) : Int); omega, Nat.le_refl _⟩
  | n + 1 => by
    have ih := bst_in ok w n
    rw [bst_s]
    split
    · rename_i h
      exact ⟨by show (-9 : Int) ≤ (n : Int); omega, by show (n : Int) < ((n + 1 : Nat) : Int); omega, by show popc n ≤ w; omega⟩
    · exact ⟨ih.1, by omega, ih.2.2⟩
/-- who knows behind n rounds, k begins, tl tell -/
def knw (he : Nat → Nat) (te tl k : Nat) : Nat → Nat
  | 0 => 2 ^ k
  | n + 1 => knw he te tl k n ||| hrs he te (knw he te tl k n &&& tl)
theorem knw_lt64 (he : Nat → Nat) (te tl k : Nat) (hk : k < 6) (hte : te ≤ 6) : ∀ n, knw he te tl k n < 64
  | 0 => by
    have := pow_le32 k hk
    show 2 ^ k < 64
    omega
  | n + 1 => or_lt64 (knw_lt64 he te tl k hk hte n) (hrs_lt64 _ _ _ hte)
theorem spr_in {hm pr sl mu wi ak : Nat → Int} {he li : Nat → Nat} (h : HB pr sl mu wi ak he li) (ro t : Nat) : -24 ≤ spr hm pr sl mu ro t ∧ spr hm pr sl mu ro t ≤ 24 := by
  have h1 := h.1 (hm t).toNat
  have h2 := h.2.1 t
  have h3 := h.2.2.1 t
  unfold spr
  split <;> omega
theorem hfs_in {hm pr sl mu wi ak : Nat → Int} {he li : Nat → Nat} (h : HB pr sl mu wi ak he li) (ro te : Nat) (hte : te ≤ 6) (q : Int) : 0 ≤ hfs hm pr sl mu ak ro te q ∧ hfs hm pr sl mu ak ro te q ≤ 144 := by
  have := sumI_bd (fun t => if ak t ≤ q then max 0 (spr hm pr sl mu ro t) else 0) 24 (fun t => by have := spr_in h (hm := hm) ro t; split <;> omega) te
  unfold hfs
  omega
theorem hbo_in {hm pr sl mu wi ak : Nat → Int} {he li : Nat → Nat} (h : HB pr sl mu wi ak he li) (ro te : Nat) (hte : te ≤ 6) (q : Int) : 0 ≤ hbo hm pr sl mu ak ro te q ∧ hbo hm pr sl mu ak ro te q ≤ 144 := by
  have := sumI_bd (fun t => if q ≤ ak t then max 0 (-(spr hm pr sl mu ro t)) else 0) 24 (fun t => by have := spr_in h (hm := hm) ro t; split <;> omega) te
  unfold hbo
  omega
/-- the least price from i on, of n more -/
def rsp (hm pr sl mu ak : Nat → Int) (ro te : Nat) : Nat → Nat → Nat
  | 0, i => i
  | n + 1, i => if hbo hm pr sl mu ak ro te (i : Int) ≤ hfs hm pr sl mu ak ro te (i : Int) then i else rsp hm pr sl mu ak ro te n (i + 1)
theorem rsp_s (hm pr sl mu ak : Nat → Int) (ro te n i : Nat) : rsp hm pr sl mu ak ro te (n + 1) i = if hbo hm pr sl mu ak ro te (i : Int) ≤ hfs hm pr sl mu ak ro te (i : Int) then i else rsp hm pr sl mu ak ro te n (i + 1) := rfl
def sRest (hm pr sl mu ak : Nat → Int) (ro te : Nat) (what : Int) : Int := if 0 ≤ what ∧ what ≤ 1 then (if what = 0 then ((rsp hm pr sl mu ak ro te 10 0 : Nat) : Int) else hbo hm pr sl mu ak ro te ((rsp hm pr sl mu ak ro te 10 0 : Nat) : Int)) else -1
theorem and63 {n : Nat} (h : n < 64) : n &&& 63 = n := by
  have : n &&& 63 = n % 2 ^ 6 := Nat.and_two_pow_sub_one_eq_mod n 6
  have h2 : n % 2 ^ 6 = n := Nat.mod_eq_of_lt h
  omega
/-- behind how many rounds, from i on, of n more -/
def rnd (he : Nat → Nat) (te k : Nat) : Nat → Nat → Int
  | 0, _ => -9
  | n + 1, i => if knw he te 63 k i = 2 ^ te - 1 then (i : Int) else rnd he te k n (i + 1)
theorem rnd_s (he : Nat → Nat) (te k n i : Nat) : rnd he te k (n + 1) i = if knw he te 63 k i = 2 ^ te - 1 then (i : Int) else rnd he te k n (i + 1) := rfl
abbrev rm_X8_silentHours : Room := { frames := 1, cells := 0, slots := 0, locals := 21 }
set_option maxHeartbeats 4000000 in
set_option maxRecDepth 100000 in
theorem c_X8_silentHours (l : Launch) (D : va_G) (cy : Nat → ClassId) (sa : Nat → Nat) (rTx : Nat) (rDr : Nat) (rPa : Nat) (rIm : Nat) (rBk : Nat) (rHo : Nat) (rFi : Nat) (rGr : Nat) (tr : Int) (h : Nat → Nat) (ro : Nat) (te : Nat) (ch : Nat) (pr : Nat → Int) (sl : Nat → Int) (mu : Nat → Int) (wi : Nat → Int) (ak : Nat → Int) (he : Nat → Nat) (li : Nat → Nat) (na : Nat → Nat) (day : Int) (hm : Nat → Int) (tk : Nat → Int) (py : Nat → Int) (db : Nat → Int) (t : Int) (ht0 : 0 ≤ t ∧ t < 6) (hHB : HB pr sl mu wi ak he li) (hNB : NB hm tk py db) : Met l yX8_silentHours wsX8_silentHours rm_X8_silentHours (pR D cy [((sa 0), .inr (8, [.ref rTx, .ref (h 0), .ref rDr, .ref (na 0), .ref rPa, .ref rIm, .ref rBk, .ref rHo, .ref rFi, .ref rGr, .long (zL tr)])), ((h 0), .inr (2, [.int (zI ((ro : Nat) : Int)), .int (zI ((te : Nat) : Int)), .int (zI ((ch : Nat) : Int)), .ref (h 1), .ref (h 2), .ref (h 3), .ref (h 4), .ref (h 5), .ref (h 6), .ref (h 7)])), ((h 1), .inl (cy 0, 6, .inl (zA pr))), ((h 2), .inl (cy 0, 6, .inl (zA sl))), ((h 3), .inl (cy 0, 6, .inl (zA mu))), ((h 4), .inl (cy 0, 6, .inl (zA wi))), ((h 5), .inl (cy 0, 6, .inl (zA ak))), ((h 6), .inl (cy 0, 6, .inl (zA (fun j => ((he j : Nat) : Int))))), ((h 7), .inl (cy 0, 5, .inl (zA (fun j => ((li j : Nat) : Int))))), ((na 0), .inr (5, [.int (zI day), .ref (na 1), .ref (na 2), .ref (na 3), .ref (na 4)])), ((na 1), .inl (cy 0, 6, .inl (zA hm))), ((na 2), .inl (cy 0, 6, .inl (zA tk))), ((na 3), .inl (cy 0, 6, .inl (zA py))), ((na 4), .inl (cy 0, 6, .inl (zA db)))] [.ref (sa 0), .int (zI t)]) (qR (max 0 (24 - sl t.toNat - py t.toNat))) 0 0 (fun _ => False) := by
  refine met_R (cc := cX8_silentHours) (maxL := 2) (ret := (some .int)) RX8 (by decide) rfl rfl (Nat.le_of_ble_eq_true rfl) ?_
  intro p e s m args below meth c ls Q hx hb hr hml hts hown hlocks hQ hP hK hl
  have hl : lv_has ls 2 [(0, .ref (sa 0)), (1, .int (zI t))] := hl
  have hinX5 : ∀ w ∈ wsX50, w ∈ wsX8_silentHours := (fun w h => List.mem_cons_of_mem _ (List.mem_append_left _ (List.mem_append_right _ h)))
  have hinX8 : ∀ w ∈ wsX80, w ∈ wsX8_silentHours := (fun w h => List.mem_cons_of_mem _ (List.mem_append_left _ (List.mem_append_left _ (List.mem_append_right _ h))))
  have hs9 := hHB.2.1 t.toNat
  have hp9 := hNB.2.2.1 t.toNat
  refine lv_iconst (v := zI 0) hx hb dX8_silentHours_0 rfl ?_
  refine lv_aload_n hx hb dX8_silentHours_1 rfl (lv_at hl 0 rfl) ?_
  refine va_get (D := D) (ci := 8) (v := .ref (h 0)) (C := RX8) (T := TX8) (N := 11) hx hb hts hinX8 hown hK hP 0 rfl rfl 1 (by decide) (hts (.fieldLink RX8 19 "SilentRent" "built" "LSilentRent$House;") (List.mem_of_getElem? (i := 1) rfl)) (fun _ h9 => h9) rfl dX8_silentHours_2 ?_
  refine lv_iload_n hx hb dX8_silentHours_5 rfl (lv_at hl 1 rfl) ?_
  have hPc1 := hP.sub (ws' := [((h 0), .inr (2, [.int (zI ((ro : Nat) : Int)), .int (zI ((te : Nat) : Int)), .int (zI ((ch : Nat) : Int)), .ref (h 1), .ref (h 2), .ref (h 3), .ref (h 4), .ref (h 5), .ref (h 6), .ref (h 7)])), ((h 1), .inl (cy 0, 6, .inl (zA pr))), ((h 2), .inl (cy 0, 6, .inl (zA sl))), ((h 3), .inl (cy 0, 6, .inl (zA mu))), ((h 4), .inl (cy 0, 6, .inl (zA wi))), ((h 5), .inl (cy 0, 6, .inl (zA ak))), ((h 6), .inl (cy 0, 6, .inl (zA (fun j => ((he j : Nat) : Int))))), ((h 7), .inl (cy 0, 5, .inl (zA (fun j => ((li j : Nat) : Int)))))]) [1, 2, 3, 4, 5, 6, 7, 8] rfl
  refine zr_callV (rest := [.int (zI 0)]) (As := [.int (zI t)]) (v := (24 - sl t.toNat)) ⟨hx, hb, hml, hown, hts⟩ (c_X2_freeHours l D cy h ro te ch pr sl mu wi ak he li t (by omega) hHB) (cwV 1 hts gX8_silentHours_X2_freeHours rfl rfl rfl (by decide +kernel) ⟨Nat.le_of_ble_eq_true rfl, Nat.le_of_ble_eq_true rfl⟩) hK hPc1 0 2 rfl rfl rfl hl.1 rfl (Nat.le_of_ble_eq_true rfl) dX8_silentHours_6 ⟨Nat.zero_le _, Nat.zero_le _⟩ ?_
  refine lv_aload_n hx hb dX8_silentHours_9 rfl (lv_at hl 0 rfl) ?_
  refine va_get (D := D) (ci := 8) (v := .ref (na 0)) (C := RX8) (T := TX8) (N := 11) hx hb hts hinX8 hown hK hP 0 rfl rfl 3 (by decide) (hts (.fieldLink RX8 29 "SilentRent" "now" "LSilentRent$Now;") (List.mem_of_getElem? (i := 2) rfl)) (fun _ h9 => h9) rfl dX8_silentHours_10 ?_
  refine va_get (D := D) (ci := 5) (v := .ref (na 3)) (C := RX5) (T := TX5) (N := 5) hx hb hts hinX5 hown hK hP 9 rfl rfl 3 (by decide) (hts (.fieldLink RX8 129 "SilentRent$Now" "pays" "[I") (List.mem_of_getElem? (i := 3) rfl)) (fun _ h9 => h9) rfl dX8_silentHours_13 ?_
  refine lv_iload_n hx hb dX8_silentHours_16 rfl (lv_at hl 1 rfl) ?_
  refine z_iald hx hb hK hP 12 0 (f := py) rfl rfl t.toNat (by omega) (by omega) (by decide) dX8_silentHours_17 ?_
  have hb2 := hNB.2.2.1 t.toNat
  refine z_isub (r := ((24 - sl t.toNat) - (py t.toNat))) hx hb rfl dX8_silentHours_18 ?_
  refine z_mmax (r := (max 0 ((24 - sl t.toNat) - (py t.toNat)))) hx hb (by rw [hml]; exact hl.1.symm) hown (hts (.methodLink RX8 170 Lib.Math.max.name) (List.mem_of_getElem? (i := 4) rfl)) (hts (.static Lib.Math.max.name) (List.mem_of_getElem? (i := 5) rfl)) (hts (.initialized "java/lang/Math") (List.mem_of_getElem? (i := 6) rfl)) (hts (.code Lib.Math.max.name Lib.Math.max.code 2 (some .int)) (List.mem_of_getElem? (i := 7) rfl)) (Nat.le_of_ble_eq_true rfl) (Nat.le_of_ble_eq_true rfl) (Nat.zero_le _) (Nat.zero_le _) ⟨by omega, by omega⟩ ⟨by omega, by omega⟩ (by omega) dX8_silentHours_19 ?_
  exact zr_iret hx hb hr hlocks hQ (by omega) dX8_silentHours_22
abbrev rm_X8_dwellers : Room := { frames := 0, cells := 0, slots := 0, locals := 0 }
set_option maxHeartbeats 4000000 in
set_option maxRecDepth 100000 in
theorem c_X8_dwellers (l : Launch) (D : va_G) (cy : Nat → ClassId) (sa : Nat → Nat) (rTx : Nat) (rDr : Nat) (rPa : Nat) (rIm : Nat) (rBk : Nat) (rHo : Nat) (rFi : Nat) (rGr : Nat) (tr : Int) (h : Nat → Nat) (ro : Nat) (te : Nat) (ch : Nat) (pr : Nat → Int) (sl : Nat → Int) (mu : Nat → Int) (wi : Nat → Int) (ak : Nat → Int) (he : Nat → Nat) (li : Nat → Nat) (na : Nat → Nat) (day : Int) (hm : Nat → Int) (tk : Nat → Int) (py : Nat → Int) (db : Nat → Int) (hte : te ≤ 6) (hHB : HB pr sl mu wi ak he li) (hNB : NB hm tk py db) : Met l yX8_dwellers wsX8_dwellers rm_X8_dwellers (pR D cy [((sa 0), .inr (8, [.ref rTx, .ref (h 0), .ref rDr, .ref (na 0), .ref rPa, .ref rIm, .ref rBk, .ref rHo, .ref rFi, .ref rGr, .long (zL tr)])), ((h 0), .inr (2, [.int (zI ((ro : Nat) : Int)), .int (zI ((te : Nat) : Int)), .int (zI ((ch : Nat) : Int)), .ref (h 1), .ref (h 2), .ref (h 3), .ref (h 4), .ref (h 5), .ref (h 6), .ref (h 7)])), ((h 1), .inl (cy 0, 6, .inl (zA pr))), ((h 2), .inl (cy 0, 6, .inl (zA sl))), ((h 3), .inl (cy 0, 6, .inl (zA mu))), ((h 4), .inl (cy 0, 6, .inl (zA wi))), ((h 5), .inl (cy 0, 6, .inl (zA ak))), ((h 6), .inl (cy 0, 6, .inl (zA (fun j => ((he j : Nat) : Int))))), ((h 7), .inl (cy 0, 5, .inl (zA (fun j => ((li j : Nat) : Int))))), ((na 0), .inr (5, [.int (zI day), .ref (na 1), .ref (na 2), .ref (na 3), .ref (na 4)])), ((na 1), .inl (cy 0, 6, .inl (zA hm))), ((na 2), .inl (cy 0, 6, .inl (zA tk))), ((na 3), .inl (cy 0, 6, .inl (zA py))), ((na 4), .inl (cy 0, 6, .inl (zA db)))] [.ref (sa 0)]) (qR ((bits (fun t => decide (¬ hm t = -9)) te : Nat) : Int)) 0 0 (fun _ => False) := by
  refine met_R (cc := cX8_dwellers) (maxL := 3) (ret := (some .int)) RX8 (by decide) rfl rfl (Nat.le_of_ble_eq_true rfl) ?_
  intro p e s m args below meth c ls Q hx hb hr hml hts hown hlocks hQ hP hK hl
  have hl : lv_has ls 3 [(0, .ref (sa 0))] := hl
  have hinX2 : ∀ w ∈ wsX20, w ∈ wsX8_dwellers := (fun w h => List.mem_cons_of_mem _ (List.mem_append_left _ (List.mem_append_right _ h)))
  have hinX5 : ∀ w ∈ wsX50, w ∈ wsX8_dwellers := (fun w h => List.mem_cons_of_mem _ (List.mem_append_right _ h))
  have hinX8 : ∀ w ∈ wsX80, w ∈ wsX8_dwellers := (fun w h => List.mem_cons_of_mem _ (List.mem_append_left _ (List.mem_append_left _ (List.mem_append_right _ h))))
  refine lv_iconst (v := zI 0) hx hb dX8_dwellers_0 rfl ?_
  refine lv_istore_n (lv' := [(1, .int (zI 0)), (0, .ref (sa 0))]) hx hb dX8_dwellers_1 rfl hl (by decide) rfl (fun ls hl => ?_)
  refine lv_iconst (v := zI 0) hx hb dX8_dwellers_2 rfl ?_
  refine lv_istore_n (lv' := [(2, .int (zI 0)), (1, .int (zI 0)), (0, .ref (sa 0))]) hx hb dX8_dwellers_3 rfl hl (by decide) rfl (fun ls hl => ?_)
  have loop4 : ∀ (n9 : Nat) (i : Nat), te - i < n9 → (i ≤ te) → ∀ (x4_1 : Int), x4_1 = ((bits (fun t => decide (¬ hm t = -9)) i : Nat) : Int) → ∀ (x4_2 : Int), x4_2 = ((i : Nat) : Int) → ∀ ls : Array Slot, lv_has ls 3 [(0, .ref (sa 0)), (1, .int (zI x4_1)), (2, .int (zI x4_2))] → W p l e rm_X8_dwellers s m args below meth c s.heap [] 0 0 Q (F0 m 4 ls []) := by
    intro n9
    induction n9 with
    | zero => intro i h9; exact absurd h9 (Nat.not_lt_zero _)
    | succ n9 ih4 =>
      intro i hmu4 hi x4_1 ex4_1 x4_2 ex4_2 ls hl
      subst ex4_1
      subst ex4_2
      have hl : lv_has ls 3 [(0, .ref (sa 0)), (1, .int (zI ((bits (fun t => decide (¬ hm t = -9)) i : Nat) : Int))), (2, .int (zI ((i : Nat) : Int)))] := hl
      have hf1 := bits_lt64 (fun t => decide (¬ hm t = -9)) i (by omega)
      refine lv_iload_n hx hb dX8_dwellers_4 rfl (lv_at hl 2 rfl) ?_
      refine lv_aload_n hx hb dX8_dwellers_5 rfl (lv_at hl 0 rfl) ?_
      refine va_get (D := D) (ci := 8) (v := .ref (h 0)) (C := RX8) (T := TX8) (N := 11) hx hb hts hinX8 hown hK hP 0 rfl rfl 1 (by decide) (hts (.fieldLink RX8 19 "SilentRent" "built" "LSilentRent$House;") (List.mem_of_getElem? (i := 1) rfl)) (fun _ h9 => h9) rfl dX8_dwellers_6 ?_
      refine va_get (D := D) (ci := 2) (v := .int (zI ((te : Nat) : Int))) (C := RX2) (T := TX2) (N := 10) hx hb hts hinX2 hown hK hP 1 rfl rfl 1 (by decide) (hts (.fieldLink RX8 161 "SilentRent$House" "tenants" "I") (List.mem_of_getElem? (i := 2) rfl)) (fun _ h9 => h9) rfl dX8_dwellers_9 ?_
      refine z_icmp_ge (tgt := 41) hx hb ⟨by omega, by omega⟩ ⟨by omega, by omega⟩ dX8_dwellers_12 (by decide) (fun c1 => ?_) (fun c1 => ?_)
      · have c1 : (te : Nat) ≤ (i : Nat) := by omega
        refine lv_iload_n hx hb dX8_dwellers_41 rfl (lv_at hl 1 rfl) ?_
        exact zr_iret hx hb hr hlocks hQ (by rw [show i = te from by omega]) dX8_dwellers_42
      · have c1 : ¬ ((te : Nat) ≤ (i : Nat)) := by omega
        refine lv_aload_n hx hb dX8_dwellers_15 rfl (lv_at hl 0 rfl) ?_
        refine va_get (D := D) (ci := 8) (v := .ref (na 0)) (C := RX8) (T := TX8) (N := 11) hx hb hts hinX8 hown hK hP 0 rfl rfl 3 (by decide) (hts (.fieldLink RX8 29 "SilentRent" "now" "LSilentRent$Now;") (List.mem_of_getElem? (i := 3) rfl)) (fun _ h9 => h9) rfl dX8_dwellers_16 ?_
        refine va_get (D := D) (ci := 5) (v := .ref (na 1)) (C := RX5) (T := TX5) (N := 5) hx hb hts hinX5 hown hK hP 9 rfl rfl 1 (by decide) (hts (.fieldLink RX8 123 "SilentRent$Now" "home" "[I") (List.mem_of_getElem? (i := 4) rfl)) (fun _ h9 => h9) rfl dX8_dwellers_19 ?_
        refine lv_iload_n hx hb dX8_dwellers_22 rfl (lv_at hl 2 rfl) ?_
        refine z_iald hx hb hK hP 10 0 (f := hm) rfl rfl i rfl (by omega) (by decide) dX8_dwellers_23 ?_
        have hb2 := hNB.1 i
        refine lv_bipush (v := zI (-9)) hx hb dX8_dwellers_24 (by decide) ?_
        have J7 : ∀ (z6 : Nat), z6 = (if (hm i) = (-9) then (bits (fun t => decide (¬ hm t = -9)) i) else ((bits (fun t => decide (¬ hm t = -9)) i) ||| (2 ^ i))) → ∀ ls : Array Slot, lv_has ls 3 [(0, .ref (sa 0)), (1, .int (zI ((z6 : Nat) : Int))), (2, .int (zI ((i : Nat) : Int)))] → W p l e rm_X8_dwellers s m args below meth c s.heap [] 0 0 Q (F0 m 35 ls []) := by
          intro z6 ez6 ls hl
          subst ez6
          refine z_iinc (r := ((i + 1 : Nat) : Int)) (lv' := [(2, .int (zI ((i + 1 : Nat) : Int))), (0, .ref (sa 0)), (1, .int (zI (((if (hm i) = (-9) then (bits (fun t => decide (¬ hm t = -9)) i) else ((bits (fun t => decide (¬ hm t = -9)) i) ||| (2 ^ i))) : Nat) : Int)))]) hx hb (by omega) dX8_dwellers_35 hl (k := 2) rfl (by decide) rfl (fun ls hl => ?_)
          refine lv_goto (tgt := 4) hx hb dX8_dwellers_38 (by decide) ?_
          exact ih4 (i + 1) (by omega) (by omega) (((if (hm i) = (-9) then (bits (fun t => decide (¬ hm t = -9)) i) else ((bits (fun t => decide (¬ hm t = -9)) i) ||| (2 ^ i))) : Nat) : Int) (by (simp only [bits, decide_eq_true_eq]) <;> (repeat' split) <;> first | rfl | omega) ((i + 1 : Nat) : Int) (by first | rfl | omega) ls (lv_sub hl [1, 2, 0] rfl)
        refine z_icmp_eq (tgt := 35) hx hb ⟨by omega, by omega⟩ ⟨by omega, by omega⟩ dX8_dwellers_26 (by decide) (fun c3 => ?_) (fun c3 => ?_)
        · exact J7 (bits (fun t => decide (¬ hm t = -9)) i) (by rw [if_pos c3]) ls (lv_sub hl [0, 1, 2] rfl)
        · refine lv_iload_n hx hb dX8_dwellers_29 rfl (lv_at hl 1 rfl) ?_
          refine lv_iconst (v := zI 1) hx hb dX8_dwellers_30 rfl ?_
          refine lv_iload_n hx hb dX8_dwellers_31 rfl (lv_at hl 2 rfl) ?_
          have hp4 := pow_le3 i (by omega)
          refine z_ishl (r := ((2 ^ i : Nat) : Int)) hx hb (zI_shl1 i (by omega)) dX8_dwellers_32 ?_
          have hq5 := or_lt64 (a := (bits (fun t => decide (¬ hm t = -9)) i)) (b := (2 ^ i)) (by omega) (by omega)
          refine z_ior (r := (((bits (fun t => decide (¬ hm t = -9)) i) ||| (2 ^ i) : Nat) : Int)) hx hb (zI_or (a := bits (fun t => decide (¬ hm t = -9)) i) (b := 2 ^ i) (by omega) (by omega)) dX8_dwellers_33 ?_
          refine lv_istore_n (lv' := [(1, .int (zI (((bits (fun t => decide (¬ hm t = -9)) i) ||| (2 ^ i) : Nat) : Int))), (0, .ref (sa 0)), (2, .int (zI ((i : Nat) : Int)))]) hx hb dX8_dwellers_34 rfl hl (by decide) rfl (fun ls hl => ?_)
          exact J7 ((bits (fun t => decide (¬ hm t = -9)) i) ||| (2 ^ i)) (by rw [if_neg c3]) ls (lv_sub hl [1, 0, 2] rfl)
  exact loop4 ((te - 0) + 1) 0 (by omega) (by omega) 0 (by first | rfl | omega | simp) 0 (by first | rfl | omega | simp) ls (lv_sub hl [2, 1, 0] rfl)
abbrev rm_X8_emptyRooms : Room := { frames := 1, cells := 0, slots := 0, locals := 22 }
set_option maxHeartbeats 4000000 in
set_option maxRecDepth 100000 in
theorem c_X8_emptyRooms (l : Launch) (D : va_G) (cy : Nat → ClassId) (sa : Nat → Nat) (rTx : Nat) (rDr : Nat) (rPa : Nat) (rIm : Nat) (rBk : Nat) (rHo : Nat) (rFi : Nat) (rGr : Nat) (tr : Int) (h : Nat → Nat) (ro : Nat) (te : Nat) (ch : Nat) (pr : Nat → Int) (sl : Nat → Int) (mu : Nat → Int) (wi : Nat → Int) (ak : Nat → Int) (he : Nat → Nat) (li : Nat → Nat) (na : Nat → Nat) (day : Int) (hm : Nat → Int) (tk : Nat → Int) (py : Nat → Int) (db : Nat → Int) (hro : ro ≤ 6) (hHB : HB pr sl mu wi ak he li) (hNB : NB hm tk py db) : Met l yX8_emptyRooms wsX8_emptyRooms rm_X8_emptyRooms (pR D cy [((sa 0), .inr (8, [.ref rTx, .ref (h 0), .ref rDr, .ref (na 0), .ref rPa, .ref rIm, .ref rBk, .ref rHo, .ref rFi, .ref rGr, .long (zL tr)])), ((h 0), .inr (2, [.int (zI ((ro : Nat) : Int)), .int (zI ((te : Nat) : Int)), .int (zI ((ch : Nat) : Int)), .ref (h 1), .ref (h 2), .ref (h 3), .ref (h 4), .ref (h 5), .ref (h 6), .ref (h 7)])), ((h 1), .inl (cy 0, 6, .inl (zA pr))), ((h 2), .inl (cy 0, 6, .inl (zA sl))), ((h 3), .inl (cy 0, 6, .inl (zA mu))), ((h 4), .inl (cy 0, 6, .inl (zA wi))), ((h 5), .inl (cy 0, 6, .inl (zA ak))), ((h 6), .inl (cy 0, 6, .inl (zA (fun j => ((he j : Nat) : Int))))), ((h 7), .inl (cy 0, 5, .inl (zA (fun j => ((li j : Nat) : Int))))), ((na 0), .inr (5, [.int (zI day), .ref (na 1), .ref (na 2), .ref (na 3), .ref (na 4)])), ((na 1), .inl (cy 0, 6, .inl (zA hm))), ((na 2), .inl (cy 0, 6, .inl (zA tk))), ((na 3), .inl (cy 0, 6, .inl (zA py))), ((na 4), .inl (cy 0, 6, .inl (zA db)))] [.ref (sa 0)]) (qR ((bits (fun r => decide (dwl hm r 6 0 = -9)) ro : Nat) : Int)) 0 0 (fun _ => False) := by
  refine met_R (cc := cX8_emptyRooms) (maxL := 3) (ret := (some .int)) RX8 (by decide) rfl rfl (Nat.le_of_ble_eq_true rfl) ?_
  intro p e s m args below meth c ls Q hx hb hr hml hts hown hlocks hQ hP hK hl
  have hl : lv_has ls 3 [(0, .ref (sa 0))] := hl
  have hinX2 : ∀ w ∈ wsX20, w ∈ wsX8_emptyRooms := (fun w h => List.mem_cons_of_mem _ (List.mem_append_left _ (List.mem_append_right _ h)))
  have hinX8 : ∀ w ∈ wsX80, w ∈ wsX8_emptyRooms := (fun w h => List.mem_cons_of_mem _ (List.mem_append_left _ (List.mem_append_left _ (List.mem_append_right _ h))))
  refine lv_iconst (v := zI 0) hx hb dX8_emptyRooms_0 rfl ?_
  refine lv_istore_n (lv' := [(1, .int (zI 0)), (0, .ref (sa 0))]) hx hb dX8_emptyRooms_1 rfl hl (by decide) rfl (fun ls hl => ?_)
  refine lv_iconst (v := zI 0) hx hb dX8_emptyRooms_2 rfl ?_
  refine lv_istore_n (lv' := [(2, .int (zI 0)), (1, .int (zI 0)), (0, .ref (sa 0))]) hx hb dX8_emptyRooms_3 rfl hl (by decide) rfl (fun ls hl => ?_)
  have loop4 : ∀ (n9 : Nat) (i : Nat), ro - i < n9 → (i ≤ ro) → ∀ (x4_1 : Int), x4_1 = ((bits (fun r => decide (dwl hm r 6 0 = -9)) i : Nat) : Int) → ∀ (x4_2 : Int), x4_2 = ((i : Nat) : Int) → ∀ ls : Array Slot, lv_has ls 3 [(0, .ref (sa 0)), (1, .int (zI x4_1)), (2, .int (zI x4_2))] → W p l e rm_X8_emptyRooms s m args below meth c s.heap [] 0 0 Q (F0 m 4 ls []) := by
    intro n9
    induction n9 with
    | zero => intro i h9; exact absurd h9 (Nat.not_lt_zero _)
    | succ n9 ih4 =>
      intro i hmu4 hi x4_1 ex4_1 x4_2 ex4_2 ls hl
      subst ex4_1
      subst ex4_2
      have hl : lv_has ls 3 [(0, .ref (sa 0)), (1, .int (zI ((bits (fun r => decide (dwl hm r 6 0 = -9)) i : Nat) : Int))), (2, .int (zI ((i : Nat) : Int)))] := hl
      have hf1 := bits_lt64 (fun r => decide (dwl hm r 6 0 = -9)) i (by omega)
      have hd9 := dwl_in hm ((i : Nat) : Int) 6 0
      refine lv_iload_n hx hb dX8_emptyRooms_4 rfl (lv_at hl 2 rfl) ?_
      refine lv_aload_n hx hb dX8_emptyRooms_5 rfl (lv_at hl 0 rfl) ?_
      refine va_get (D := D) (ci := 8) (v := .ref (h 0)) (C := RX8) (T := TX8) (N := 11) hx hb hts hinX8 hown hK hP 0 rfl rfl 1 (by decide) (hts (.fieldLink RX8 19 "SilentRent" "built" "LSilentRent$House;") (List.mem_of_getElem? (i := 1) rfl)) (fun _ h9 => h9) rfl dX8_emptyRooms_6 ?_
      refine va_get (D := D) (ci := 2) (v := .int (zI ((ro : Nat) : Int))) (C := RX2) (T := TX2) (N := 10) hx hb hts hinX2 hown hK hP 1 rfl rfl 0 (by decide) (hts (.fieldLink RX8 194 "SilentRent$House" "rooms" "I") (List.mem_of_getElem? (i := 2) rfl)) (fun _ h9 => h9) rfl dX8_emptyRooms_9 ?_
      refine z_icmp_ge (tgt := 40) hx hb ⟨by omega, by omega⟩ ⟨by omega, by omega⟩ dX8_emptyRooms_12 (by decide) (fun c1 => ?_) (fun c1 => ?_)
      · have c1 : (ro : Nat) ≤ (i : Nat) := by omega
        refine lv_iload_n hx hb dX8_emptyRooms_40 rfl (lv_at hl 1 rfl) ?_
        exact zr_iret hx hb hr hlocks hQ (by rw [show i = ro from by omega]) dX8_emptyRooms_41
      · have c1 : ¬ ((ro : Nat) ≤ (i : Nat)) := by omega
        refine lv_aload_n hx hb dX8_emptyRooms_15 rfl (lv_at hl 0 rfl) ?_
        refine va_get (D := D) (ci := 8) (v := .ref (na 0)) (C := RX8) (T := TX8) (N := 11) hx hb hts hinX8 hown hK hP 0 rfl rfl 3 (by decide) (hts (.fieldLink RX8 29 "SilentRent" "now" "LSilentRent$Now;") (List.mem_of_getElem? (i := 3) rfl)) (fun _ h9 => h9) rfl dX8_emptyRooms_16 ?_
        refine lv_iload_n hx hb dX8_emptyRooms_19 rfl (lv_at hl 2 rfl) ?_
        have hPc2 := hP.sub (ws' := [((na 0), .inr (5, [.int (zI day), .ref (na 1), .ref (na 2), .ref (na 3), .ref (na 4)])), ((na 1), .inl (cy 0, 6, .inl (zA hm))), ((na 2), .inl (cy 0, 6, .inl (zA tk))), ((na 3), .inl (cy 0, 6, .inl (zA py))), ((na 4), .inl (cy 0, 6, .inl (zA db)))]) [9, 10, 11, 12, 13] rfl
        refine zr_callV (rest := []) (As := [.int (zI ((i : Nat) : Int))]) (v := (dwl hm ((i : Nat) : Int) 6 0)) ⟨hx, hb, hml, hown, hts⟩ (c_X5_dweller l D cy na day hm tk py db ((i : Nat) : Int) (by omega) hNB) (cwV 1 hts gX8_emptyRooms_X5_dweller rfl rfl rfl (by decide +kernel) ⟨Nat.le_of_ble_eq_true rfl, Nat.le_of_ble_eq_true rfl⟩) hK hPc2 0 5 rfl rfl rfl hl.1 rfl (Nat.le_of_ble_eq_true rfl) dX8_emptyRooms_20 ⟨Nat.zero_le _, Nat.zero_le _⟩ ?_
        refine lv_bipush (v := zI (-9)) hx hb dX8_emptyRooms_23 (by decide) ?_
        have J7 : ∀ (z6 : Nat), z6 = (if (dwl hm ((i : Nat) : Int) 6 0) = (-9) then ((bits (fun r => decide (dwl hm r 6 0 = -9)) i) ||| (2 ^ i)) else (bits (fun r => decide (dwl hm r 6 0 = -9)) i)) → ∀ ls : Array Slot, lv_has ls 3 [(0, .ref (sa 0)), (1, .int (zI ((z6 : Nat) : Int))), (2, .int (zI ((i : Nat) : Int)))] → W p l e rm_X8_emptyRooms s m args below meth c s.heap [] 0 0 Q (F0 m 34 ls []) := by
          intro z6 ez6 ls hl
          subst ez6
          refine z_iinc (r := ((i + 1 : Nat) : Int)) (lv' := [(2, .int (zI ((i + 1 : Nat) : Int))), (0, .ref (sa 0)), (1, .int (zI (((if (dwl hm ((i : Nat) : Int) 6 0) = (-9) then ((bits (fun r => decide (dwl hm r 6 0 = -9)) i) ||| (2 ^ i)) else (bits (fun r => decide (dwl hm r 6 0 = -9)) i)) : Nat) : Int)))]) hx hb (by omega) dX8_emptyRooms_34 hl (k := 2) rfl (by decide) rfl (fun ls hl => ?_)
          refine lv_goto (tgt := 4) hx hb dX8_emptyRooms_37 (by decide) ?_
          exact ih4 (i + 1) (by omega) (by omega) (((if (dwl hm ((i : Nat) : Int) 6 0) = (-9) then ((bits (fun r => decide (dwl hm r 6 0 = -9)) i) ||| (2 ^ i)) else (bits (fun r => decide (dwl hm r 6 0 = -9)) i)) : Nat) : Int) (by (simp only [bits, decide_eq_true_eq]) <;> (repeat' split) <;> first | rfl | omega) ((i + 1 : Nat) : Int) (by first | rfl | omega) ls (lv_sub hl [1, 2, 0] rfl)
        refine z_icmp_ne (tgt := 34) hx hb ⟨by omega, by omega⟩ ⟨by omega, by omega⟩ dX8_emptyRooms_25 (by decide) (fun c3 => ?_) (fun c3 => ?_)
        · exact J7 (bits (fun r => decide (dwl hm r 6 0 = -9)) i) (by rw [if_neg c3]) ls (lv_sub hl [0, 1, 2] rfl)
        · refine lv_iload_n hx hb dX8_emptyRooms_28 rfl (lv_at hl 1 rfl) ?_
          refine lv_iconst (v := zI 1) hx hb dX8_emptyRooms_29 rfl ?_
          refine lv_iload_n hx hb dX8_emptyRooms_30 rfl (lv_at hl 2 rfl) ?_
          have hp4 := pow_le3 i (by omega)
          refine z_ishl (r := ((2 ^ i : Nat) : Int)) hx hb (zI_shl1 i (by omega)) dX8_emptyRooms_31 ?_
          have hq5 := or_lt64 (a := (bits (fun r => decide (dwl hm r 6 0 = -9)) i)) (b := (2 ^ i)) (by omega) (by omega)
          refine z_ior (r := (((bits (fun r => decide (dwl hm r 6 0 = -9)) i) ||| (2 ^ i) : Nat) : Int)) hx hb (zI_or (a := bits (fun r => decide (dwl hm r 6 0 = -9)) i) (b := 2 ^ i) (by omega) (by omega)) dX8_emptyRooms_32 ?_
          refine lv_istore_n (lv' := [(1, .int (zI (((bits (fun r => decide (dwl hm r 6 0 = -9)) i) ||| (2 ^ i) : Nat) : Int))), (0, .ref (sa 0)), (2, .int (zI ((i : Nat) : Int)))]) hx hb dX8_emptyRooms_33 rfl hl (by decide) rfl (fun ls hl => ?_)
          exact J7 ((bits (fun r => decide (dwl hm r 6 0 = -9)) i) ||| (2 ^ i)) (by rw [if_pos c3]) ls (lv_sub hl [1, 0, 2] rfl)
  exact loop4 ((ro - 0) + 1) 0 (by omega) (by omega) 0 (by first | rfl | omega | simp) 0 (by first | rfl | omega | simp) ls (lv_sub hl [2, 1, 0] rfl)
abbrev rm_X8_spareHours : Room := { frames := 2, cells := 0, slots := 0, locals := 42 }
set_option maxHeartbeats 4000000 in
set_option maxRecDepth 100000 in
theorem c_X8_spareHours (l : Launch) (D : va_G) (cy : Nat → ClassId) (sa : Nat → Nat) (rTx : Nat) (rDr : Nat) (rPa : Nat) (rIm : Nat) (rBk : Nat) (rHo : Nat) (rFi : Nat) (rGr : Nat) (tr : Int) (h : Nat → Nat) (ro : Nat) (te : Nat) (ch : Nat) (pr : Nat → Int) (sl : Nat → Int) (mu : Nat → Int) (wi : Nat → Int) (ak : Nat → Int) (he : Nat → Nat) (li : Nat → Nat) (na : Nat → Nat) (day : Int) (hm : Nat → Int) (tk : Nat → Int) (py : Nat → Int) (db : Nat → Int) (t : Int) (ht0 : 0 ≤ t ∧ t < 6) (hro : ro ≤ 6) (hHB : HB pr sl mu wi ak he li) (hNB : NB hm tk py db) : Met l yX8_spareHours wsX8_spareHours rm_X8_spareHours (pR D cy [((sa 0), .inr (8, [.ref rTx, .ref (h 0), .ref rDr, .ref (na 0), .ref rPa, .ref rIm, .ref rBk, .ref rHo, .ref rFi, .ref rGr, .long (zL tr)])), ((h 0), .inr (2, [.int (zI ((ro : Nat) : Int)), .int (zI ((te : Nat) : Int)), .int (zI ((ch : Nat) : Int)), .ref (h 1), .ref (h 2), .ref (h 3), .ref (h 4), .ref (h 5), .ref (h 6), .ref (h 7)])), ((h 1), .inl (cy 0, 6, .inl (zA pr))), ((h 2), .inl (cy 0, 6, .inl (zA sl))), ((h 3), .inl (cy 0, 6, .inl (zA mu))), ((h 4), .inl (cy 0, 6, .inl (zA wi))), ((h 5), .inl (cy 0, 6, .inl (zA ak))), ((h 6), .inl (cy 0, 6, .inl (zA (fun j => ((he j : Nat) : Int))))), ((h 7), .inl (cy 0, 5, .inl (zA (fun j => ((li j : Nat) : Int))))), ((na 0), .inr (5, [.int (zI day), .ref (na 1), .ref (na 2), .ref (na 3), .ref (na 4)])), ((na 1), .inl (cy 0, 6, .inl (zA hm))), ((na 2), .inl (cy 0, 6, .inl (zA tk))), ((na 3), .inl (cy 0, 6, .inl (zA py))), ((na 4), .inl (cy 0, 6, .inl (zA db)))] [.ref (sa 0), .int (zI t)]) (qR (spr hm pr sl mu ro t.toNat)) 0 0 (fun _ => False) := by
  refine met_R (cc := cX8_spareHours) (maxL := 3) (ret := (some .int)) RX8 (by decide) rfl rfl (Nat.le_of_ble_eq_true rfl) ?_
  intro p e s m args below meth c ls Q hx hb hr hml hts hown hlocks hQ hP hK hl
  have hl : lv_has ls 3 [(0, .ref (sa 0)), (1, .int (zI t))] := hl
  have hinX2 : ∀ w ∈ wsX20, w ∈ wsX8_spareHours := (fun w h => List.mem_cons_of_mem _ (List.mem_append_right _ h))
  have hinX5 : ∀ w ∈ wsX50, w ∈ wsX8_spareHours := (fun w h => List.mem_cons_of_mem _ (List.mem_append_left _ (List.mem_append_right _ h)))
  have hinX8 : ∀ w ∈ wsX80, w ∈ wsX8_spareHours := (fun w h => List.mem_cons_of_mem _ (List.mem_append_left _ (List.mem_append_left _ (List.mem_append_right _ h))))
  have hs9 := hHB.2.1 t.toNat
  have hm9 := hHB.2.2.1 t.toNat
  have hn9 := hNB.1 t.toNat
  refine lv_aload_n hx hb dX8_spareHours_0 rfl (lv_at hl 0 rfl) ?_
  refine va_get (D := D) (ci := 8) (v := .ref (na 0)) (C := RX8) (T := TX8) (N := 11) hx hb hts hinX8 hown hK hP 0 rfl rfl 3 (by decide) (hts (.fieldLink RX8 29 "SilentRent" "now" "LSilentRent$Now;") (List.mem_of_getElem? (i := 1) rfl)) (fun _ h9 => h9) rfl dX8_spareHours_1 ?_
  refine va_get (D := D) (ci := 5) (v := .ref (na 1)) (C := RX5) (T := TX5) (N := 5) hx hb hts hinX5 hown hK hP 9 rfl rfl 1 (by decide) (hts (.fieldLink RX8 123 "SilentRent$Now" "home" "[I") (List.mem_of_getElem? (i := 2) rfl)) (fun _ h9 => h9) rfl dX8_spareHours_4 ?_
  refine lv_iload_n hx hb dX8_spareHours_7 rfl (lv_at hl 1 rfl) ?_
  refine z_iald hx hb hK hP 10 0 (f := hm) rfl rfl t.toNat (by omega) (by omega) (by decide) dX8_spareHours_8 ?_
  have hb1 := hNB.1 t.toNat
  refine lv_istore_n (lv' := [(2, .int (zI (hm t.toNat))), (0, .ref (sa 0)), (1, .int (zI t))]) hx hb dX8_spareHours_9 rfl hl (by decide) rfl (fun ls hl => ?_)
  refine lv_aload_n hx hb dX8_spareHours_10 rfl (lv_at hl 1 rfl) ?_
  refine va_get (D := D) (ci := 8) (v := .ref (h 0)) (C := RX8) (T := TX8) (N := 11) hx hb hts hinX8 hown hK hP 0 rfl rfl 1 (by decide) (hts (.fieldLink RX8 19 "SilentRent" "built" "LSilentRent$House;") (List.mem_of_getElem? (i := 3) rfl)) (fun _ h9 => h9) rfl dX8_spareHours_11 ?_
  refine lv_iload_n hx hb dX8_spareHours_14 rfl (lv_at hl 0 rfl) ?_
  have hPc2 := hP.sub (ws' := [((h 0), .inr (2, [.int (zI ((ro : Nat) : Int)), .int (zI ((te : Nat) : Int)), .int (zI ((ch : Nat) : Int)), .ref (h 1), .ref (h 2), .ref (h 3), .ref (h 4), .ref (h 5), .ref (h 6), .ref (h 7)])), ((h 1), .inl (cy 0, 6, .inl (zA pr))), ((h 2), .inl (cy 0, 6, .inl (zA sl))), ((h 3), .inl (cy 0, 6, .inl (zA mu))), ((h 4), .inl (cy 0, 6, .inl (zA wi))), ((h 5), .inl (cy 0, 6, .inl (zA ak))), ((h 6), .inl (cy 0, 6, .inl (zA (fun j => ((he j : Nat) : Int))))), ((h 7), .inl (cy 0, 5, .inl (zA (fun j => ((li j : Nat) : Int)))))]) [1, 2, 3, 4, 5, 6, 7, 8] rfl
  refine zr_callV (rest := []) (As := [.int (zI (hm t.toNat))]) (v := (if 0 ≤ (hm t.toNat) ∧ (hm t.toNat) < ((ro : Nat) : Int) then 1 else 0)) ⟨hx, hb, hml, hown, hts⟩ (c_X2_hasRoom l D cy h ro te ch pr sl mu wi ak he li (hm t.toNat) (by omega) (by omega)) (cwV 1 hts gX8_spareHours_X2_hasRoom rfl rfl rfl (by decide +kernel) ⟨Nat.le_of_ble_eq_true rfl, Nat.le_of_ble_eq_true rfl⟩) hK hPc2 0 2 rfl rfl rfl hl.1 rfl (Nat.le_of_ble_eq_true rfl) dX8_spareHours_15 ⟨Nat.zero_le _, Nat.zero_le _⟩ ?_
  refine z_if_eq (tgt := 42) hx hb bo_r dX8_spareHours_18 (by decide) (fun c3 => ?_) (fun c3 => ?_)
  · have c3 := bo_f c3
    refine lv_iconst (v := zI 0) hx hb dX8_spareHours_42 rfl ?_
    exact zr_iret hx hb hr hlocks hQ (by first | (unfold spr; rw [if_pos (by assumption)]; done) | (unfold spr; rw [if_neg (by assumption)]; done) | (unfold spr; split <;> omega)) dX8_spareHours_43
  · have c3 := bo_t c3
    refine lv_aload_n hx hb dX8_spareHours_21 rfl (lv_at hl 1 rfl) ?_
    refine va_get (D := D) (ci := 8) (v := .ref (h 0)) (C := RX8) (T := TX8) (N := 11) hx hb hts hinX8 hown hK hP 0 rfl rfl 1 (by decide) (hts (.fieldLink RX8 19 "SilentRent" "built" "LSilentRent$House;") (List.mem_of_getElem? (i := 3) rfl)) (fun _ h9 => h9) rfl dX8_spareHours_22 ?_
    refine lv_iload_n hx hb dX8_spareHours_25 rfl (lv_at hl 2 rfl) ?_
    have hPc4 := hP.sub (ws' := [((h 0), .inr (2, [.int (zI ((ro : Nat) : Int)), .int (zI ((te : Nat) : Int)), .int (zI ((ch : Nat) : Int)), .ref (h 1), .ref (h 2), .ref (h 3), .ref (h 4), .ref (h 5), .ref (h 6), .ref (h 7)])), ((h 1), .inl (cy 0, 6, .inl (zA pr))), ((h 2), .inl (cy 0, 6, .inl (zA sl))), ((h 3), .inl (cy 0, 6, .inl (zA mu))), ((h 4), .inl (cy 0, 6, .inl (zA wi))), ((h 5), .inl (cy 0, 6, .inl (zA ak))), ((h 6), .inl (cy 0, 6, .inl (zA (fun j => ((he j : Nat) : Int))))), ((h 7), .inl (cy 0, 5, .inl (zA (fun j => ((li j : Nat) : Int)))))]) [1, 2, 3, 4, 5, 6, 7, 8] rfl
    refine zr_callV (rest := []) (As := [.int (zI t)]) (v := (24 - sl t.toNat - mu t.toNat)) ⟨hx, hb, hml, hown, hts⟩ (c_X2_keepsSilent l D cy h ro te ch pr sl mu wi ak he li t (by omega) hHB) (cwV 1 hts gX8_spareHours_X2_keepsSilent rfl rfl rfl (by decide +kernel) ⟨Nat.le_of_ble_eq_true rfl, Nat.le_of_ble_eq_true rfl⟩) hK hPc4 0 2 rfl rfl rfl hl.1 rfl (Nat.le_of_ble_eq_true rfl) dX8_spareHours_26 ⟨Nat.zero_le _, Nat.zero_le _⟩ ?_
    refine lv_aload_n hx hb dX8_spareHours_29 rfl (lv_at hl 1 rfl) ?_
    refine va_get (D := D) (ci := 8) (v := .ref (h 0)) (C := RX8) (T := TX8) (N := 11) hx hb hts hinX8 hown hK hP 0 rfl rfl 1 (by decide) (hts (.fieldLink RX8 19 "SilentRent" "built" "LSilentRent$House;") (List.mem_of_getElem? (i := 3) rfl)) (fun _ h9 => h9) rfl dX8_spareHours_30 ?_
    refine va_get (D := D) (ci := 2) (v := .ref (h 1)) (C := RX2) (T := TX2) (N := 10) hx hb hts hinX2 hown hK hP 1 rfl rfl 3 (by decide) (hts (.fieldLink RX8 98 "SilentRent$House" "price" "[I") (List.mem_of_getElem? (i := 4) rfl)) (fun _ h9 => h9) rfl dX8_spareHours_33 ?_
    refine lv_iload_n hx hb dX8_spareHours_36 rfl (lv_at hl 0 rfl) ?_
    refine z_iald hx hb hK hP 2 0 (f := pr) rfl rfl ((hm t.toNat).toNat) (by omega) (by omega) (by decide) dX8_spareHours_37 ?_
    have hb5 := hHB.1 ((hm t.toNat).toNat)
    refine z_isub (r := ((24 - sl t.toNat - mu t.toNat) - (pr (hm t.toNat).toNat))) hx hb rfl dX8_spareHours_38 ?_
    refine lv_goto (tgt := 43) hx hb dX8_spareHours_39 (by decide) ?_
    exact zr_iret hx hb hr hlocks hQ (by first | (unfold spr; rw [if_pos (by assumption)]; done) | (unfold spr; rw [if_neg (by assumption)]; done) | (unfold spr; split <;> omega)) dX8_spareHours_43
abbrev rm_X8_lackingDwellers : Room := { frames := 3, cells := 0, slots := 0, locals := 64 }
set_option maxHeartbeats 4000000 in
set_option maxRecDepth 100000 in
theorem c_X8_lackingDwellers (l : Launch) (D : va_G) (cy : Nat → ClassId) (sa : Nat → Nat) (rTx : Nat) (rDr : Nat) (rPa : Nat) (rIm : Nat) (rBk : Nat) (rHo : Nat) (rFi : Nat) (rGr : Nat) (tr : Int) (h : Nat → Nat) (ro : Nat) (te : Nat) (ch : Nat) (pr : Nat → Int) (sl : Nat → Int) (mu : Nat → Int) (wi : Nat → Int) (ak : Nat → Int) (he : Nat → Nat) (li : Nat → Nat) (na : Nat → Nat) (day : Int) (hm : Nat → Int) (tk : Nat → Int) (py : Nat → Int) (db : Nat → Int) (hro : ro ≤ 6) (hte : te ≤ 6) (hHB : HB pr sl mu wi ak he li) (hNB : NB hm tk py db) : Met l yX8_lackingDwellers wsX8_lackingDwellers rm_X8_lackingDwellers (pR D cy [((sa 0), .inr (8, [.ref rTx, .ref (h 0), .ref rDr, .ref (na 0), .ref rPa, .ref rIm, .ref rBk, .ref rHo, .ref rFi, .ref rGr, .long (zL tr)])), ((h 0), .inr (2, [.int (zI ((ro : Nat) : Int)), .int (zI ((te : Nat) : Int)), .int (zI ((ch : Nat) : Int)), .ref (h 1), .ref (h 2), .ref (h 3), .ref (h 4), .ref (h 5), .ref (h 6), .ref (h 7)])), ((h 1), .inl (cy 0, 6, .inl (zA pr))), ((h 2), .inl (cy 0, 6, .inl (zA sl))), ((h 3), .inl (cy 0, 6, .inl (zA mu))), ((h 4), .inl (cy 0, 6, .inl (zA wi))), ((h 5), .inl (cy 0, 6, .inl (zA ak))), ((h 6), .inl (cy 0, 6, .inl (zA (fun j => ((he j : Nat) : Int))))), ((h 7), .inl (cy 0, 5, .inl (zA (fun j => ((li j : Nat) : Int))))), ((na 0), .inr (5, [.int (zI day), .ref (na 1), .ref (na 2), .ref (na 3), .ref (na 4)])), ((na 1), .inl (cy 0, 6, .inl (zA hm))), ((na 2), .inl (cy 0, 6, .inl (zA tk))), ((na 3), .inl (cy 0, 6, .inl (zA py))), ((na 4), .inl (cy 0, 6, .inl (zA db)))] [.ref (sa 0)]) (qR ((bits (fun t => decide (spr hm pr sl mu ro t < 0)) te : Nat) : Int)) 0 0 (fun _ => False) := by
  refine met_R (cc := cX8_lackingDwellers) (maxL := 3) (ret := (some .int)) RX8 (by decide) rfl rfl (Nat.le_of_ble_eq_true rfl) ?_
  intro p e s m args below meth c ls Q hx hb hr hml hts hown hlocks hQ hP hK hl
  have hl : lv_has ls 3 [(0, .ref (sa 0))] := hl
  have hinX2 : ∀ w ∈ wsX20, w ∈ wsX8_lackingDwellers := (fun w h => List.mem_cons_of_mem _ (List.mem_append_left _ (List.mem_append_right _ h)))
  have hinX8 : ∀ w ∈ wsX80, w ∈ wsX8_lackingDwellers := (fun w h => List.mem_cons_of_mem _ (List.mem_append_left _ (List.mem_append_left _ (List.mem_append_right _ h))))
  refine lv_iconst (v := zI 0) hx hb dX8_lackingDwellers_0 rfl ?_
  refine lv_istore_n (lv' := [(1, .int (zI 0)), (0, .ref (sa 0))]) hx hb dX8_lackingDwellers_1 rfl hl (by decide) rfl (fun ls hl => ?_)
  refine lv_iconst (v := zI 0) hx hb dX8_lackingDwellers_2 rfl ?_
  refine lv_istore_n (lv' := [(2, .int (zI 0)), (1, .int (zI 0)), (0, .ref (sa 0))]) hx hb dX8_lackingDwellers_3 rfl hl (by decide) rfl (fun ls hl => ?_)
  have loop4 : ∀ (n9 : Nat) (i : Nat), te - i < n9 → (i ≤ te) → ∀ (x4_1 : Int), x4_1 = ((bits (fun t => decide (spr hm pr sl mu ro t < 0)) i : Nat) : Int) → ∀ (x4_2 : Int), x4_2 = ((i : Nat) : Int) → ∀ ls : Array Slot, lv_has ls 3 [(0, .ref (sa 0)), (1, .int (zI x4_1)), (2, .int (zI x4_2))] → W p l e rm_X8_lackingDwellers s m args below meth c s.heap [] 0 0 Q (F0 m 4 ls []) := by
    intro n9
    induction n9 with
    | zero => intro i h9; exact absurd h9 (Nat.not_lt_zero _)
    | succ n9 ih4 =>
      intro i hmu4 hi x4_1 ex4_1 x4_2 ex4_2 ls hl
      subst ex4_1
      subst ex4_2
      have hl : lv_has ls 3 [(0, .ref (sa 0)), (1, .int (zI ((bits (fun t => decide (spr hm pr sl mu ro t < 0)) i : Nat) : Int))), (2, .int (zI ((i : Nat) : Int)))] := hl
      have hf1 := bits_lt64 (fun t => decide (spr hm pr sl mu ro t < 0)) i (by omega)
      have hz9 := spr_in hHB (hm := hm) ro i
      refine lv_iload_n hx hb dX8_lackingDwellers_4 rfl (lv_at hl 2 rfl) ?_
      refine lv_aload_n hx hb dX8_lackingDwellers_5 rfl (lv_at hl 0 rfl) ?_
      refine va_get (D := D) (ci := 8) (v := .ref (h 0)) (C := RX8) (T := TX8) (N := 11) hx hb hts hinX8 hown hK hP 0 rfl rfl 1 (by decide) (hts (.fieldLink RX8 19 "SilentRent" "built" "LSilentRent$House;") (List.mem_of_getElem? (i := 1) rfl)) (fun _ h9 => h9) rfl dX8_lackingDwellers_6 ?_
      refine va_get (D := D) (ci := 2) (v := .int (zI ((te : Nat) : Int))) (C := RX2) (T := TX2) (N := 10) hx hb hts hinX2 hown hK hP 1 rfl rfl 1 (by decide) (hts (.fieldLink RX8 161 "SilentRent$House" "tenants" "I") (List.mem_of_getElem? (i := 2) rfl)) (fun _ h9 => h9) rfl dX8_lackingDwellers_9 ?_
      refine z_icmp_ge (tgt := 35) hx hb ⟨by omega, by omega⟩ ⟨by omega, by omega⟩ dX8_lackingDwellers_12 (by decide) (fun c1 => ?_) (fun c1 => ?_)
      · have c1 : (te : Nat) ≤ (i : Nat) := by omega
        refine lv_iload_n hx hb dX8_lackingDwellers_35 rfl (lv_at hl 1 rfl) ?_
        exact zr_iret hx hb hr hlocks hQ (by rw [show i = te from by omega]) dX8_lackingDwellers_36
      · have c1 : ¬ ((te : Nat) ≤ (i : Nat)) := by omega
        refine lv_aload_n hx hb dX8_lackingDwellers_15 rfl (lv_at hl 0 rfl) ?_
        refine lv_iload_n hx hb dX8_lackingDwellers_16 rfl (lv_at hl 2 rfl) ?_
        refine zr_callV (rest := []) (As := [.int (zI ((i : Nat) : Int))]) (v := (spr hm pr sl mu ro i)) ⟨hx, hb, hml, hown, hts⟩ (c_X8_spareHours l D cy sa rTx rDr rPa rIm rBk rHo rFi rGr tr h ro te ch pr sl mu wi ak he li na day hm tk py db ((i : Nat) : Int) (by omega) (by omega) hHB hNB) (cwV 1 hts gX8_lackingDwellers_X8_spareHours rfl rfl rfl (by decide +kernel) ⟨Nat.le_of_ble_eq_true rfl, Nat.le_of_ble_eq_true rfl⟩) hK hP 0 8 rfl rfl rfl hl.1 rfl (Nat.le_of_ble_eq_true rfl) dX8_lackingDwellers_17 ⟨Nat.zero_le _, Nat.zero_le _⟩ ?_
        have J6 : ∀ (z5 : Nat), z5 = (if 0 ≤ (spr hm pr sl mu ro i) then (bits (fun t => decide (spr hm pr sl mu ro t < 0)) i) else ((bits (fun t => decide (spr hm pr sl mu ro t < 0)) i) ||| (2 ^ i))) → ∀ ls : Array Slot, lv_has ls 3 [(0, .ref (sa 0)), (1, .int (zI ((z5 : Nat) : Int))), (2, .int (zI ((i : Nat) : Int)))] → W p l e rm_X8_lackingDwellers s m args below meth c s.heap [] 0 0 Q (F0 m 29 ls []) := by
          intro z5 ez5 ls hl
          subst ez5
          refine z_iinc (r := ((i + 1 : Nat) : Int)) (lv' := [(2, .int (zI ((i + 1 : Nat) : Int))), (0, .ref (sa 0)), (1, .int (zI (((if 0 ≤ (spr hm pr sl mu ro i) then (bits (fun t => decide (spr hm pr sl mu ro t < 0)) i) else ((bits (fun t => decide (spr hm pr sl mu ro t < 0)) i) ||| (2 ^ i))) : Nat) : Int)))]) hx hb (by omega) dX8_lackingDwellers_29 hl (k := 2) rfl (by decide) rfl (fun ls hl => ?_)
          refine lv_goto (tgt := 4) hx hb dX8_lackingDwellers_32 (by decide) ?_
          exact ih4 (i + 1) (by omega) (by omega) (((if 0 ≤ (spr hm pr sl mu ro i) then (bits (fun t => decide (spr hm pr sl mu ro t < 0)) i) else ((bits (fun t => decide (spr hm pr sl mu ro t < 0)) i) ||| (2 ^ i))) : Nat) : Int) (by (simp only [bits, decide_eq_true_eq]) <;> (repeat' split) <;> first | rfl | omega) ((i + 1 : Nat) : Int) (by first | rfl | omega) ls (lv_sub hl [1, 2, 0] rfl)
        refine z_if_ge (tgt := 29) hx hb ⟨by omega, by omega⟩ dX8_lackingDwellers_20 (by decide) (fun c2 => ?_) (fun c2 => ?_)
        · exact J6 (bits (fun t => decide (spr hm pr sl mu ro t < 0)) i) (by rw [if_pos c2]) ls (lv_sub hl [0, 1, 2] rfl)
        · refine lv_iload_n hx hb dX8_lackingDwellers_23 rfl (lv_at hl 1 rfl) ?_
          refine lv_iconst (v := zI 1) hx hb dX8_lackingDwellers_24 rfl ?_
          refine lv_iload_n hx hb dX8_lackingDwellers_25 rfl (lv_at hl 2 rfl) ?_
          have hp3 := pow_le3 i (by omega)
          refine z_ishl (r := ((2 ^ i : Nat) : Int)) hx hb (zI_shl1 i (by omega)) dX8_lackingDwellers_26 ?_
          have hq4 := or_lt64 (a := (bits (fun t => decide (spr hm pr sl mu ro t < 0)) i)) (b := (2 ^ i)) (by omega) (by omega)
          refine z_ior (r := (((bits (fun t => decide (spr hm pr sl mu ro t < 0)) i) ||| (2 ^ i) : Nat) : Int)) hx hb (zI_or (a := bits (fun t => decide (spr hm pr sl mu ro t < 0)) i) (b := 2 ^ i) (by omega) (by omega)) dX8_lackingDwellers_27 ?_
          refine lv_istore_n (lv' := [(1, .int (zI (((bits (fun t => decide (spr hm pr sl mu ro t < 0)) i) ||| (2 ^ i) : Nat) : Int))), (0, .ref (sa 0)), (2, .int (zI ((i : Nat) : Int)))]) hx hb dX8_lackingDwellers_28 rfl hl (by decide) rfl (fun ls hl => ?_)
          exact J6 ((bits (fun t => decide (spr hm pr sl mu ro t < 0)) i) ||| (2 ^ i)) (by rw [if_neg c2]) ls (lv_sub hl [1, 0, 2] rfl)
  exact loop4 ((te - 0) + 1) 0 (by omega) (by omega) 0 (by first | rfl | omega | simp) 0 (by first | rfl | omega | simp) ls (lv_sub hl [2, 1, 0] rfl)
abbrev rm_X8_hoursForSale : Room := { frames := 3, cells := 0, slots := 0, locals := 64 }
set_option maxHeartbeats 4000000 in
set_option maxRecDepth 100000 in
theorem c_X8_hoursForSale (l : Launch) (D : va_G) (cy : Nat → ClassId) (sa : Nat → Nat) (rTx : Nat) (rDr : Nat) (rPa : Nat) (rIm : Nat) (rBk : Nat) (rHo : Nat) (rFi : Nat) (rGr : Nat) (tr : Int) (h : Nat → Nat) (ro : Nat) (te : Nat) (ch : Nat) (pr : Nat → Int) (sl : Nat → Int) (mu : Nat → Int) (wi : Nat → Int) (ak : Nat → Int) (he : Nat → Nat) (li : Nat → Nat) (na : Nat → Nat) (day : Int) (hm : Nat → Int) (tk : Nat → Int) (py : Nat → Int) (db : Nat → Int) (q : Int) (hq0 : 0 ≤ q ∧ q ≤ 10) (hro : ro ≤ 6) (hte : te ≤ 6) (hHB : HB pr sl mu wi ak he li) (hNB : NB hm tk py db) : Met l yX8_hoursForSale wsX8_hoursForSale rm_X8_hoursForSale (pR D cy [((sa 0), .inr (8, [.ref rTx, .ref (h 0), .ref rDr, .ref (na 0), .ref rPa, .ref rIm, .ref rBk, .ref rHo, .ref rFi, .ref rGr, .long (zL tr)])), ((h 0), .inr (2, [.int (zI ((ro : Nat) : Int)), .int (zI ((te : Nat) : Int)), .int (zI ((ch : Nat) : Int)), .ref (h 1), .ref (h 2), .ref (h 3), .ref (h 4), .ref (h 5), .ref (h 6), .ref (h 7)])), ((h 1), .inl (cy 0, 6, .inl (zA pr))), ((h 2), .inl (cy 0, 6, .inl (zA sl))), ((h 3), .inl (cy 0, 6, .inl (zA mu))), ((h 4), .inl (cy 0, 6, .inl (zA wi))), ((h 5), .inl (cy 0, 6, .inl (zA ak))), ((h 6), .inl (cy 0, 6, .inl (zA (fun j => ((he j : Nat) : Int))))), ((h 7), .inl (cy 0, 5, .inl (zA (fun j => ((li j : Nat) : Int))))), ((na 0), .inr (5, [.int (zI day), .ref (na 1), .ref (na 2), .ref (na 3), .ref (na 4)])), ((na 1), .inl (cy 0, 6, .inl (zA hm))), ((na 2), .inl (cy 0, 6, .inl (zA tk))), ((na 3), .inl (cy 0, 6, .inl (zA py))), ((na 4), .inl (cy 0, 6, .inl (zA db)))] [.ref (sa 0), .int (zI q)]) (qR (hfs hm pr sl mu ak ro te q)) 0 0 (fun _ => False) := by
  refine met_R (cc := cX8_hoursForSale) (maxL := 4) (ret := (some .int)) RX8 (by decide) rfl rfl (Nat.le_of_ble_eq_true rfl) ?_
  intro p e s m args below meth c ls Q hx hb hr hml hts hown hlocks hQ hP hK hl
  have hl : lv_has ls 4 [(0, .ref (sa 0)), (1, .int (zI q))] := hl
  have hinX2 : ∀ w ∈ wsX20, w ∈ wsX8_hoursForSale := (fun w h => List.mem_cons_of_mem _ (List.mem_append_left _ (List.mem_append_right _ h)))
  have hinX8 : ∀ w ∈ wsX80, w ∈ wsX8_hoursForSale := (fun w h => List.mem_cons_of_mem _ (List.mem_append_left _ (List.mem_append_left _ (List.mem_append_right _ h))))
  refine lv_iconst (v := zI 0) hx hb dX8_hoursForSale_0 rfl ?_
  refine lv_istore_n (lv' := [(2, .int (zI 0)), (0, .ref (sa 0)), (1, .int (zI q))]) hx hb dX8_hoursForSale_1 rfl hl (by decide) rfl (fun ls hl => ?_)
  refine lv_iconst (v := zI 0) hx hb dX8_hoursForSale_2 rfl ?_
  refine lv_istore_n (lv' := [(3, .int (zI 0)), (2, .int (zI 0)), (0, .ref (sa 0)), (1, .int (zI q))]) hx hb dX8_hoursForSale_3 rfl hl (by decide) rfl (fun ls hl => ?_)
  have loop4 : ∀ (n9 : Nat) (i : Nat), te - i < n9 → (i ≤ te) → ∀ (x4_2 : Int), x4_2 = (sumI (fun t => if ak t ≤ q then max 0 (spr hm pr sl mu ro t) else 0) i) → ∀ (x4_3 : Int), x4_3 = ((i : Nat) : Int) → ∀ ls : Array Slot, lv_has ls 4 [(0, .ref (sa 0)), (1, .int (zI q)), (2, .int (zI x4_2)), (3, .int (zI x4_3))] → W p l e rm_X8_hoursForSale s m args below meth c s.heap [] 0 0 Q (F0 m 4 ls []) := by
    intro n9
    induction n9 with
    | zero => intro i h9; exact absurd h9 (Nat.not_lt_zero _)
    | succ n9 ih4 =>
      intro i hmu4 hi x4_2 ex4_2 x4_3 ex4_3 ls hl
      subst ex4_2
      subst ex4_3
      have hl : lv_has ls 4 [(0, .ref (sa 0)), (1, .int (zI q)), (2, .int (zI (sumI (fun t => if ak t ≤ q then max 0 (spr hm pr sl mu ro t) else 0) i))), (3, .int (zI ((i : Nat) : Int)))] := hl
      have hz9 := spr_in hHB (hm := hm) ro i
      refine lv_iload_n hx hb dX8_hoursForSale_4 rfl (lv_at hl 3 rfl) ?_
      refine lv_aload_n hx hb dX8_hoursForSale_5 rfl (lv_at hl 0 rfl) ?_
      refine va_get (D := D) (ci := 8) (v := .ref (h 0)) (C := RX8) (T := TX8) (N := 11) hx hb hts hinX8 hown hK hP 0 rfl rfl 1 (by decide) (hts (.fieldLink RX8 19 "SilentRent" "built" "LSilentRent$House;") (List.mem_of_getElem? (i := 1) rfl)) (fun _ h9 => h9) rfl dX8_hoursForSale_6 ?_
      refine va_get (D := D) (ci := 2) (v := .int (zI ((te : Nat) : Int))) (C := RX2) (T := TX2) (N := 10) hx hb hts hinX2 hown hK hP 1 rfl rfl 1 (by decide) (hts (.fieldLink RX8 161 "SilentRent$House" "tenants" "I") (List.mem_of_getElem? (i := 2) rfl)) (fun _ h9 => h9) rfl dX8_hoursForSale_9 ?_
      refine z_icmp_ge (tgt := 46) hx hb ⟨by omega, by omega⟩ ⟨by omega, by omega⟩ dX8_hoursForSale_12 (by decide) (fun c1 => ?_) (fun c1 => ?_)
      · have c1 : (te : Nat) ≤ (i : Nat) := by omega
        refine lv_iload_n hx hb dX8_hoursForSale_46 rfl (lv_at hl 2 rfl) ?_
        exact zr_iret hx hb hr hlocks hQ (by rw [show i = te from by omega]; rfl) dX8_hoursForSale_47
      · have c1 : ¬ ((te : Nat) ≤ (i : Nat)) := by omega
        refine lv_aload_n hx hb dX8_hoursForSale_15 rfl (lv_at hl 0 rfl) ?_
        refine va_get (D := D) (ci := 8) (v := .ref (h 0)) (C := RX8) (T := TX8) (N := 11) hx hb hts hinX8 hown hK hP 0 rfl rfl 1 (by decide) (hts (.fieldLink RX8 19 "SilentRent" "built" "LSilentRent$House;") (List.mem_of_getElem? (i := 1) rfl)) (fun _ h9 => h9) rfl dX8_hoursForSale_16 ?_
        refine va_get (D := D) (ci := 2) (v := .ref (h 5)) (C := RX2) (T := TX2) (N := 10) hx hb hts hinX2 hown hK hP 1 rfl rfl 7 (by decide) (hts (.fieldLink RX8 120 "SilentRent$House" "asks" "[I") (List.mem_of_getElem? (i := 3) rfl)) (fun _ h9 => h9) rfl dX8_hoursForSale_19 ?_
        refine lv_iload_n hx hb dX8_hoursForSale_22 rfl (lv_at hl 3 rfl) ?_
        refine z_iald hx hb hK hP 6 0 (f := ak) rfl rfl i rfl (by omega) (by decide) dX8_hoursForSale_23 ?_
        have hb2 := hHB.2.2.2.2.1 i
        refine lv_iload_n hx hb dX8_hoursForSale_24 rfl (lv_at hl 1 rfl) ?_
        have J5 : ∀ (z4 : Int), z4 = (if q < (ak i) then (sumI (fun t => if ak t ≤ q then max 0 (spr hm pr sl mu ro t) else 0) i) else ((sumI (fun t => if ak t ≤ q then max 0 (spr hm pr sl mu ro t) else 0) i) + (max 0 (spr hm pr sl mu ro i)))) → ∀ ls : Array Slot, lv_has ls 4 [(0, .ref (sa 0)), (1, .int (zI q)), (2, .int (zI z4)), (3, .int (zI ((i : Nat) : Int)))] → W p l e rm_X8_hoursForSale s m args below meth c s.heap [] 0 0 Q (F0 m 40 ls []) := by
          intro z4 ez4 ls hl
          subst ez4
          refine z_iinc (r := ((i + 1 : Nat) : Int)) (lv' := [(3, .int (zI ((i + 1 : Nat) : Int))), (0, .ref (sa 0)), (1, .int (zI q)), (2, .int (zI (if q < (ak i) then (sumI (fun t => if ak t ≤ q then max 0 (spr hm pr sl mu ro t) else 0) i) else ((sumI (fun t => if ak t ≤ q then max 0 (spr hm pr sl mu ro t) else 0) i) + (max 0 (spr hm pr sl mu ro i))))))]) hx hb (by omega) dX8_hoursForSale_40 hl (k := 3) rfl (by decide) rfl (fun ls hl => ?_)
          refine lv_goto (tgt := 4) hx hb dX8_hoursForSale_43 (by decide) ?_
          exact ih4 (i + 1) (by omega) (by omega) (if q < (ak i) then (sumI (fun t => if ak t ≤ q then max 0 (spr hm pr sl mu ro t) else 0) i) else ((sumI (fun t => if ak t ≤ q then max 0 (spr hm pr sl mu ro t) else 0) i) + (max 0 (spr hm pr sl mu ro i)))) (by (simp only [sumI]) <;> (repeat' split) <;> omega) ((i + 1 : Nat) : Int) (by first | rfl | omega) ls (lv_sub hl [1, 2, 3, 0] rfl)
        refine z_icmp_gt (tgt := 40) hx hb ⟨by omega, by omega⟩ ⟨by omega, by omega⟩ dX8_hoursForSale_25 (by decide) (fun c3 => ?_) (fun c3 => ?_)
        · exact J5 (sumI (fun t => if ak t ≤ q then max 0 (spr hm pr sl mu ro t) else 0) i) (by rw [if_pos c3]) ls (lv_sub hl [0, 1, 2, 3] rfl)
        · refine lv_iload_n hx hb dX8_hoursForSale_28 rfl (lv_at hl 2 rfl) ?_
          refine lv_iconst (v := zI 0) hx hb dX8_hoursForSale_29 rfl ?_
          refine lv_aload_n hx hb dX8_hoursForSale_30 rfl (lv_at hl 0 rfl) ?_
          refine lv_iload_n hx hb dX8_hoursForSale_31 rfl (lv_at hl 3 rfl) ?_
          refine zr_callV (rest := [.int (zI 0), .int (zI (sumI (fun t => if ak t ≤ q then max 0 (spr hm pr sl mu ro t) else 0) i))]) (As := [.int (zI ((i : Nat) : Int))]) (v := (spr hm pr sl mu ro i)) ⟨hx, hb, hml, hown, hts⟩ (c_X8_spareHours l D cy sa rTx rDr rPa rIm rBk rHo rFi rGr tr h ro te ch pr sl mu wi ak he li na day hm tk py db ((i : Nat) : Int) (by omega) (by omega) hHB hNB) (cwV 1 hts gX8_hoursForSale_X8_spareHours rfl rfl rfl (by decide +kernel) ⟨Nat.le_of_ble_eq_true rfl, Nat.le_of_ble_eq_true rfl⟩) hK hP 0 8 rfl rfl rfl hl.1 rfl (Nat.le_of_ble_eq_true rfl) dX8_hoursForSale_32 ⟨Nat.zero_le _, Nat.zero_le _⟩ ?_
          refine z_mmax (r := (max 0 (spr hm pr sl mu ro i))) hx hb (by rw [hml]; exact hl.1.symm) hown (hts (.methodLink RX8 170 Lib.Math.max.name) (List.mem_of_getElem? (i := 4) rfl)) (hts (.static Lib.Math.max.name) (List.mem_of_getElem? (i := 5) rfl)) (hts (.initialized "java/lang/Math") (List.mem_of_getElem? (i := 6) rfl)) (hts (.code Lib.Math.max.name Lib.Math.max.code 2 (some .int)) (List.mem_of_getElem? (i := 7) rfl)) (Nat.le_of_ble_eq_true rfl) (Nat.le_of_ble_eq_true rfl) (Nat.zero_le _) (Nat.zero_le _) ⟨by omega, by omega⟩ ⟨by omega, by omega⟩ (by omega) dX8_hoursForSale_35 ?_
          refine z_iadd (r := ((sumI (fun t => if ak t ≤ q then max 0 (spr hm pr sl mu ro t) else 0) i) + (max 0 (spr hm pr sl mu ro i)))) hx hb rfl dX8_hoursForSale_38 ?_
          refine lv_istore_n (lv' := [(2, .int (zI ((sumI (fun t => if ak t ≤ q then max 0 (spr hm pr sl mu ro t) else 0) i) + (max 0 (spr hm pr sl mu ro i))))), (0, .ref (sa 0)), (1, .int (zI q)), (3, .int (zI ((i : Nat) : Int)))]) hx hb dX8_hoursForSale_39 rfl hl (by decide) rfl (fun ls hl => ?_)
          exact J5 ((sumI (fun t => if ak t ≤ q then max 0 (spr hm pr sl mu ro t) else 0) i) + (max 0 (spr hm pr sl mu ro i))) (by rw [if_neg c3]) ls (lv_sub hl [1, 2, 0, 3] rfl)
  exact loop4 ((te - 0) + 1) 0 (by omega) (by omega) 0 (by first | rfl | omega | simp) 0 (by first | rfl | omega | simp) ls (lv_sub hl [2, 3, 1, 0] rfl)
abbrev rm_X8_hoursBought : Room := { frames := 3, cells := 0, slots := 0, locals := 64 }
set_option maxHeartbeats 4000000 in
set_option maxRecDepth 100000 in
theorem c_X8_hoursBought (l : Launch) (D : va_G) (cy : Nat → ClassId) (sa : Nat → Nat) (rTx : Nat) (rDr : Nat) (rPa : Nat) (rIm : Nat) (rBk : Nat) (rHo : Nat) (rFi : Nat) (rGr : Nat) (tr : Int) (h : Nat → Nat) (ro : Nat) (te : Nat) (ch : Nat) (pr : Nat → Int) (sl : Nat → Int) (mu : Nat → Int) (wi : Nat → Int) (ak : Nat → Int) (he : Nat → Nat) (li : Nat → Nat) (na : Nat → Nat) (day : Int) (hm : Nat → Int) (tk : Nat → Int) (py : Nat → Int) (db : Nat → Int) (q : Int) (hq0 : 0 ≤ q ∧ q ≤ 10) (hro : ro ≤ 6) (hte : te ≤ 6) (hHB : HB pr sl mu wi ak he li) (hNB : NB hm tk py db) : Met l yX8_hoursBought wsX8_hoursBought rm_X8_hoursBought (pR D cy [((sa 0), .inr (8, [.ref rTx, .ref (h 0), .ref rDr, .ref (na 0), .ref rPa, .ref rIm, .ref rBk, .ref rHo, .ref rFi, .ref rGr, .long (zL tr)])), ((h 0), .inr (2, [.int (zI ((ro : Nat) : Int)), .int (zI ((te : Nat) : Int)), .int (zI ((ch : Nat) : Int)), .ref (h 1), .ref (h 2), .ref (h 3), .ref (h 4), .ref (h 5), .ref (h 6), .ref (h 7)])), ((h 1), .inl (cy 0, 6, .inl (zA pr))), ((h 2), .inl (cy 0, 6, .inl (zA sl))), ((h 3), .inl (cy 0, 6, .inl (zA mu))), ((h 4), .inl (cy 0, 6, .inl (zA wi))), ((h 5), .inl (cy 0, 6, .inl (zA ak))), ((h 6), .inl (cy 0, 6, .inl (zA (fun j => ((he j : Nat) : Int))))), ((h 7), .inl (cy 0, 5, .inl (zA (fun j => ((li j : Nat) : Int))))), ((na 0), .inr (5, [.int (zI day), .ref (na 1), .ref (na 2), .ref (na 3), .ref (na 4)])), ((na 1), .inl (cy 0, 6, .inl (zA hm))), ((na 2), .inl (cy 0, 6, .inl (zA tk))), ((na 3), .inl (cy 0, 6, .inl (zA py))), ((na 4), .inl (cy 0, 6, .inl (zA db)))] [.ref (sa 0), .int (zI q)]) (qR (hbo hm pr sl mu ak ro te q)) 0 0 (fun _ => False) := by
  refine met_R (cc := cX8_hoursBought) (maxL := 4) (ret := (some .int)) RX8 (by decide) rfl rfl (Nat.le_of_ble_eq_true rfl) ?_
  intro p e s m args below meth c ls Q hx hb hr hml hts hown hlocks hQ hP hK hl
  have hl : lv_has ls 4 [(0, .ref (sa 0)), (1, .int (zI q))] := hl
  have hinX2 : ∀ w ∈ wsX20, w ∈ wsX8_hoursBought := (fun w h => List.mem_cons_of_mem _ (List.mem_append_left _ (List.mem_append_right _ h)))
  have hinX8 : ∀ w ∈ wsX80, w ∈ wsX8_hoursBought := (fun w h => List.mem_cons_of_mem _ (List.mem_append_left _ (List.mem_append_left _ (List.mem_append_right _ h))))
  refine lv_iconst (v := zI 0) hx hb dX8_hoursBought_0 rfl ?_
  refine lv_istore_n (lv' := [(2, .int (zI 0)), (0, .ref (sa 0)), (1, .int (zI q))]) hx hb dX8_hoursBought_1 rfl hl (by decide) rfl (fun ls hl => ?_)
  refine lv_iconst (v := zI 0) hx hb dX8_hoursBought_2 rfl ?_
  refine lv_istore_n (lv' := [(3, .int (zI 0)), (2, .int (zI 0)), (0, .ref (sa 0)), (1, .int (zI q))]) hx hb dX8_hoursBought_3 rfl hl (by decide) rfl (fun ls hl => ?_)
  have loop4 : ∀ (n9 : Nat) (i : Nat), te - i < n9 → (i ≤ te) → ∀ (x4_2 : Int), x4_2 = (sumI (fun t => if q ≤ ak t then max 0 (-(spr hm pr sl mu ro t)) else 0) i) → ∀ (x4_3 : Int), x4_3 = ((i : Nat) : Int) → ∀ ls : Array Slot, lv_has ls 4 [(0, .ref (sa 0)), (1, .int (zI q)), (2, .int (zI x4_2)), (3, .int (zI x4_3))] → W p l e rm_X8_hoursBought s m args below meth c s.heap [] 0 0 Q (F0 m 4 ls []) := by
    intro n9
    induction n9 with
    | zero => intro i h9; exact absurd h9 (Nat.not_lt_zero _)
    | succ n9 ih4 =>
      intro i hmu4 hi x4_2 ex4_2 x4_3 ex4_3 ls hl
      subst ex4_2
      subst ex4_3
      have hl : lv_has ls 4 [(0, .ref (sa 0)), (1, .int (zI q)), (2, .int (zI (sumI (fun t => if q ≤ ak t then max 0 (-(spr hm pr sl mu ro t)) else 0) i))), (3, .int (zI ((i : Nat) : Int)))] := hl
      have hz9 := spr_in hHB (hm := hm) ro i
      refine lv_iload_n hx hb dX8_hoursBought_4 rfl (lv_at hl 3 rfl) ?_
      refine lv_aload_n hx hb dX8_hoursBought_5 rfl (lv_at hl 0 rfl) ?_
      refine va_get (D := D) (ci := 8) (v := .ref (h 0)) (C := RX8) (T := TX8) (N := 11) hx hb hts hinX8 hown hK hP 0 rfl rfl 1 (by decide) (hts (.fieldLink RX8 19 "SilentRent" "built" "LSilentRent$House;") (List.mem_of_getElem? (i := 1) rfl)) (fun _ h9 => h9) rfl dX8_hoursBought_6 ?_
      refine va_get (D := D) (ci := 2) (v := .int (zI ((te : Nat) : Int))) (C := RX2) (T := TX2) (N := 10) hx hb hts hinX2 hown hK hP 1 rfl rfl 1 (by decide) (hts (.fieldLink RX8 161 "SilentRent$House" "tenants" "I") (List.mem_of_getElem? (i := 2) rfl)) (fun _ h9 => h9) rfl dX8_hoursBought_9 ?_
      refine z_icmp_ge (tgt := 47) hx hb ⟨by omega, by omega⟩ ⟨by omega, by omega⟩ dX8_hoursBought_12 (by decide) (fun c1 => ?_) (fun c1 => ?_)
      · have c1 : (te : Nat) ≤ (i : Nat) := by omega
        refine lv_iload_n hx hb dX8_hoursBought_47 rfl (lv_at hl 2 rfl) ?_
        exact zr_iret hx hb hr hlocks hQ (by rw [show i = te from by omega]; rfl) dX8_hoursBought_48
      · have c1 : ¬ ((te : Nat) ≤ (i : Nat)) := by omega
        refine lv_aload_n hx hb dX8_hoursBought_15 rfl (lv_at hl 0 rfl) ?_
        refine va_get (D := D) (ci := 8) (v := .ref (h 0)) (C := RX8) (T := TX8) (N := 11) hx hb hts hinX8 hown hK hP 0 rfl rfl 1 (by decide) (hts (.fieldLink RX8 19 "SilentRent" "built" "LSilentRent$House;") (List.mem_of_getElem? (i := 1) rfl)) (fun _ h9 => h9) rfl dX8_hoursBought_16 ?_
        refine va_get (D := D) (ci := 2) (v := .ref (h 5)) (C := RX2) (T := TX2) (N := 10) hx hb hts hinX2 hown hK hP 1 rfl rfl 7 (by decide) (hts (.fieldLink RX8 120 "SilentRent$House" "asks" "[I") (List.mem_of_getElem? (i := 3) rfl)) (fun _ h9 => h9) rfl dX8_hoursBought_19 ?_
        refine lv_iload_n hx hb dX8_hoursBought_22 rfl (lv_at hl 3 rfl) ?_
        refine z_iald hx hb hK hP 6 0 (f := ak) rfl rfl i rfl (by omega) (by decide) dX8_hoursBought_23 ?_
        have hb2 := hHB.2.2.2.2.1 i
        refine lv_iload_n hx hb dX8_hoursBought_24 rfl (lv_at hl 1 rfl) ?_
        have J5 : ∀ (z4 : Int), z4 = (if (ak i) < q then (sumI (fun t => if q ≤ ak t then max 0 (-(spr hm pr sl mu ro t)) else 0) i) else ((sumI (fun t => if q ≤ ak t then max 0 (-(spr hm pr sl mu ro t)) else 0) i) + (max 0 (-(spr hm pr sl mu ro i))))) → ∀ ls : Array Slot, lv_has ls 4 [(0, .ref (sa 0)), (1, .int (zI q)), (2, .int (zI z4)), (3, .int (zI ((i : Nat) : Int)))] → W p l e rm_X8_hoursBought s m args below meth c s.heap [] 0 0 Q (F0 m 41 ls []) := by
          intro z4 ez4 ls hl
          subst ez4
          refine z_iinc (r := ((i + 1 : Nat) : Int)) (lv' := [(3, .int (zI ((i + 1 : Nat) : Int))), (0, .ref (sa 0)), (1, .int (zI q)), (2, .int (zI (if (ak i) < q then (sumI (fun t => if q ≤ ak t then max 0 (-(spr hm pr sl mu ro t)) else 0) i) else ((sumI (fun t => if q ≤ ak t then max 0 (-(spr hm pr sl mu ro t)) else 0) i) + (max 0 (-(spr hm pr sl mu ro i)))))))]) hx hb (by omega) dX8_hoursBought_41 hl (k := 3) rfl (by decide) rfl (fun ls hl => ?_)
          refine lv_goto (tgt := 4) hx hb dX8_hoursBought_44 (by decide) ?_
          exact ih4 (i + 1) (by omega) (by omega) (if (ak i) < q then (sumI (fun t => if q ≤ ak t then max 0 (-(spr hm pr sl mu ro t)) else 0) i) else ((sumI (fun t => if q ≤ ak t then max 0 (-(spr hm pr sl mu ro t)) else 0) i) + (max 0 (-(spr hm pr sl mu ro i))))) (by (simp only [sumI]) <;> (repeat' split) <;> omega) ((i + 1 : Nat) : Int) (by first | rfl | omega) ls (lv_sub hl [1, 2, 3, 0] rfl)
        refine z_icmp_lt (tgt := 41) hx hb ⟨by omega, by omega⟩ ⟨by omega, by omega⟩ dX8_hoursBought_25 (by decide) (fun c3 => ?_) (fun c3 => ?_)
        · exact J5 (sumI (fun t => if q ≤ ak t then max 0 (-(spr hm pr sl mu ro t)) else 0) i) (by rw [if_pos c3]) ls (lv_sub hl [0, 1, 2, 3] rfl)
        · refine lv_iload_n hx hb dX8_hoursBought_28 rfl (lv_at hl 2 rfl) ?_
          refine lv_iconst (v := zI 0) hx hb dX8_hoursBought_29 rfl ?_
          refine lv_aload_n hx hb dX8_hoursBought_30 rfl (lv_at hl 0 rfl) ?_
          refine lv_iload_n hx hb dX8_hoursBought_31 rfl (lv_at hl 3 rfl) ?_
          refine zr_callV (rest := [.int (zI 0), .int (zI (sumI (fun t => if q ≤ ak t then max 0 (-(spr hm pr sl mu ro t)) else 0) i))]) (As := [.int (zI ((i : Nat) : Int))]) (v := (spr hm pr sl mu ro i)) ⟨hx, hb, hml, hown, hts⟩ (c_X8_spareHours l D cy sa rTx rDr rPa rIm rBk rHo rFi rGr tr h ro te ch pr sl mu wi ak he li na day hm tk py db ((i : Nat) : Int) (by omega) (by omega) hHB hNB) (cwV 1 hts gX8_hoursBought_X8_spareHours rfl rfl rfl (by decide +kernel) ⟨Nat.le_of_ble_eq_true rfl, Nat.le_of_ble_eq_true rfl⟩) hK hP 0 8 rfl rfl rfl hl.1 rfl (Nat.le_of_ble_eq_true rfl) dX8_hoursBought_32 ⟨Nat.zero_le _, Nat.zero_le _⟩ ?_
          refine z_ineg (r := (-(spr hm pr sl mu ro i))) hx hb rfl dX8_hoursBought_35 ?_
          refine z_mmax (r := (max 0 (-(spr hm pr sl mu ro i)))) hx hb (by rw [hml]; exact hl.1.symm) hown (hts (.methodLink RX8 170 Lib.Math.max.name) (List.mem_of_getElem? (i := 4) rfl)) (hts (.static Lib.Math.max.name) (List.mem_of_getElem? (i := 5) rfl)) (hts (.initialized "java/lang/Math") (List.mem_of_getElem? (i := 6) rfl)) (hts (.code Lib.Math.max.name Lib.Math.max.code 2 (some .int)) (List.mem_of_getElem? (i := 7) rfl)) (Nat.le_of_ble_eq_true rfl) (Nat.le_of_ble_eq_true rfl) (Nat.zero_le _) (Nat.zero_le _) ⟨by omega, by omega⟩ ⟨by omega, by omega⟩ (by omega) dX8_hoursBought_36 ?_
          refine z_iadd (r := ((sumI (fun t => if q ≤ ak t then max 0 (-(spr hm pr sl mu ro t)) else 0) i) + (max 0 (-(spr hm pr sl mu ro i))))) hx hb rfl dX8_hoursBought_39 ?_
          refine lv_istore_n (lv' := [(2, .int (zI ((sumI (fun t => if q ≤ ak t then max 0 (-(spr hm pr sl mu ro t)) else 0) i) + (max 0 (-(spr hm pr sl mu ro i)))))), (0, .ref (sa 0)), (1, .int (zI q)), (3, .int (zI ((i : Nat) : Int)))]) hx hb dX8_hoursBought_40 rfl hl (by decide) rfl (fun ls hl => ?_)
          exact J5 ((sumI (fun t => if q ≤ ak t then max 0 (-(spr hm pr sl mu ro t)) else 0) i) + (max 0 (-(spr hm pr sl mu ro i)))) (by rw [if_neg c3]) ls (lv_sub hl [1, 2, 0, 3] rfl)
  exact loop4 ((te - 0) + 1) 0 (by omega) (by omega) 0 (by first | rfl | omega | simp) 0 (by first | rfl | omega | simp) ls (lv_sub hl [2, 3, 1, 0] rfl)
abbrev rm_X8_lackingShare : Room := { frames := 1, cells := 0, slots := 0, locals := 22 }
set_option maxHeartbeats 4000000 in
set_option maxRecDepth 100000 in
theorem c_X8_lackingShare (l : Launch) (D : va_G) (cy : Nat → ClassId) (sa : Nat → Nat) (rTx : Nat) (rDr : Nat) (rPa : Nat) (rIm : Nat) (rBk : Nat) (rHo : Nat) (rFi : Nat) (rGr : Nat) (tr : Int) (h : Nat → Nat) (ro : Nat) (te : Nat) (ch : Nat) (pr : Nat → Int) (sl : Nat → Int) (mu : Nat → Int) (wi : Nat → Int) (ak : Nat → Int) (he : Nat → Nat) (li : Nat → Nat) (na : Nat → Nat) (day : Int) (hm : Nat → Int) (tk : Nat → Int) (py : Nat → Int) (db : Nat → Int) (t : Int) (ht0 : 0 ≤ t ∧ t < 6) (hte : te ≤ 6) (hNB : NB hm tk py db) : Met l yX8_lackingShare wsX8_lackingShare rm_X8_lackingShare (pR D cy [((sa 0), .inr (8, [.ref rTx, .ref (h 0), .ref rDr, .ref (na 0), .ref rPa, .ref rIm, .ref rBk, .ref rHo, .ref rFi, .ref rGr, .long (zL tr)])), ((h 0), .inr (2, [.int (zI ((ro : Nat) : Int)), .int (zI ((te : Nat) : Int)), .int (zI ((ch : Nat) : Int)), .ref (h 1), .ref (h 2), .ref (h 3), .ref (h 4), .ref (h 5), .ref (h 6), .ref (h 7)])), ((h 1), .inl (cy 0, 6, .inl (zA pr))), ((h 2), .inl (cy 0, 6, .inl (zA sl))), ((h 3), .inl (cy 0, 6, .inl (zA mu))), ((h 4), .inl (cy 0, 6, .inl (zA wi))), ((h 5), .inl (cy 0, 6, .inl (zA ak))), ((h 6), .inl (cy 0, 6, .inl (zA (fun j => ((he j : Nat) : Int))))), ((h 7), .inl (cy 0, 5, .inl (zA (fun j => ((li j : Nat) : Int))))), ((na 0), .inr (5, [.int (zI day), .ref (na 1), .ref (na 2), .ref (na 3), .ref (na 4)])), ((na 1), .inl (cy 0, 6, .inl (zA hm))), ((na 2), .inl (cy 0, 6, .inl (zA tk))), ((na 3), .inl (cy 0, 6, .inl (zA py))), ((na 4), .inl (cy 0, 6, .inl (zA db)))] [.ref (sa 0), .int (zI t)]) (qR (lsh db te t.toNat)) 0 0 (fun _ => False) := by
  refine met_R (cc := cX8_lackingShare) (maxL := 5) (ret := (some .int)) RX8 (by decide) rfl rfl (Nat.le_of_ble_eq_true rfl) ?_
  intro p e s m args below meth c ls Q hx hb hr hml hts hown hlocks hQ hP hK hl
  have hl : lv_has ls 5 [(0, .ref (sa 0)), (1, .int (zI t))] := hl
  have hinX2 : ∀ w ∈ wsX20, w ∈ wsX8_lackingShare := (fun w h => List.mem_cons_of_mem _ (List.mem_append_left _ (List.mem_append_right _ h)))
  have hinX5 : ∀ w ∈ wsX50, w ∈ wsX8_lackingShare := (fun w h => List.mem_cons_of_mem _ (List.mem_append_right _ h))
  have hinX8 : ∀ w ∈ wsX80, w ∈ wsX8_lackingShare := (fun w h => List.mem_cons_of_mem _ (List.mem_append_left _ (List.mem_append_left _ (List.mem_append_right _ h))))
  have hall := sumI_bd db 9999 (fun i => hNB.2.2.2 i) 6
  have hmod : 0 < te → 0 ≤ sumI db 6 % (te : Int) ∧ sumI db 6 % (te : Int) < te := fun h => ⟨Int.emod_nonneg _ (by omega), Int.emod_lt_of_pos _ (by omega)⟩
  refine lv_aload_n hx hb dX8_lackingShare_0 rfl (lv_at hl 0 rfl) ?_
  refine va_get (D := D) (ci := 8) (v := .ref (na 0)) (C := RX8) (T := TX8) (N := 11) hx hb hts hinX8 hown hK hP 0 rfl rfl 3 (by decide) (hts (.fieldLink RX8 29 "SilentRent" "now" "LSilentRent$Now;") (List.mem_of_getElem? (i := 1) rfl)) (fun _ h9 => h9) rfl dX8_lackingShare_1 ?_
  have hPc1 := hP.sub (ws' := [((na 0), .inr (5, [.int (zI day), .ref (na 1), .ref (na 2), .ref (na 3), .ref (na 4)])), ((na 1), .inl (cy 0, 6, .inl (zA hm))), ((na 2), .inl (cy 0, 6, .inl (zA tk))), ((na 3), .inl (cy 0, 6, .inl (zA py))), ((na 4), .inl (cy 0, 6, .inl (zA db)))]) [9, 10, 11, 12, 13] rfl
  refine zr_callV (rest := []) (As := []) (v := (sumI db 6)) ⟨hx, hb, hml, hown, hts⟩ (c_X5_allDebts l D cy na day hm tk py db hNB) (cwV 0 hts gX8_lackingShare_X5_allDebts rfl rfl rfl (by decide +kernel) ⟨Nat.le_of_ble_eq_true rfl, Nat.le_of_ble_eq_true rfl⟩) hK hPc1 0 5 rfl rfl rfl hl.1 rfl (Nat.le_of_ble_eq_true rfl) dX8_lackingShare_4 ⟨Nat.zero_le _, Nat.zero_le _⟩ ?_
  refine lv_istore_n (lv' := [(2, .int (zI (sumI db 6))), (0, .ref (sa 0)), (1, .int (zI t))]) hx hb dX8_lackingShare_7 rfl hl (by decide) rfl (fun ls hl => ?_)
  refine lv_aload_n hx hb dX8_lackingShare_8 rfl (lv_at hl 1 rfl) ?_
  refine va_get (D := D) (ci := 8) (v := .ref (h 0)) (C := RX8) (T := TX8) (N := 11) hx hb hts hinX8 hown hK hP 0 rfl rfl 1 (by decide) (hts (.fieldLink RX8 19 "SilentRent" "built" "LSilentRent$House;") (List.mem_of_getElem? (i := 2) rfl)) (fun _ h9 => h9) rfl dX8_lackingShare_9 ?_
  refine va_get (D := D) (ci := 2) (v := .int (zI ((te : Nat) : Int))) (C := RX2) (T := TX2) (N := 10) hx hb hts hinX2 hown hK hP 1 rfl rfl 1 (by decide) (hts (.fieldLink RX8 161 "SilentRent$House" "tenants" "I") (List.mem_of_getElem? (i := 3) rfl)) (fun _ h9 => h9) rfl dX8_lackingShare_12 ?_
  refine lv_istore_n (lv' := [(3, .int (zI ((te : Nat) : Int))), (2, .int (zI (sumI db 6))), (0, .ref (sa 0)), (1, .int (zI t))]) hx hb dX8_lackingShare_15 rfl hl (by decide) rfl (fun ls hl => ?_)
  refine lv_iload_n hx hb dX8_lackingShare_16 rfl (lv_at hl 0 rfl) ?_
  refine z_if_ne (tgt := 22) hx hb ⟨by omega, by omega⟩ dX8_lackingShare_17 (by decide) (fun c2 => ?_) (fun c2 => ?_)
  · have c2 : ¬ ((te : Nat) = (0 : Nat)) := by omega
    refine lv_iload_n hx hb dX8_lackingShare_22 rfl (lv_at hl 1 rfl) ?_
    refine lv_iload_n hx hb dX8_lackingShare_23 rfl (lv_at hl 0 rfl) ?_
    refine z_idiv (r := ((sumI db 6) / ((te : Nat) : Int))) hx hb ⟨by omega, by omega⟩ ⟨by omega, by omega⟩ rfl dX8_lackingShare_24 ?_
    refine lv_iload_n hx hb dX8_lackingShare_25 rfl (lv_at hl 3 rfl) ?_
    have hmod := hmod (by omega)
    refine lv_iload_n hx hb dX8_lackingShare_26 rfl (lv_at hl 1 rfl) ?_
    refine lv_iload_n hx hb dX8_lackingShare_27 rfl (lv_at hl 0 rfl) ?_
    refine z_irem (r := ((sumI db 6) % ((te : Nat) : Int))) hx hb ⟨by omega, by omega⟩ ⟨by omega, by omega⟩ rfl dX8_lackingShare_28 ?_
    have J5 : ∀ (z4 : Int), z4 = (if ((sumI db 6) % ((te : Nat) : Int)) ≤ t then 0 else 1) → ∀ ls : Array Slot, lv_has ls 5 [(0, .ref (sa 0)), (1, .int (zI t)), (2, .int (zI (sumI db 6))), (3, .int (zI ((te : Nat) : Int)))] → W p l e rm_X8_lackingShare s m args below meth c s.heap [] 0 0 Q (F0 m 37 ls [.int (zI z4), .int (zI ((sumI db 6) / ((te : Nat) : Int)))]) := by
      intro z4 ez4 ls hl
      subst ez4
      refine z_iadd (r := (((sumI db 6) / ((te : Nat) : Int)) + (if ((sumI db 6) % ((te : Nat) : Int)) ≤ t then 0 else 1))) hx hb rfl dX8_lackingShare_37 ?_
      refine lv_istore (lv' := [(4, .int (zI (((sumI db 6) / ((te : Nat) : Int)) + (if ((sumI db 6) % ((te : Nat) : Int)) ≤ t then 0 else 1)))), (0, .ref (sa 0)), (1, .int (zI t)), (2, .int (zI (sumI db 6))), (3, .int (zI ((te : Nat) : Int)))]) hx hb dX8_lackingShare_38 hl (by decide) rfl (fun ls hl => ?_)
      refine lv_iload hx hb dX8_lackingShare_40 (lv_at hl 0 rfl) ?_
      refine lv_aload_n hx hb dX8_lackingShare_42 rfl (lv_at hl 1 rfl) ?_
      refine va_get (D := D) (ci := 8) (v := .ref (na 0)) (C := RX8) (T := TX8) (N := 11) hx hb hts hinX8 hown hK hP 0 rfl rfl 3 (by decide) (hts (.fieldLink RX8 29 "SilentRent" "now" "LSilentRent$Now;") (List.mem_of_getElem? (i := 1) rfl)) (fun _ h9 => h9) rfl dX8_lackingShare_43 ?_
      refine va_get (D := D) (ci := 5) (v := .ref (na 4)) (C := RX5) (T := TX5) (N := 5) hx hb hts hinX5 hown hK hP 9 rfl rfl 4 (by decide) (hts (.fieldLink RX8 132 "SilentRent$Now" "debt" "[I") (List.mem_of_getElem? (i := 4) rfl)) (fun _ h9 => h9) rfl dX8_lackingShare_46 ?_
      refine lv_iload_n hx hb dX8_lackingShare_49 rfl (lv_at hl 2 rfl) ?_
      refine z_iald hx hb hK hP 13 0 (f := db) rfl rfl t.toNat (by omega) (by omega) (by decide) dX8_lackingShare_50 ?_
      have hb6 := hNB.2.2.2 t.toNat
      refine z_isub (r := ((((sumI db 6) / ((te : Nat) : Int)) + (if ((sumI db 6) % ((te : Nat) : Int)) ≤ t then 0 else 1)) - (db t.toNat))) hx hb rfl dX8_lackingShare_51 ?_
      exact zr_iret hx hb hr hlocks hQ (by have e9 : ((t.toNat : Nat) : Int) = t := (by omega); unfold lsh; rw [if_neg (show ¬ te = 0 by omega), e9]; by_cases h9 : sumI db 6 % (te : Int) ≤ t; (rw [if_pos h9, if_neg (by omega)]); (rw [if_neg h9, if_pos (by omega)])) dX8_lackingShare_52
    refine z_icmp_ge (tgt := 36) hx hb ⟨by omega, by omega⟩ ⟨by omega, by omega⟩ dX8_lackingShare_29 (by decide) (fun c3 => ?_) (fun c3 => ?_)
    · refine lv_iconst (v := zI 0) hx hb dX8_lackingShare_36 rfl ?_
      exact J5 0 (by rw [if_pos c3]) ls (lv_sub hl [2, 3, 1, 0] rfl)
    · refine lv_iconst (v := zI 1) hx hb dX8_lackingShare_32 rfl ?_
      refine lv_goto (tgt := 37) hx hb dX8_lackingShare_33 (by decide) ?_
      exact J5 1 (by rw [if_neg c3]) ls (lv_sub hl [2, 3, 1, 0] rfl)
  · have c2 : (te : Nat) = (0 : Nat) := by omega
    refine lv_iconst (v := zI 0) hx hb dX8_lackingShare_20 rfl ?_
    exact zr_iret hx hb hr hlocks hQ (by unfold lsh; rw [if_pos (by omega)]) dX8_lackingShare_21
abbrev rm_X8_crowd : Room := { frames := 5, cells := 0, slots := 0, locals := 110 }
set_option maxHeartbeats 4000000 in
set_option maxRecDepth 100000 in
theorem c_X8_crowd (l : Launch) (D : va_G) (cy : Nat → ClassId) (sa : Nat → Nat) (rTx : Nat) (rDr : Nat) (rPa : Nat) (rIm : Nat) (rBk : Nat) (rHo : Nat) (rFi : Nat) (rGr : Nat) (tr : Int) (h : Nat → Nat) (ro : Nat) (te : Nat) (ch : Nat) (pr : Nat → Int) (sl : Nat → Int) (mu : Nat → Int) (wi : Nat → Int) (ak : Nat → Int) (he : Nat → Nat) (li : Nat → Nat) (na : Nat → Nat) (day : Int) (hm : Nat → Int) (tk : Nat → Int) (py : Nat → Int) (db : Nat → Int) (hro : ro ≤ 6) (hte : te ≤ 6) (hHB : HB pr sl mu wi ak he li) : Met l yX8_crowd wsX8_crowd rm_X8_crowd (pR D cy [((sa 0), .inr (8, [.ref rTx, .ref (h 0), .ref rDr, .ref (na 0), .ref rPa, .ref rIm, .ref rBk, .ref rHo, .ref rFi, .ref rGr, .long (zL tr)])), ((h 0), .inr (2, [.int (zI ((ro : Nat) : Int)), .int (zI ((te : Nat) : Int)), .int (zI ((ch : Nat) : Int)), .ref (h 1), .ref (h 2), .ref (h 3), .ref (h 4), .ref (h 5), .ref (h 6), .ref (h 7)])), ((h 1), .inl (cy 0, 6, .inl (zA pr))), ((h 2), .inl (cy 0, 6, .inl (zA sl))), ((h 3), .inl (cy 0, 6, .inl (zA mu))), ((h 4), .inl (cy 0, 6, .inl (zA wi))), ((h 5), .inl (cy 0, 6, .inl (zA ak))), ((h 6), .inl (cy 0, 6, .inl (zA (fun j => ((he j : Nat) : Int))))), ((h 7), .inl (cy 0, 5, .inl (zA (fun j => ((li j : Nat) : Int))))), ((na 0), .inr (5, [.int (zI day), .ref (na 1), .ref (na 2), .ref (na 3), .ref (na 4)])), ((na 1), .inl (cy 0, 6, .inl (zA hm))), ((na 2), .inl (cy 0, 6, .inl (zA tk))), ((na 3), .inl (cy 0, 6, .inl (zA py))), ((na 4), .inl (cy 0, 6, .inl (zA db)))] [.ref (sa 0)]) (qR ((bst (fun n => decide (popc (rmb pr sl mu te ro n) < popc n)) 7 (2 ^ te)).1)) 0 0 (fun _ => False) := by
  refine met_R (cc := cX8_crowd) (maxL := 5) (ret := (some .int)) RX8 (by decide) rfl rfl (Nat.le_of_ble_eq_true rfl) ?_
  intro p e s m args below meth c ls Q hx hb hr hml hts hown hlocks hQ hP hK hl
  have hl : lv_has ls 5 [(0, .ref (sa 0))] := hl
  have hinX8 : ∀ w ∈ wsX80, w ∈ wsX8_crowd := (fun w h => List.mem_cons_of_mem _ (List.mem_append_left _ (List.mem_append_right _ h)))
  have hpw := pow_le64 te (by omega)
  refine lv_bipush (v := zI (-9)) hx hb dX8_crowd_0 (by decide) ?_
  refine lv_istore_n (lv' := [(1, .int (zI (-9))), (0, .ref (sa 0))]) hx hb dX8_crowd_2 rfl hl (by decide) rfl (fun ls hl => ?_)
  refine lv_bipush (v := zI 7) hx hb dX8_crowd_3 (by decide) ?_
  refine lv_istore_n (lv' := [(2, .int (zI 7)), (1, .int (zI (-9))), (0, .ref (sa 0))]) hx hb dX8_crowd_5 rfl hl (by decide) rfl (fun ls hl => ?_)
  refine lv_iconst (v := zI 1) hx hb dX8_crowd_6 rfl ?_
  refine lv_istore_n (lv' := [(3, .int (zI 1)), (2, .int (zI 7)), (1, .int (zI (-9))), (0, .ref (sa 0))]) hx hb dX8_crowd_7 rfl hl (by decide) rfl (fun ls hl => ?_)
  have loop8 : ∀ (n9 : Nat) (i : Nat), 2 ^ te - i < n9 → (1 ≤ i ∧ i ≤ 2 ^ te) → ∀ (x8_1 : Int), x8_1 = ((bst (fun n => decide (popc (rmb pr sl mu te ro n) < popc n)) 7 i).1) → ∀ (x8_2 : Int), x8_2 = (((bst (fun n => decide (popc (rmb pr sl mu te ro n) < popc n)) 7 i).2 : Nat) : Int) → ∀ (x8_3 : Int), x8_3 = ((i : Nat) : Int) → ∀ ls : Array Slot, lv_has ls 5 [(0, .ref (sa 0)), (1, .int (zI x8_1)), (2, .int (zI x8_2)), (3, .int (zI x8_3))] → W p l e rm_X8_crowd s m args below meth c s.heap [] 0 0 Q (F0 m 8 ls []) := by
    intro n9
    induction n9 with
    | zero => intro i h9; exact absurd h9 (Nat.not_lt_zero _)
    | succ n9 ih8 =>
      intro i hmu8 hi x8_1 ex8_1 x8_2 ex8_2 x8_3 ex8_3 ls hl
      subst ex8_1
      subst ex8_2
      subst ex8_3
      have hl : lv_has ls 5 [(0, .ref (sa 0)), (1, .int (zI ((bst (fun n => decide (popc (rmb pr sl mu te ro n) < popc n)) 7 i).1))), (2, .int (zI (((bst (fun n => decide (popc (rmb pr sl mu te ro n) < popc n)) 7 i).2 : Nat) : Int))), (3, .int (zI ((i : Nat) : Int)))] := hl
      have hf1 := bst_in (fun n => decide (popc (rmb pr sl mu te ro n) < popc n)) 7 i
      have hf2 := popc_le6 i
      have hf3 := popc_le6 (rmb pr sl mu te ro i)
      have hf4 := rmb_lt64 pr sl mu te ro i (by omega)
      refine lv_iload_n hx hb dX8_crowd_8 rfl (lv_at hl 3 rfl) ?_
      refine lv_aload_n hx hb dX8_crowd_9 rfl (lv_at hl 0 rfl) ?_
      refine va_get (D := D) (ci := 8) (v := .ref (h 0)) (C := RX8) (T := TX8) (N := 11) hx hb hts hinX8 hown hK hP 0 rfl rfl 1 (by decide) (hts (.fieldLink RX8 19 "SilentRent" "built" "LSilentRent$House;") (List.mem_of_getElem? (i := 1) rfl)) (fun _ h9 => h9) rfl dX8_crowd_10 ?_
      have hPc1 := hP.sub (ws' := [((h 0), .inr (2, [.int (zI ((ro : Nat) : Int)), .int (zI ((te : Nat) : Int)), .int (zI ((ch : Nat) : Int)), .ref (h 1), .ref (h 2), .ref (h 3), .ref (h 4), .ref (h 5), .ref (h 6), .ref (h 7)])), ((h 1), .inl (cy 0, 6, .inl (zA pr))), ((h 2), .inl (cy 0, 6, .inl (zA sl))), ((h 3), .inl (cy 0, 6, .inl (zA mu))), ((h 4), .inl (cy 0, 6, .inl (zA wi))), ((h 5), .inl (cy 0, 6, .inl (zA ak))), ((h 6), .inl (cy 0, 6, .inl (zA (fun j => ((he j : Nat) : Int))))), ((h 7), .inl (cy 0, 5, .inl (zA (fun j => ((li j : Nat) : Int)))))]) [1, 2, 3, 4, 5, 6, 7, 8] rfl
      refine zr_callV (rest := [.int (zI ((i : Nat) : Int))]) (As := []) (v := ((2 ^ te - 1 : Nat) : Int)) ⟨hx, hb, hml, hown, hts⟩ (c_X2_everybody l D cy h ro te ch pr sl mu wi ak he li (by omega)) (cwV 0 hts gX8_crowd_X2_everybody rfl rfl rfl (by decide +kernel) ⟨Nat.le_of_ble_eq_true rfl, Nat.le_of_ble_eq_true rfl⟩) hK hPc1 0 2 rfl rfl rfl hl.1 rfl (Nat.le_of_ble_eq_true rfl) dX8_crowd_13 ⟨Nat.zero_le _, Nat.zero_le _⟩ ?_
      refine z_icmp_gt (tgt := 58) hx hb ⟨by omega, by omega⟩ ⟨by omega, by omega⟩ dX8_crowd_16 (by decide) (fun c2 => ?_) (fun c2 => ?_)
      · have c2 : (2 ^ te - 1 : Nat) < (i : Nat) := by omega
        refine lv_iload_n hx hb dX8_crowd_58 rfl (lv_at hl 1 rfl) ?_
        exact zr_iret hx hb hr hlocks hQ (by rw [show i = 2 ^ te from by omega]) dX8_crowd_59
      · have c2 : ¬ ((2 ^ te - 1 : Nat) < (i : Nat)) := by omega
        refine lv_iload_n hx hb dX8_crowd_19 rfl (lv_at hl 3 rfl) ?_
        have hPc3 := hP.sub (ws' := []) [] rfl
        refine zr_callS (rest := []) (As := [.int (zI ((i : Nat) : Int))]) (v := ((popc i : Nat) : Int)) (wd := []) ⟨hx, hb, hml, hown, hts⟩ (c_J6_bitCount_0f7a4 l D cy i (by omega)) (va_cwS 1 hts gX8_crowd_J6_bitCount_0f7a4 rfl rfl rfl (by decide +kernel) ⟨Nat.le_of_ble_eq_true rfl, Nat.le_of_ble_eq_true rfl⟩) hK (fun k q h => by cases h) rfl hl.1 rfl (Nat.le_of_ble_eq_true rfl) dX8_crowd_20 ⟨Nat.zero_le _, Nat.zero_le _⟩ ?_
        refine lv_istore (lv' := [(4, .int (zI ((popc i : Nat) : Int))), (0, .ref (sa 0)), (1, .int (zI ((bst (fun n => decide (popc (rmb pr sl mu te ro n) < popc n)) 7 i).1))), (2, .int (zI (((bst (fun n => decide (popc (rmb pr sl mu te ro n) < popc n)) 7 i).2 : Nat) : Int))), (3, .int (zI ((i : Nat) : Int)))]) hx hb dX8_crowd_23 hl (by decide) rfl (fun ls hl => ?_)
        refine lv_iload hx hb dX8_crowd_25 (lv_at hl 0 rfl) ?_
        refine lv_iload_n hx hb dX8_crowd_27 rfl (lv_at hl 3 rfl) ?_
        have J10 : ∀ (z8 : Int), z8 = (if ((bst (fun n => decide (popc (rmb pr sl mu te ro n) < popc n)) 7 i).2 : Nat) ≤ (popc i : Nat) then ((bst (fun n => decide (popc (rmb pr sl mu te ro n) < popc n)) 7 i).1) else (if (popc i : Nat) ≤ (popc (rmb pr sl mu te ro i) : Nat) then ((bst (fun n => decide (popc (rmb pr sl mu te ro n) < popc n)) 7 i).1) else ((i : Nat) : Int))) → ∀ (z9 : Nat), z9 = (if ((bst (fun n => decide (popc (rmb pr sl mu te ro n) < popc n)) 7 i).2 : Nat) ≤ (popc i : Nat) then ((bst (fun n => decide (popc (rmb pr sl mu te ro n) < popc n)) 7 i).2) else (if (popc i : Nat) ≤ (popc (rmb pr sl mu te ro i) : Nat) then ((bst (fun n => decide (popc (rmb pr sl mu te ro n) < popc n)) 7 i).2) else (popc i))) → ∀ ls : Array Slot, lv_has ls 5 [(0, .ref (sa 0)), (1, .int (zI z8)), (2, .int (zI ((z9 : Nat) : Int))), (3, .int (zI ((i : Nat) : Int))), (4, .int (zI ((popc i : Nat) : Int)))] → W p l e rm_X8_crowd s m args below meth c s.heap [] 0 0 Q (F0 m 52 ls []) := by
          intro z8 ez8 z9 ez9 ls hl
          subst ez8
          subst ez9
          refine z_iinc (r := ((i + 1 : Nat) : Int)) (lv' := [(3, .int (zI ((i + 1 : Nat) : Int))), (0, .ref (sa 0)), (1, .int (zI (if ((bst (fun n => decide (popc (rmb pr sl mu te ro n) < popc n)) 7 i).2 : Nat) ≤ (popc i : Nat) then ((bst (fun n => decide (popc (rmb pr sl mu te ro n) < popc n)) 7 i).1) else (if (popc i : Nat) ≤ (popc (rmb pr sl mu te ro i) : Nat) then ((bst (fun n => decide (popc (rmb pr sl mu te ro n) < popc n)) 7 i).1) else ((i : Nat) : Int))))), (2, .int (zI (((if ((bst (fun n => decide (popc (rmb pr sl mu te ro n) < popc n)) 7 i).2 : Nat) ≤ (popc i : Nat) then ((bst (fun n => decide (popc (rmb pr sl mu te ro n) < popc n)) 7 i).2) else (if (popc i : Nat) ≤ (popc (rmb pr sl mu te ro i) : Nat) then ((bst (fun n => decide (popc (rmb pr sl mu te ro n) < popc n)) 7 i).2) else (popc i))) : Nat) : Int))), (4, .int (zI ((popc i : Nat) : Int)))]) hx hb (by omega) dX8_crowd_52 hl (k := 3) rfl (by decide) rfl (fun ls hl => ?_)
          refine lv_goto (tgt := 8) hx hb dX8_crowd_55 (by decide) ?_
          exact ih8 (i + 1) (by omega) (by omega) (if ((bst (fun n => decide (popc (rmb pr sl mu te ro n) < popc n)) 7 i).2 : Nat) ≤ (popc i : Nat) then ((bst (fun n => decide (popc (rmb pr sl mu te ro n) < popc n)) 7 i).1) else (if (popc i : Nat) ≤ (popc (rmb pr sl mu te ro i) : Nat) then ((bst (fun n => decide (popc (rmb pr sl mu te ro n) < popc n)) 7 i).1) else ((i : Nat) : Int))) (by rw [bst_s]; simp only [decide_eq_true_eq]; (repeat' split) <;> first | rfl | omega) (((if ((bst (fun n => decide (popc (rmb pr sl mu te ro n) < popc n)) 7 i).2 : Nat) ≤ (popc i : Nat) then ((bst (fun n => decide (popc (rmb pr sl mu te ro n) < popc n)) 7 i).2) else (if (popc i : Nat) ≤ (popc (rmb pr sl mu te ro i) : Nat) then ((bst (fun n => decide (popc (rmb pr sl mu te ro n) < popc n)) 7 i).2) else (popc i))) : Nat) : Int) (by rw [bst_s]; simp only [decide_eq_true_eq]; (repeat' split) <;> first | rfl | omega) ((i + 1 : Nat) : Int) (by first | rfl | omega) ls (lv_sub hl [1, 2, 3, 0] rfl)
        refine z_icmp_ge (tgt := 52) hx hb ⟨by omega, by omega⟩ ⟨by omega, by omega⟩ dX8_crowd_28 (by decide) (fun c4 => ?_) (fun c4 => ?_)
        · have c4 : ((bst (fun n => decide (popc (rmb pr sl mu te ro n) < popc n)) 7 i).2 : Nat) ≤ (popc i : Nat) := by omega
          exact J10 ((bst (fun n => decide (popc (rmb pr sl mu te ro n) < popc n)) 7 i).1) (by rw [if_pos c4]) ((bst (fun n => decide (popc (rmb pr sl mu te ro n) < popc n)) 7 i).2) (by rw [if_pos c4]) ls (lv_sub hl [1, 2, 3, 4, 0] rfl)
        · have c4 : ¬ (((bst (fun n => decide (popc (rmb pr sl mu te ro n) < popc n)) 7 i).2 : Nat) ≤ (popc i : Nat)) := by omega
          refine lv_aload_n hx hb dX8_crowd_31 rfl (lv_at hl 1 rfl) ?_
          refine va_get (D := D) (ci := 8) (v := .ref (h 0)) (C := RX8) (T := TX8) (N := 11) hx hb hts hinX8 hown hK hP 0 rfl rfl 1 (by decide) (hts (.fieldLink RX8 19 "SilentRent" "built" "LSilentRent$House;") (List.mem_of_getElem? (i := 1) rfl)) (fun _ h9 => h9) rfl dX8_crowd_32 ?_
          refine lv_iload_n hx hb dX8_crowd_35 rfl (lv_at hl 4 rfl) ?_
          have hPc5 := hP.sub (ws' := [((h 0), .inr (2, [.int (zI ((ro : Nat) : Int)), .int (zI ((te : Nat) : Int)), .int (zI ((ch : Nat) : Int)), .ref (h 1), .ref (h 2), .ref (h 3), .ref (h 4), .ref (h 5), .ref (h 6), .ref (h 7)])), ((h 1), .inl (cy 0, 6, .inl (zA pr))), ((h 2), .inl (cy 0, 6, .inl (zA sl))), ((h 3), .inl (cy 0, 6, .inl (zA mu))), ((h 4), .inl (cy 0, 6, .inl (zA wi))), ((h 5), .inl (cy 0, 6, .inl (zA ak))), ((h 6), .inl (cy 0, 6, .inl (zA (fun j => ((he j : Nat) : Int))))), ((h 7), .inl (cy 0, 5, .inl (zA (fun j => ((li j : Nat) : Int)))))]) [1, 2, 3, 4, 5, 6, 7, 8] rfl
          refine zr_callV (rest := []) (As := [.int (zI ((i : Nat) : Int))]) (v := ((rmb pr sl mu te ro i : Nat) : Int)) ⟨hx, hb, hml, hown, hts⟩ (c_X2_roomsMetBy l D cy h ro te ch pr sl mu wi ak he li i (by omega) (by omega) (by omega) hHB) (cwV 1 hts gX8_crowd_X2_roomsMetBy rfl rfl rfl (by decide +kernel) ⟨Nat.le_of_ble_eq_true rfl, Nat.le_of_ble_eq_true rfl⟩) hK hPc5 0 2 rfl rfl rfl hl.1 rfl (Nat.le_of_ble_eq_true rfl) dX8_crowd_36 ⟨Nat.zero_le _, Nat.zero_le _⟩ ?_
          have hPc6 := hP.sub (ws' := []) [] rfl
          refine zr_callS (rest := []) (As := [.int (zI ((rmb pr sl mu te ro i : Nat) : Int))]) (v := ((popc (rmb pr sl mu te ro i) : Nat) : Int)) (wd := []) ⟨hx, hb, hml, hown, hts⟩ (c_J6_bitCount_0f7a4 l D cy (rmb pr sl mu te ro i) (by omega)) (va_cwS 1 hts gX8_crowd_J6_bitCount_0f7a4 rfl rfl rfl (by decide +kernel) ⟨Nat.le_of_ble_eq_true rfl, Nat.le_of_ble_eq_true rfl⟩) hK (fun k q h => by cases h) rfl hl.1 rfl (Nat.le_of_ble_eq_true rfl) dX8_crowd_39 ⟨Nat.zero_le _, Nat.zero_le _⟩ ?_
          refine lv_iload hx hb dX8_crowd_42 (lv_at hl 0 rfl) ?_
          refine z_icmp_ge (tgt := 52) hx hb ⟨by omega, by omega⟩ ⟨by omega, by omega⟩ dX8_crowd_44 (by decide) (fun c7 => ?_) (fun c7 => ?_)
          · have c7 : (popc i : Nat) ≤ (popc (rmb pr sl mu te ro i) : Nat) := by omega
            exact J10 ((bst (fun n => decide (popc (rmb pr sl mu te ro n) < popc n)) 7 i).1) (by rw [if_neg c4, if_pos c7]) ((bst (fun n => decide (popc (rmb pr sl mu te ro n) < popc n)) 7 i).2) (by rw [if_neg c4, if_pos c7]) ls (lv_sub hl [1, 2, 3, 4, 0] rfl)
          · have c7 : ¬ ((popc i : Nat) ≤ (popc (rmb pr sl mu te ro i) : Nat)) := by omega
            refine lv_iload_n hx hb dX8_crowd_47 rfl (lv_at hl 4 rfl) ?_
            refine lv_istore_n (lv' := [(1, .int (zI ((i : Nat) : Int))), (4, .int (zI ((popc i : Nat) : Int))), (0, .ref (sa 0)), (2, .int (zI (((bst (fun n => decide (popc (rmb pr sl mu te ro n) < popc n)) 7 i).2 : Nat) : Int))), (3, .int (zI ((i : Nat) : Int)))]) hx hb dX8_crowd_48 rfl hl (by decide) rfl (fun ls hl => ?_)
            refine lv_iload hx hb dX8_crowd_49 (lv_at hl 1 rfl) ?_
            refine lv_istore_n (lv' := [(2, .int (zI ((popc i : Nat) : Int))), (1, .int (zI ((i : Nat) : Int))), (4, .int (zI ((popc i : Nat) : Int))), (0, .ref (sa 0)), (3, .int (zI ((i : Nat) : Int)))]) hx hb dX8_crowd_51 rfl hl (by decide) rfl (fun ls hl => ?_)
            exact J10 ((i : Nat) : Int) (by rw [if_neg c4, if_neg c7]) (popc i) (by rw [if_neg c4, if_neg c7]) ls (lv_sub hl [3, 1, 0, 4, 2] rfl)
  exact loop8 ((2 ^ te - 1) + 1) 1 (by omega) (by omega) (-9) (by rw [bst_s]; simp [popc, bst]) 7 (by rw [bst_s]; simp [popc, bst]) 1 (by first | rfl | omega | simp) ls (lv_sub hl [3, 2, 1, 0] rfl)
abbrev rm_X8_spare : Room := { frames := 3, cells := 0, slots := 0, locals := 64 }
set_option maxHeartbeats 4000000 in
set_option maxRecDepth 100000 in
theorem c_X8_spare (l : Launch) (D : va_G) (cy : Nat → ClassId) (sa : Nat → Nat) (rTx : Nat) (rDr : Nat) (rPa : Nat) (rIm : Nat) (rBk : Nat) (rHo : Nat) (rFi : Nat) (rGr : Nat) (tr : Int) (h : Nat → Nat) (ro : Nat) (te : Nat) (ch : Nat) (pr : Nat → Int) (sl : Nat → Int) (mu : Nat → Int) (wi : Nat → Int) (ak : Nat → Int) (he : Nat → Nat) (li : Nat → Nat) (na : Nat → Nat) (day : Int) (hm : Nat → Int) (tk : Nat → Int) (py : Nat → Int) (db : Nat → Int) (t : Int) (ht0 : inR t) (hro : ro ≤ 6) (hte : te ≤ 6) (hHB : HB pr sl mu wi ak he li) (hNB : NB hm tk py db) : Met l yX8_spare wsX8_spare rm_X8_spare (pR D cy [((sa 0), .inr (8, [.ref rTx, .ref (h 0), .ref rDr, .ref (na 0), .ref rPa, .ref rIm, .ref rBk, .ref rHo, .ref rFi, .ref rGr, .long (zL tr)])), ((h 0), .inr (2, [.int (zI ((ro : Nat) : Int)), .int (zI ((te : Nat) : Int)), .int (zI ((ch : Nat) : Int)), .ref (h 1), .ref (h 2), .ref (h 3), .ref (h 4), .ref (h 5), .ref (h 6), .ref (h 7)])), ((h 1), .inl (cy 0, 6, .inl (zA pr))), ((h 2), .inl (cy 0, 6, .inl (zA sl))), ((h 3), .inl (cy 0, 6, .inl (zA mu))), ((h 4), .inl (cy 0, 6, .inl (zA wi))), ((h 5), .inl (cy 0, 6, .inl (zA ak))), ((h 6), .inl (cy 0, 6, .inl (zA (fun j => ((he j : Nat) : Int))))), ((h 7), .inl (cy 0, 5, .inl (zA (fun j => ((li j : Nat) : Int))))), ((na 0), .inr (5, [.int (zI day), .ref (na 1), .ref (na 2), .ref (na 3), .ref (na 4)])), ((na 1), .inl (cy 0, 6, .inl (zA hm))), ((na 2), .inl (cy 0, 6, .inl (zA tk))), ((na 3), .inl (cy 0, 6, .inl (zA py))), ((na 4), .inl (cy 0, 6, .inl (zA db)))] [.ref (sa 0), .int (zI t)]) (qR (if 0 ≤ t ∧ t < (te : Int) then spr hm pr sl mu ro t.toNat else -1000000)) 0 0 (fun _ => False) := by
  refine met_R (cc := cX8_spare) (maxL := 2) (ret := (some .int)) RX8 (by decide) rfl rfl (Nat.le_of_ble_eq_true rfl) ?_
  intro p e s m args below meth c ls Q hx hb hr hml hts hown hlocks hQ hP hK hl
  have hl : lv_has ls 2 [(0, .ref (sa 0)), (1, .int (zI t))] := hl
  have hinX8 : ∀ w ∈ wsX80, w ∈ wsX8_spare := (fun w h => List.mem_cons_of_mem _ (List.mem_append_left _ (List.mem_append_left _ (List.mem_append_right _ h))))
  refine lv_aload_n hx hb dX8_spare_0 rfl (lv_at hl 0 rfl) ?_
  refine va_get (D := D) (ci := 8) (v := .ref (h 0)) (C := RX8) (T := TX8) (N := 11) hx hb hts hinX8 hown hK hP 0 rfl rfl 1 (by decide) (hts (.fieldLink RX8 19 "SilentRent" "built" "LSilentRent$House;") (List.mem_of_getElem? (i := 1) rfl)) (fun _ h9 => h9) rfl dX8_spare_1 ?_
  refine lv_iload_n hx hb dX8_spare_4 rfl (lv_at hl 1 rfl) ?_
  have hPc1 := hP.sub (ws' := [((h 0), .inr (2, [.int (zI ((ro : Nat) : Int)), .int (zI ((te : Nat) : Int)), .int (zI ((ch : Nat) : Int)), .ref (h 1), .ref (h 2), .ref (h 3), .ref (h 4), .ref (h 5), .ref (h 6), .ref (h 7)])), ((h 1), .inl (cy 0, 6, .inl (zA pr))), ((h 2), .inl (cy 0, 6, .inl (zA sl))), ((h 3), .inl (cy 0, 6, .inl (zA mu))), ((h 4), .inl (cy 0, 6, .inl (zA wi))), ((h 5), .inl (cy 0, 6, .inl (zA ak))), ((h 6), .inl (cy 0, 6, .inl (zA (fun j => ((he j : Nat) : Int))))), ((h 7), .inl (cy 0, 5, .inl (zA (fun j => ((li j : Nat) : Int)))))]) [1, 2, 3, 4, 5, 6, 7, 8] rfl
  refine zr_callV (rest := []) (As := [.int (zI t)]) (v := (if 0 ≤ t ∧ t < ((te : Nat) : Int) then 1 else 0)) ⟨hx, hb, hml, hown, hts⟩ (c_X2_hasTenant l D cy h ro te ch pr sl mu wi ak he li t (by omega) (by omega)) (cwV 1 hts gX8_spare_X2_hasTenant rfl rfl rfl (by decide +kernel) ⟨Nat.le_of_ble_eq_true rfl, Nat.le_of_ble_eq_true rfl⟩) hK hPc1 0 2 rfl rfl rfl hl.1 rfl (Nat.le_of_ble_eq_true rfl) dX8_spare_5 ⟨Nat.zero_le _, Nat.zero_le _⟩ ?_
  refine z_if_eq (tgt := 19) hx hb bo_r dX8_spare_8 (by decide) (fun c2 => ?_) (fun c2 => ?_)
  · have c2 := bo_f c2
    refine lv_ldc (v := zI (-1000000)) hx hb hown (hts (.constant RX8 219 (-1000000)) (List.mem_of_getElem? (i := 2) rfl)) dX8_spare_19 ?_
    exact zr_iret hx hb hr hlocks hQ (by first | exact (if_pos (by omega)).symm | exact (if_neg (by omega)).symm) dX8_spare_21
  · have c2 := bo_t c2
    refine lv_aload_n hx hb dX8_spare_11 rfl (lv_at hl 0 rfl) ?_
    refine lv_iload_n hx hb dX8_spare_12 rfl (lv_at hl 1 rfl) ?_
    refine zr_callV (rest := []) (As := [.int (zI t)]) (v := (spr hm pr sl mu ro t.toNat)) ⟨hx, hb, hml, hown, hts⟩ (c_X8_spareHours l D cy sa rTx rDr rPa rIm rBk rHo rFi rGr tr h ro te ch pr sl mu wi ak he li na day hm tk py db t (by omega) (by omega) hHB hNB) (cwV 1 hts gX8_spare_X8_spareHours rfl rfl rfl (by decide +kernel) ⟨Nat.le_of_ble_eq_true rfl, Nat.le_of_ble_eq_true rfl⟩) hK hP 0 8 rfl rfl rfl hl.1 rfl (Nat.le_of_ble_eq_true rfl) dX8_spare_13 ⟨Nat.zero_le _, Nat.zero_le _⟩ ?_
    refine lv_goto (tgt := 21) hx hb dX8_spare_16 (by decide) ?_
    exact zr_iret hx hb hr hlocks hQ (by first | exact (if_pos (by omega)).symm | exact (if_neg (by omega)).symm) dX8_spare_21
abbrev rm_X8_rest : Room := { frames := 4, cells := 0, slots := 0, locals := 87 }
set_option maxHeartbeats 4000000 in
set_option maxRecDepth 100000 in
theorem c_X8_rest (l : Launch) (D : va_G) (cy : Nat → ClassId) (sa : Nat → Nat) (rTx : Nat) (rDr : Nat) (rPa : Nat) (rIm : Nat) (rBk : Nat) (rHo : Nat) (rFi : Nat) (rGr : Nat) (tr : Int) (h : Nat → Nat) (ro : Nat) (te : Nat) (ch : Nat) (pr : Nat → Int) (sl : Nat → Int) (mu : Nat → Int) (wi : Nat → Int) (ak : Nat → Int) (he : Nat → Nat) (li : Nat → Nat) (na : Nat → Nat) (day : Int) (hm : Nat → Int) (tk : Nat → Int) (py : Nat → Int) (db : Nat → Int) (what : Int) (hw0 : inR what) (hro : ro ≤ 6) (hte : te ≤ 6) (hHB : HB pr sl mu wi ak he li) (hNB : NB hm tk py db) : Met l yX8_rest wsX8_rest rm_X8_rest (pR D cy [((sa 0), .inr (8, [.ref rTx, .ref (h 0), .ref rDr, .ref (na 0), .ref rPa, .ref rIm, .ref rBk, .ref rHo, .ref rFi, .ref rGr, .long (zL tr)])), ((h 0), .inr (2, [.int (zI ((ro : Nat) : Int)), .int (zI ((te : Nat) : Int)), .int (zI ((ch : Nat) : Int)), .ref (h 1), .ref (h 2), .ref (h 3), .ref (h 4), .ref (h 5), .ref (h 6), .ref (h 7)])), ((h 1), .inl (cy 0, 6, .inl (zA pr))), ((h 2), .inl (cy 0, 6, .inl (zA sl))), ((h 3), .inl (cy 0, 6, .inl (zA mu))), ((h 4), .inl (cy 0, 6, .inl (zA wi))), ((h 5), .inl (cy 0, 6, .inl (zA ak))), ((h 6), .inl (cy 0, 6, .inl (zA (fun j => ((he j : Nat) : Int))))), ((h 7), .inl (cy 0, 5, .inl (zA (fun j => ((li j : Nat) : Int))))), ((na 0), .inr (5, [.int (zI day), .ref (na 1), .ref (na 2), .ref (na 3), .ref (na 4)])), ((na 1), .inl (cy 0, 6, .inl (zA hm))), ((na 2), .inl (cy 0, 6, .inl (zA tk))), ((na 3), .inl (cy 0, 6, .inl (zA py))), ((na 4), .inl (cy 0, 6, .inl (zA db)))] [.ref (sa 0), .int (zI what)]) (qR (sRest hm pr sl mu ak ro te what)) 0 0 (fun _ => False) := by
  refine met_R (cc := cX8_rest) (maxL := 3) (ret := (some .int)) RX8 (by decide) rfl rfl (Nat.le_of_ble_eq_true rfl) ?_
  intro p e s m args below meth c ls Q hx hb hr hml hts hown hlocks hQ hP hK hl
  have hl : lv_has ls 3 [(0, .ref (sa 0)), (1, .int (zI what))] := hl
  refine lv_iload_n hx hb dX8_rest_0 rfl (lv_at hl 1 rfl) ?_
  refine z_if_lt (tgt := 9) hx hb ⟨by omega, by omega⟩ dX8_rest_1 (by decide) (fun c1 => ?_) (fun c1 => ?_)
  · refine lv_iconst (v := zI (-1)) hx hb dX8_rest_9 rfl ?_
    exact zr_iret hx hb hr hlocks hQ (by exact (if_neg (by omega)).symm) dX8_rest_10
  · refine lv_iload_n hx hb dX8_rest_4 rfl (lv_at hl 1 rfl) ?_
    refine lv_iconst (v := zI 1) hx hb dX8_rest_5 rfl ?_
    refine z_icmp_le (tgt := 11) hx hb ⟨by omega, by omega⟩ ⟨by omega, by omega⟩ dX8_rest_6 (by decide) (fun c2 => ?_) (fun c2 => ?_)
    · refine lv_iconst (v := zI 0) hx hb dX8_rest_11 rfl ?_
      refine lv_istore_n (lv' := [(2, .int (zI 0)), (0, .ref (sa 0)), (1, .int (zI what))]) hx hb dX8_rest_12 rfl hl (by decide) rfl (fun ls hl => ?_)
      have loop13 : ∀ (n9 : Nat) (i : Nat), 10 - i < n9 → (i ≤ 10) → (rsp hm pr sl mu ak ro te 10 0 = rsp hm pr sl mu ak ro te (10 - i) i) → ∀ (x13_2 : Int), x13_2 = ((i : Nat) : Int) → ∀ ls : Array Slot, lv_has ls 3 [(0, .ref (sa 0)), (1, .int (zI what)), (2, .int (zI x13_2))] → W p l e rm_X8_rest s m args below meth c s.heap [] 0 0 Q (F0 m 13 ls []) := by
        intro n9
        induction n9 with
        | zero => intro i h9; exact absurd h9 (Nat.not_lt_zero _)
        | succ n9 ih13 =>
          intro i hmu13 hi hq x13_2 ex13_2 ls hl
          subst ex13_2
          have hl : lv_has ls 3 [(0, .ref (sa 0)), (1, .int (zI what)), (2, .int (zI ((i : Nat) : Int)))] := hl
          have hy1 := hfs_in hHB (hm := hm) ro te (by omega) ((i : Nat) : Int)
          have hy2 := hbo_in hHB (hm := hm) ro te (by omega) ((i : Nat) : Int)
          refine lv_iload_n hx hb dX8_rest_13 rfl (lv_at hl 2 rfl) ?_
          refine lv_bipush (v := zI 10) hx hb dX8_rest_14 (by decide) ?_
          have J6 : ((((10 : Nat) ≤ (i : Nat))) ∨ ((¬ ((10 : Nat) ≤ (i : Nat))) ∧ ((hbo hm pr sl mu ak ro te ((i : Nat) : Int)) ≤ (hfs hm pr sl mu ak ro te ((i : Nat) : Int))))) → ∀ ls : Array Slot, lv_has ls 3 [(0, .ref (sa 0)), (1, .int (zI what)), (2, .int (zI ((i : Nat) : Int)))] → W p l e rm_X8_rest s m args below meth c s.heap [] 0 0 Q (F0 m 38 ls []) := by
            intro  hj5 ls hl
            refine lv_iload_n hx hb dX8_rest_38 rfl (lv_at hl 1 rfl) ?_
            refine z_if_ne (tgt := 46) hx hb ⟨by omega, by omega⟩ dX8_rest_39 (by decide) (fun c7 => ?_) (fun c7 => ?_)
            · refine lv_aload_n hx hb dX8_rest_46 rfl (lv_at hl 0 rfl) ?_
              refine lv_iload_n hx hb dX8_rest_47 rfl (lv_at hl 2 rfl) ?_
              refine zr_callV (rest := []) (As := [.int (zI ((i : Nat) : Int))]) (v := (hbo hm pr sl mu ak ro te ((i : Nat) : Int))) ⟨hx, hb, hml, hown, hts⟩ (c_X8_hoursBought l D cy sa rTx rDr rPa rIm rBk rHo rFi rGr tr h ro te ch pr sl mu wi ak he li na day hm tk py db ((i : Nat) : Int) (by omega) (by omega) (by omega) hHB hNB) (cwV 1 hts gX8_rest_X8_hoursBought rfl rfl rfl (by decide +kernel) ⟨Nat.le_of_ble_eq_true rfl, Nat.le_of_ble_eq_true rfl⟩) hK hP 0 8 rfl rfl rfl hl.1 rfl (Nat.le_of_ble_eq_true rfl) dX8_rest_48 ⟨Nat.zero_le _, Nat.zero_le _⟩ ?_
              exact zr_iret hx hb hr hlocks hQ (by unfold sRest; rw [if_pos (show 0 ≤ what ∧ what ≤ 1 by omega)]; have hr9 : rsp hm pr sl mu ak ro te 10 0 = i := (by rw [hq]; by_cases h10 : i = 10; (rw [show 10 - i = 0 from by omega]; rfl); (rw [show 10 - i = (10 - (i + 1)) + 1 from by omega, rsp_s, if_pos (by omega)])); rw [hr9]; first | exact (if_pos (by omega)).symm | exact (if_neg (by omega)).symm) dX8_rest_51
            · refine lv_iload_n hx hb dX8_rest_42 rfl (lv_at hl 2 rfl) ?_
              refine lv_goto (tgt := 51) hx hb dX8_rest_43 (by decide) ?_
              exact zr_iret hx hb hr hlocks hQ (by unfold sRest; rw [if_pos (show 0 ≤ what ∧ what ≤ 1 by omega)]; have hr9 : rsp hm pr sl mu ak ro te 10 0 = i := (by rw [hq]; by_cases h10 : i = 10; (rw [show 10 - i = 0 from by omega]; rfl); (rw [show 10 - i = (10 - (i + 1)) + 1 from by omega, rsp_s, if_pos (by omega)])); rw [hr9]; first | exact (if_pos (by omega)).symm | exact (if_neg (by omega)).symm) dX8_rest_51
          refine z_icmp_ge (tgt := 38) hx hb ⟨by omega, by omega⟩ ⟨by omega, by omega⟩ dX8_rest_16 (by decide) (fun c3 => ?_) (fun c3 => ?_)
          · have c3 : (10 : Nat) ≤ (i : Nat) := by omega
            exact J6 (Or.inl c3) ls (lv_sub hl [0, 1, 2] rfl)
          · have c3 : ¬ ((10 : Nat) ≤ (i : Nat)) := by omega
            refine lv_aload_n hx hb dX8_rest_19 rfl (lv_at hl 0 rfl) ?_
            refine lv_iload_n hx hb dX8_rest_20 rfl (lv_at hl 2 rfl) ?_
            refine zr_callV (rest := []) (As := [.int (zI ((i : Nat) : Int))]) (v := (hfs hm pr sl mu ak ro te ((i : Nat) : Int))) ⟨hx, hb, hml, hown, hts⟩ (c_X8_hoursForSale l D cy sa rTx rDr rPa rIm rBk rHo rFi rGr tr h ro te ch pr sl mu wi ak he li na day hm tk py db ((i : Nat) : Int) (by omega) (by omega) (by omega) hHB hNB) (cwV 1 hts gX8_rest_X8_hoursForSale rfl rfl rfl (by decide +kernel) ⟨Nat.le_of_ble_eq_true rfl, Nat.le_of_ble_eq_true rfl⟩) hK hP 0 8 rfl rfl rfl hl.1 rfl (Nat.le_of_ble_eq_true rfl) dX8_rest_21 ⟨Nat.zero_le _, Nat.zero_le _⟩ ?_
            refine lv_aload_n hx hb dX8_rest_24 rfl (lv_at hl 0 rfl) ?_
            refine lv_iload_n hx hb dX8_rest_25 rfl (lv_at hl 2 rfl) ?_
            refine zr_callV (rest := [.int (zI (hfs hm pr sl mu ak ro te ((i : Nat) : Int)))]) (As := [.int (zI ((i : Nat) : Int))]) (v := (hbo hm pr sl mu ak ro te ((i : Nat) : Int))) ⟨hx, hb, hml, hown, hts⟩ (c_X8_hoursBought l D cy sa rTx rDr rPa rIm rBk rHo rFi rGr tr h ro te ch pr sl mu wi ak he li na day hm tk py db ((i : Nat) : Int) (by omega) (by omega) (by omega) hHB hNB) (cwV 1 hts gX8_rest_X8_hoursBought rfl rfl rfl (by decide +kernel) ⟨Nat.le_of_ble_eq_true rfl, Nat.le_of_ble_eq_true rfl⟩) hK hP 0 8 rfl rfl rfl hl.1 rfl (Nat.le_of_ble_eq_true rfl) dX8_rest_26 ⟨Nat.zero_le _, Nat.zero_le _⟩ ?_
            refine z_icmp_ge (tgt := 38) hx hb ⟨by omega, by omega⟩ ⟨by omega, by omega⟩ dX8_rest_29 (by decide) (fun c4 => ?_) (fun c4 => ?_)
            · exact J6 (Or.inr ⟨c3, c4⟩) ls (lv_sub hl [0, 1, 2] rfl)
            · refine z_iinc (r := ((i + 1 : Nat) : Int)) (lv' := [(2, .int (zI ((i + 1 : Nat) : Int))), (0, .ref (sa 0)), (1, .int (zI what))]) hx hb (by omega) dX8_rest_32 hl (k := 2) rfl (by decide) rfl (fun ls hl => ?_)
              refine lv_goto (tgt := 13) hx hb dX8_rest_35 (by decide) ?_
              exact ih13 (i + 1) (by omega) (by omega) (by rw [hq, show 10 - i = (10 - (i + 1)) + 1 from by omega, rsp_s, if_neg (by omega)]) ((i + 1 : Nat) : Int) (by first | rfl | omega) ls (lv_sub hl [1, 2, 0] rfl)
      exact loop13 ((10 - 0) + 1) 0 (by omega) (by omega) rfl 0 (by first | rfl | omega | simp) ls (lv_sub hl [1, 2, 0] rfl)
    · refine lv_iconst (v := zI (-1)) hx hb dX8_rest_9 rfl ?_
      exact zr_iret hx hb hr hlocks hQ (by exact (if_neg (by omega)).symm) dX8_rest_10
abbrev rm_X8_settled : Room := { frames := 2, cells := 0, slots := 0, locals := 46 }
set_option maxHeartbeats 4000000 in
set_option maxRecDepth 100000 in
theorem c_X8_settled (l : Launch) (D : va_G) (cy : Nat → ClassId) (sa : Nat → Nat) (rTx : Nat) (rDr : Nat) (rPa : Nat) (rIm : Nat) (rBk : Nat) (rHo : Nat) (rFi : Nat) (rGr : Nat) (tr : Int) (h : Nat → Nat) (ro : Nat) (te : Nat) (ch : Nat) (pr : Nat → Int) (sl : Nat → Int) (mu : Nat → Int) (wi : Nat → Int) (ak : Nat → Int) (he : Nat → Nat) (li : Nat → Nat) (na : Nat → Nat) (day : Int) (hm : Nat → Int) (tk : Nat → Int) (py : Nat → Int) (db : Nat → Int) (t : Int) (ht0 : inR t) (hte : te ≤ 6) (hHB : HB pr sl mu wi ak he li) (hNB : NB hm tk py db) : Met l yX8_settled wsX8_settled rm_X8_settled (pR D cy [((sa 0), .inr (8, [.ref rTx, .ref (h 0), .ref rDr, .ref (na 0), .ref rPa, .ref rIm, .ref rBk, .ref rHo, .ref rFi, .ref rGr, .long (zL tr)])), ((h 0), .inr (2, [.int (zI ((ro : Nat) : Int)), .int (zI ((te : Nat) : Int)), .int (zI ((ch : Nat) : Int)), .ref (h 1), .ref (h 2), .ref (h 3), .ref (h 4), .ref (h 5), .ref (h 6), .ref (h 7)])), ((h 1), .inl (cy 0, 6, .inl (zA pr))), ((h 2), .inl (cy 0, 6, .inl (zA sl))), ((h 3), .inl (cy 0, 6, .inl (zA mu))), ((h 4), .inl (cy 0, 6, .inl (zA wi))), ((h 5), .inl (cy 0, 6, .inl (zA ak))), ((h 6), .inl (cy 0, 6, .inl (zA (fun j => ((he j : Nat) : Int))))), ((h 7), .inl (cy 0, 5, .inl (zA (fun j => ((li j : Nat) : Int))))), ((na 0), .inr (5, [.int (zI day), .ref (na 1), .ref (na 2), .ref (na 3), .ref (na 4)])), ((na 1), .inl (cy 0, 6, .inl (zA hm))), ((na 2), .inl (cy 0, 6, .inl (zA tk))), ((na 3), .inl (cy 0, 6, .inl (zA py))), ((na 4), .inl (cy 0, 6, .inl (zA db)))] [.ref (sa 0), .int (zI t)]) (qR (if 0 ≤ t ∧ t < (te : Int) then lsh db te t.toNat else -1000000)) 0 0 (fun _ => False) := by
  refine met_R (cc := cX8_settled) (maxL := 2) (ret := (some .int)) RX8 (by decide) rfl rfl (Nat.le_of_ble_eq_true rfl) ?_
  intro p e s m args below meth c ls Q hx hb hr hml hts hown hlocks hQ hP hK hl
  have hl : lv_has ls 2 [(0, .ref (sa 0)), (1, .int (zI t))] := hl
  have hinX8 : ∀ w ∈ wsX80, w ∈ wsX8_settled := (fun w h => List.mem_cons_of_mem _ (List.mem_append_left _ (List.mem_append_left _ (List.mem_append_right _ h))))
  refine lv_aload_n hx hb dX8_settled_0 rfl (lv_at hl 0 rfl) ?_
  refine va_get (D := D) (ci := 8) (v := .ref (h 0)) (C := RX8) (T := TX8) (N := 11) hx hb hts hinX8 hown hK hP 0 rfl rfl 1 (by decide) (hts (.fieldLink RX8 19 "SilentRent" "built" "LSilentRent$House;") (List.mem_of_getElem? (i := 1) rfl)) (fun _ h9 => h9) rfl dX8_settled_1 ?_
  refine lv_iload_n hx hb dX8_settled_4 rfl (lv_at hl 1 rfl) ?_
  have hPc1 := hP.sub (ws' := [((h 0), .inr (2, [.int (zI ((ro : Nat) : Int)), .int (zI ((te : Nat) : Int)), .int (zI ((ch : Nat) : Int)), .ref (h 1), .ref (h 2), .ref (h 3), .ref (h 4), .ref (h 5), .ref (h 6), .ref (h 7)])), ((h 1), .inl (cy 0, 6, .inl (zA pr))), ((h 2), .inl (cy 0, 6, .inl (zA sl))), ((h 3), .inl (cy 0, 6, .inl (zA mu))), ((h 4), .inl (cy 0, 6, .inl (zA wi))), ((h 5), .inl (cy 0, 6, .inl (zA ak))), ((h 6), .inl (cy 0, 6, .inl (zA (fun j => ((he j : Nat) : Int))))), ((h 7), .inl (cy 0, 5, .inl (zA (fun j => ((li j : Nat) : Int)))))]) [1, 2, 3, 4, 5, 6, 7, 8] rfl
  refine zr_callV (rest := []) (As := [.int (zI t)]) (v := (if 0 ≤ t ∧ t < ((te : Nat) : Int) then 1 else 0)) ⟨hx, hb, hml, hown, hts⟩ (c_X2_hasTenant l D cy h ro te ch pr sl mu wi ak he li t (by omega) (by omega)) (cwV 1 hts gX8_settled_X2_hasTenant rfl rfl rfl (by decide +kernel) ⟨Nat.le_of_ble_eq_true rfl, Nat.le_of_ble_eq_true rfl⟩) hK hPc1 0 2 rfl rfl rfl hl.1 rfl (Nat.le_of_ble_eq_true rfl) dX8_settled_5 ⟨Nat.zero_le _, Nat.zero_le _⟩ ?_
  refine z_if_eq (tgt := 19) hx hb bo_r dX8_settled_8 (by decide) (fun c2 => ?_) (fun c2 => ?_)
  · have c2 := bo_f c2
    refine lv_ldc (v := zI (-1000000)) hx hb hown (hts (.constant RX8 219 (-1000000)) (List.mem_of_getElem? (i := 2) rfl)) dX8_settled_19 ?_
    exact zr_iret hx hb hr hlocks hQ (by first | exact (if_pos (by omega)).symm | exact (if_neg (by omega)).symm) dX8_settled_21
  · have c2 := bo_t c2
    refine lv_aload_n hx hb dX8_settled_11 rfl (lv_at hl 0 rfl) ?_
    refine lv_iload_n hx hb dX8_settled_12 rfl (lv_at hl 1 rfl) ?_
    refine zr_callV (rest := []) (As := [.int (zI t)]) (v := (lsh db te t.toNat)) ⟨hx, hb, hml, hown, hts⟩ (c_X8_lackingShare l D cy sa rTx rDr rPa rIm rBk rHo rFi rGr tr h ro te ch pr sl mu wi ak he li na day hm tk py db t (by omega) (by omega) hNB) (cwV 1 hts gX8_settled_X8_lackingShare rfl rfl rfl (by decide +kernel) ⟨Nat.le_of_ble_eq_true rfl, Nat.le_of_ble_eq_true rfl⟩) hK hP 0 8 rfl rfl rfl hl.1 rfl (Nat.le_of_ble_eq_true rfl) dX8_settled_13 ⟨Nat.zero_le _, Nat.zero_le _⟩ ?_
    refine lv_goto (tgt := 21) hx hb dX8_settled_16 (by decide) ?_
    exact zr_iret hx hb hr hlocks hQ (by first | exact (if_pos (by omega)).symm | exact (if_neg (by omega)).symm) dX8_settled_21
abbrev rm_X8_allKnow : Room := { frames := 1, cells := 0, slots := 0, locals := 23 }
set_option maxHeartbeats 4000000 in
set_option maxRecDepth 100000 in
theorem c_X8_allKnow (l : Launch) (D : va_G) (cy : Nat → ClassId) (sa : Nat → Nat) (rTx : Nat) (rDr : Nat) (rNo : Nat) (rPa : Nat) (rIm : Nat) (rBk : Nat) (rHo : Nat) (rFi : Nat) (rGr : Nat) (tr : Int) (h : Nat → Nat) (ro : Nat) (te : Nat) (ch : Nat) (pr : Nat → Int) (sl : Nat → Int) (mu : Nat → Int) (wi : Nat → Int) (ak : Nat → Int) (he : Nat → Nat) (li : Nat → Nat) (t : Int) (tl : Nat) (ht0 : 0 ≤ t ∧ t < 6) (htl : tl < 64) (hte : te ≤ 6) (hHB : HB pr sl mu wi ak he li) : Met l yX8_allKnow wsX8_allKnow rm_X8_allKnow (pR D cy [((sa 0), .inr (8, [.ref rTx, .ref (h 0), .ref rDr, .ref rNo, .ref rPa, .ref rIm, .ref rBk, .ref rHo, .ref rFi, .ref rGr, .long (zL tr)])), ((h 0), .inr (2, [.int (zI ((ro : Nat) : Int)), .int (zI ((te : Nat) : Int)), .int (zI ((ch : Nat) : Int)), .ref (h 1), .ref (h 2), .ref (h 3), .ref (h 4), .ref (h 5), .ref (h 6), .ref (h 7)])), ((h 1), .inl (cy 0, 6, .inl (zA pr))), ((h 2), .inl (cy 0, 6, .inl (zA sl))), ((h 3), .inl (cy 0, 6, .inl (zA mu))), ((h 4), .inl (cy 0, 6, .inl (zA wi))), ((h 5), .inl (cy 0, 6, .inl (zA ak))), ((h 6), .inl (cy 0, 6, .inl (zA (fun j => ((he j : Nat) : Int))))), ((h 7), .inl (cy 0, 5, .inl (zA (fun j => ((li j : Nat) : Int)))))] [.ref (sa 0), .int (zI t), .int (zI ((tl : Nat) : Int))]) (qR (if knw he te tl t.toNat te = 2 ^ te - 1 then 1 else 0)) 0 0 (fun _ => False) := by
  refine met_R (cc := cX8_allKnow) (maxL := 5) (ret := (some .boolean)) RX8 (by decide) rfl rfl (Nat.le_of_ble_eq_true rfl) ?_
  intro p e s m args below meth c ls Q hx hb hr hml hts hown hlocks hQ hP hK hl
  have hl : lv_has ls 5 [(0, .ref (sa 0)), (1, .int (zI t)), (2, .int (zI ((tl : Nat) : Int)))] := hl
  have hinX2 : ∀ w ∈ wsX20, w ∈ wsX8_allKnow := (fun w h => List.mem_cons_of_mem _ (List.mem_append_right _ h))
  have hinX8 : ∀ w ∈ wsX80, w ∈ wsX8_allKnow := (fun w h => List.mem_cons_of_mem _ (List.mem_append_left _ (List.mem_append_right _ h)))
  have hpw := pow_le64 te (by omega)
  refine lv_iconst (v := zI 1) hx hb dX8_allKnow_0 rfl ?_
  refine lv_iload_n hx hb dX8_allKnow_1 rfl (lv_at hl 1 rfl) ?_
  have hp1 := pow_le3 t.toNat (by omega)
  refine z_ishl (r := ((2 ^ t.toNat : Nat) : Int)) hx hb (by rw [show t = ((t.toNat : Nat) : Int) from by omega]; exact zI_shl1 t.toNat (by omega)) dX8_allKnow_2 ?_
  refine lv_istore_n (lv' := [(3, .int (zI ((2 ^ t.toNat : Nat) : Int))), (0, .ref (sa 0)), (1, .int (zI t)), (2, .int (zI ((tl : Nat) : Int)))]) hx hb dX8_allKnow_3 rfl hl (by decide) rfl (fun ls hl => ?_)
  refine lv_iconst (v := zI 0) hx hb dX8_allKnow_4 rfl ?_
  refine lv_istore (lv' := [(4, .int (zI 0)), (3, .int (zI ((2 ^ t.toNat : Nat) : Int))), (0, .ref (sa 0)), (1, .int (zI t)), (2, .int (zI ((tl : Nat) : Int)))]) hx hb dX8_allKnow_5 hl (by decide) rfl (fun ls hl => ?_)
  have loop7 : ∀ (n9 : Nat) (i : Nat), te - i < n9 → (i ≤ te) → ∀ (x7_3 : Int), x7_3 = ((knw he te tl t.toNat i : Nat) : Int) → ∀ (x7_4 : Int), x7_4 = ((i : Nat) : Int) → ∀ ls : Array Slot, lv_has ls 5 [(0, .ref (sa 0)), (1, .int (zI t)), (2, .int (zI ((tl : Nat) : Int))), (3, .int (zI x7_3)), (4, .int (zI x7_4))] → W p l e rm_X8_allKnow s m args below meth c s.heap [] 0 0 Q (F0 m 7 ls []) := by
    intro n9
    induction n9 with
    | zero => intro i h9; exact absurd h9 (Nat.not_lt_zero _)
    | succ n9 ih7 =>
      intro i hmu7 hi x7_3 ex7_3 x7_4 ex7_4 ls hl
      subst ex7_3
      subst ex7_4
      have hl : lv_has ls 5 [(0, .ref (sa 0)), (1, .int (zI t)), (2, .int (zI ((tl : Nat) : Int))), (3, .int (zI ((knw he te tl t.toNat i : Nat) : Int))), (4, .int (zI ((i : Nat) : Int)))] := hl
      have hf1 := knw_lt64 he te tl t.toNat (by omega) (by omega) i
      have hf2 := hrs_lt64 he te (knw he te tl t.toNat i &&& tl) (by omega)
      refine lv_iload hx hb dX8_allKnow_7 (lv_at hl 4 rfl) ?_
      refine lv_aload_n hx hb dX8_allKnow_9 rfl (lv_at hl 0 rfl) ?_
      refine va_get (D := D) (ci := 8) (v := .ref (h 0)) (C := RX8) (T := TX8) (N := 11) hx hb hts hinX8 hown hK hP 0 rfl rfl 1 (by decide) (hts (.fieldLink RX8 19 "SilentRent" "built" "LSilentRent$House;") (List.mem_of_getElem? (i := 1) rfl)) (fun _ h9 => h9) rfl dX8_allKnow_10 ?_
      refine va_get (D := D) (ci := 2) (v := .int (zI ((te : Nat) : Int))) (C := RX2) (T := TX2) (N := 10) hx hb hts hinX2 hown hK hP 1 rfl rfl 1 (by decide) (hts (.fieldLink RX8 161 "SilentRent$House" "tenants" "I") (List.mem_of_getElem? (i := 2) rfl)) (fun _ h9 => h9) rfl dX8_allKnow_13 ?_
      refine z_icmp_ge (tgt := 38) hx hb ⟨by omega, by omega⟩ ⟨by omega, by omega⟩ dX8_allKnow_16 (by decide) (fun c2 => ?_) (fun c2 => ?_)
      · have c2 : (te : Nat) ≤ (i : Nat) := by omega
        refine lv_iload_n hx hb dX8_allKnow_38 rfl (lv_at hl 3 rfl) ?_
        refine lv_aload_n hx hb dX8_allKnow_39 rfl (lv_at hl 0 rfl) ?_
        refine va_get (D := D) (ci := 8) (v := .ref (h 0)) (C := RX8) (T := TX8) (N := 11) hx hb hts hinX8 hown hK hP 0 rfl rfl 1 (by decide) (hts (.fieldLink RX8 19 "SilentRent" "built" "LSilentRent$House;") (List.mem_of_getElem? (i := 1) rfl)) (fun _ h9 => h9) rfl dX8_allKnow_40 ?_
        have hPc3 := hP.sub (ws' := [((h 0), .inr (2, [.int (zI ((ro : Nat) : Int)), .int (zI ((te : Nat) : Int)), .int (zI ((ch : Nat) : Int)), .ref (h 1), .ref (h 2), .ref (h 3), .ref (h 4), .ref (h 5), .ref (h 6), .ref (h 7)])), ((h 1), .inl (cy 0, 6, .inl (zA pr))), ((h 2), .inl (cy 0, 6, .inl (zA sl))), ((h 3), .inl (cy 0, 6, .inl (zA mu))), ((h 4), .inl (cy 0, 6, .inl (zA wi))), ((h 5), .inl (cy 0, 6, .inl (zA ak))), ((h 6), .inl (cy 0, 6, .inl (zA (fun j => ((he j : Nat) : Int))))), ((h 7), .inl (cy 0, 5, .inl (zA (fun j => ((li j : Nat) : Int)))))]) [1, 2, 3, 4, 5, 6, 7, 8] rfl
        refine zr_callV (rest := [.int (zI ((knw he te tl t.toNat i : Nat) : Int))]) (As := []) (v := ((2 ^ te - 1 : Nat) : Int)) ⟨hx, hb, hml, hown, hts⟩ (c_X2_everybody l D cy h ro te ch pr sl mu wi ak he li (by omega)) (cwV 0 hts gX8_allKnow_X2_everybody rfl rfl rfl (by decide +kernel) ⟨Nat.le_of_ble_eq_true rfl, Nat.le_of_ble_eq_true rfl⟩) hK hPc3 0 2 rfl rfl rfl hl.1 rfl (Nat.le_of_ble_eq_true rfl) dX8_allKnow_43 ⟨Nat.zero_le _, Nat.zero_le _⟩ ?_
        refine z_icmp_ne (tgt := 53) hx hb ⟨by omega, by omega⟩ ⟨by omega, by omega⟩ dX8_allKnow_46 (by decide) (fun c4 => ?_) (fun c4 => ?_)
        · have c4 : ¬ ((knw he te tl t.toNat i : Nat) = (2 ^ te - 1 : Nat)) := by omega
          refine lv_iconst (v := zI 0) hx hb dX8_allKnow_53 rfl ?_
          exact zr_zret hx hb hr hlocks hQ (by have hie : i = te := (by omega); subst hie; first | exact (if_pos (by omega)).symm | exact (if_neg (by omega)).symm) (by first | omega | (split <;> omega)) dX8_allKnow_54
        · have c4 : (knw he te tl t.toNat i : Nat) = (2 ^ te - 1 : Nat) := by omega
          refine lv_iconst (v := zI 1) hx hb dX8_allKnow_49 rfl ?_
          refine lv_goto (tgt := 54) hx hb dX8_allKnow_50 (by decide) ?_
          exact zr_zret hx hb hr hlocks hQ (by have hie : i = te := (by omega); subst hie; first | exact (if_pos (by omega)).symm | exact (if_neg (by omega)).symm) (by first | omega | (split <;> omega)) dX8_allKnow_54
      · have c2 : ¬ ((te : Nat) ≤ (i : Nat)) := by omega
        refine lv_iload_n hx hb dX8_allKnow_19 rfl (lv_at hl 3 rfl) ?_
        refine lv_aload_n hx hb dX8_allKnow_20 rfl (lv_at hl 0 rfl) ?_
        refine va_get (D := D) (ci := 8) (v := .ref (h 0)) (C := RX8) (T := TX8) (N := 11) hx hb hts hinX8 hown hK hP 0 rfl rfl 1 (by decide) (hts (.fieldLink RX8 19 "SilentRent" "built" "LSilentRent$House;") (List.mem_of_getElem? (i := 1) rfl)) (fun _ h9 => h9) rfl dX8_allKnow_21 ?_
        refine lv_iload_n hx hb dX8_allKnow_24 rfl (lv_at hl 3 rfl) ?_
        refine lv_iload_n hx hb dX8_allKnow_25 rfl (lv_at hl 2 rfl) ?_
        have hq5 : (knw he te tl t.toNat i) &&& tl ≤ (knw he te tl t.toNat i) := Nat.and_le_left
        refine z_iand (r := (((knw he te tl t.toNat i) &&& tl : Nat) : Int)) hx hb (zI_and (a := knw he te tl t.toNat i) (b := tl) (by omega) (by omega)) dX8_allKnow_26 ?_
        have hPc6 := hP.sub (ws' := [((h 0), .inr (2, [.int (zI ((ro : Nat) : Int)), .int (zI ((te : Nat) : Int)), .int (zI ((ch : Nat) : Int)), .ref (h 1), .ref (h 2), .ref (h 3), .ref (h 4), .ref (h 5), .ref (h 6), .ref (h 7)])), ((h 1), .inl (cy 0, 6, .inl (zA pr))), ((h 2), .inl (cy 0, 6, .inl (zA sl))), ((h 3), .inl (cy 0, 6, .inl (zA mu))), ((h 4), .inl (cy 0, 6, .inl (zA wi))), ((h 5), .inl (cy 0, 6, .inl (zA ak))), ((h 6), .inl (cy 0, 6, .inl (zA (fun j => ((he j : Nat) : Int))))), ((h 7), .inl (cy 0, 5, .inl (zA (fun j => ((li j : Nat) : Int)))))]) [1, 2, 3, 4, 5, 6, 7, 8] rfl
        refine zr_callV (rest := [.int (zI ((knw he te tl t.toNat i : Nat) : Int))]) (As := [.int (zI (((knw he te tl t.toNat i) &&& tl : Nat) : Int))]) (v := ((hrs he te ((knw he te tl t.toNat i) &&& tl) : Nat) : Int)) ⟨hx, hb, hml, hown, hts⟩ (c_X2_hearers l D cy h ro te ch pr sl mu wi ak he li ((knw he te tl t.toNat i) &&& tl) (by omega) (by omega) hHB) (cwV 1 hts gX8_allKnow_X2_hearers rfl rfl rfl (by decide +kernel) ⟨Nat.le_of_ble_eq_true rfl, Nat.le_of_ble_eq_true rfl⟩) hK hPc6 0 2 rfl rfl rfl hl.1 rfl (Nat.le_of_ble_eq_true rfl) dX8_allKnow_27 ⟨Nat.zero_le _, Nat.zero_le _⟩ ?_
        have hq7 := or_lt64 (a := (knw he te tl t.toNat i)) (b := (hrs he te ((knw he te tl t.toNat i) &&& tl))) (by omega) (by omega)
        refine z_ior (r := (((knw he te tl t.toNat i) ||| (hrs he te ((knw he te tl t.toNat i) &&& tl)) : Nat) : Int)) hx hb (zI_or (a := knw he te tl t.toNat i) (b := hrs he te ((knw he te tl t.toNat i) &&& tl)) (by omega) (by omega)) dX8_allKnow_30 ?_
        refine lv_istore_n (lv' := [(3, .int (zI (((knw he te tl t.toNat i) ||| (hrs he te ((knw he te tl t.toNat i) &&& tl)) : Nat) : Int))), (0, .ref (sa 0)), (1, .int (zI t)), (2, .int (zI ((tl : Nat) : Int))), (4, .int (zI ((i : Nat) : Int)))]) hx hb dX8_allKnow_31 rfl hl (by decide) rfl (fun ls hl => ?_)
        refine z_iinc (r := ((i + 1 : Nat) : Int)) (lv' := [(4, .int (zI ((i + 1 : Nat) : Int))), (3, .int (zI (((knw he te tl t.toNat i) ||| (hrs he te ((knw he te tl t.toNat i) &&& tl)) : Nat) : Int))), (0, .ref (sa 0)), (1, .int (zI t)), (2, .int (zI ((tl : Nat) : Int)))]) hx hb (by omega) dX8_allKnow_32 hl (k := 4) rfl (by decide) rfl (fun ls hl => ?_)
        refine lv_goto (tgt := 7) hx hb dX8_allKnow_35 (by decide) ?_
        exact ih7 (i + 1) (by omega) (by omega) (((knw he te tl t.toNat i) ||| (hrs he te ((knw he te tl t.toNat i) &&& tl)) : Nat) : Int) rfl ((i + 1 : Nat) : Int) (by first | rfl | omega) ls (lv_sub hl [2, 3, 4, 1, 0] rfl)
  exact loop7 ((te - 0) + 1) 0 (by omega) (by omega) ((2 ^ t.toNat : Nat) : Int) (by first | rfl | omega | simp) 0 (by first | rfl | omega | simp) ls (lv_sub hl [2, 3, 4, 1, 0] rfl)
abbrev rm_X8_told : Room := { frames := 2, cells := 0, slots := 0, locals := 47 }
set_option maxHeartbeats 4000000 in
set_option maxRecDepth 100000 in
theorem c_X8_told (l : Launch) (D : va_G) (cy : Nat → ClassId) (sa : Nat → Nat) (rTx : Nat) (rDr : Nat) (rNo : Nat) (rPa : Nat) (rIm : Nat) (rBk : Nat) (rHo : Nat) (rFi : Nat) (rGr : Nat) (tr : Int) (h : Nat → Nat) (ro : Nat) (te : Nat) (ch : Nat) (pr : Nat → Int) (sl : Nat → Int) (mu : Nat → Int) (wi : Nat → Int) (ak : Nat → Int) (he : Nat → Nat) (li : Nat → Nat) (t : Int) (ht0 : inR t) (hte : te ≤ 6) (hHB : HB pr sl mu wi ak he li) : Met l yX8_told wsX8_told rm_X8_told (pR D cy [((sa 0), .inr (8, [.ref rTx, .ref (h 0), .ref rDr, .ref rNo, .ref rPa, .ref rIm, .ref rBk, .ref rHo, .ref rFi, .ref rGr, .long (zL tr)])), ((h 0), .inr (2, [.int (zI ((ro : Nat) : Int)), .int (zI ((te : Nat) : Int)), .int (zI ((ch : Nat) : Int)), .ref (h 1), .ref (h 2), .ref (h 3), .ref (h 4), .ref (h 5), .ref (h 6), .ref (h 7)])), ((h 1), .inl (cy 0, 6, .inl (zA pr))), ((h 2), .inl (cy 0, 6, .inl (zA sl))), ((h 3), .inl (cy 0, 6, .inl (zA mu))), ((h 4), .inl (cy 0, 6, .inl (zA wi))), ((h 5), .inl (cy 0, 6, .inl (zA ak))), ((h 6), .inl (cy 0, 6, .inl (zA (fun j => ((he j : Nat) : Int))))), ((h 7), .inl (cy 0, 5, .inl (zA (fun j => ((li j : Nat) : Int)))))] [.ref (sa 0), .int (zI t)]) (qR (if 0 ≤ t ∧ t < (te : Int) then (bst (fun n => decide (knw he te n t.toNat te = 2 ^ te - 1)) 7 (2 ^ te)).1 else -1)) 0 0 (fun _ => False) := by
  refine met_R (cc := cX8_told) (maxL := 6) (ret := (some .int)) RX8 (by decide) rfl rfl (Nat.le_of_ble_eq_true rfl) ?_
  intro p e s m args below meth c ls Q hx hb hr hml hts hown hlocks hQ hP hK hl
  have hl : lv_has ls 6 [(0, .ref (sa 0)), (1, .int (zI t))] := hl
  have hinX8 : ∀ w ∈ wsX80, w ∈ wsX8_told := (fun w h => List.mem_cons_of_mem _ (List.mem_append_left _ (List.mem_append_right _ h)))
  have hpw := pow_le64 te (by omega)
  refine lv_aload_n hx hb dX8_told_0 rfl (lv_at hl 0 rfl) ?_
  refine va_get (D := D) (ci := 8) (v := .ref (h 0)) (C := RX8) (T := TX8) (N := 11) hx hb hts hinX8 hown hK hP 0 rfl rfl 1 (by decide) (hts (.fieldLink RX8 19 "SilentRent" "built" "LSilentRent$House;") (List.mem_of_getElem? (i := 1) rfl)) (fun _ h9 => h9) rfl dX8_told_1 ?_
  refine lv_iload_n hx hb dX8_told_4 rfl (lv_at hl 1 rfl) ?_
  have hPc1 := hP.sub (ws' := [((h 0), .inr (2, [.int (zI ((ro : Nat) : Int)), .int (zI ((te : Nat) : Int)), .int (zI ((ch : Nat) : Int)), .ref (h 1), .ref (h 2), .ref (h 3), .ref (h 4), .ref (h 5), .ref (h 6), .ref (h 7)])), ((h 1), .inl (cy 0, 6, .inl (zA pr))), ((h 2), .inl (cy 0, 6, .inl (zA sl))), ((h 3), .inl (cy 0, 6, .inl (zA mu))), ((h 4), .inl (cy 0, 6, .inl (zA wi))), ((h 5), .inl (cy 0, 6, .inl (zA ak))), ((h 6), .inl (cy 0, 6, .inl (zA (fun j => ((he j : Nat) : Int))))), ((h 7), .inl (cy 0, 5, .inl (zA (fun j => ((li j : Nat) : Int)))))]) [1, 2, 3, 4, 5, 6, 7, 8] rfl
  refine zr_callV (rest := []) (As := [.int (zI t)]) (v := (if 0 ≤ t ∧ t < ((te : Nat) : Int) then 1 else 0)) ⟨hx, hb, hml, hown, hts⟩ (c_X2_hasTenant l D cy h ro te ch pr sl mu wi ak he li t (by omega) (by omega)) (cwV 1 hts gX8_told_X2_hasTenant rfl rfl rfl (by decide +kernel) ⟨Nat.le_of_ble_eq_true rfl, Nat.le_of_ble_eq_true rfl⟩) hK hPc1 0 2 rfl rfl rfl hl.1 rfl (Nat.le_of_ble_eq_true rfl) dX8_told_5 ⟨Nat.zero_le _, Nat.zero_le _⟩ ?_
  refine z_if_ne (tgt := 13) hx hb bo_r dX8_told_8 (by decide) (fun c2 => ?_) (fun c2 => ?_)
  · have c2 := bo_t c2
    refine lv_bipush (v := zI (-9)) hx hb dX8_told_13 (by decide) ?_
    refine lv_istore_n (lv' := [(2, .int (zI (-9))), (0, .ref (sa 0)), (1, .int (zI t))]) hx hb dX8_told_15 rfl hl (by decide) rfl (fun ls hl => ?_)
    refine lv_bipush (v := zI 7) hx hb dX8_told_16 (by decide) ?_
    refine lv_istore_n (lv' := [(3, .int (zI 7)), (2, .int (zI (-9))), (0, .ref (sa 0)), (1, .int (zI t))]) hx hb dX8_told_18 rfl hl (by decide) rfl (fun ls hl => ?_)
    refine lv_iconst (v := zI 0) hx hb dX8_told_19 rfl ?_
    refine lv_istore (lv' := [(4, .int (zI 0)), (3, .int (zI 7)), (2, .int (zI (-9))), (0, .ref (sa 0)), (1, .int (zI t))]) hx hb dX8_told_20 hl (by decide) rfl (fun ls hl => ?_)
    have loop22 : ∀ (n9 : Nat) (i : Nat), 2 ^ te - i < n9 → (i ≤ 2 ^ te) → ∀ (x22_2 : Int), x22_2 = ((bst (fun n => decide (knw he te n t.toNat te = 2 ^ te - 1)) 7 i).1) → ∀ (x22_3 : Int), x22_3 = (((bst (fun n => decide (knw he te n t.toNat te = 2 ^ te - 1)) 7 i).2 : Nat) : Int) → ∀ (x22_4 : Int), x22_4 = ((i : Nat) : Int) → ∀ ls : Array Slot, lv_has ls 6 [(0, .ref (sa 0)), (1, .int (zI t)), (2, .int (zI x22_2)), (3, .int (zI x22_3)), (4, .int (zI x22_4))] → W p l e rm_X8_told s m args below meth c s.heap [] 0 0 Q (F0 m 22 ls []) := by
      intro n9
      induction n9 with
      | zero => intro i h9; exact absurd h9 (Nat.not_lt_zero _)
      | succ n9 ih22 =>
        intro i hmu22 hi x22_2 ex22_2 x22_3 ex22_3 x22_4 ex22_4 ls hl
        subst ex22_2
        subst ex22_3
        subst ex22_4
        have hl : lv_has ls 6 [(0, .ref (sa 0)), (1, .int (zI t)), (2, .int (zI ((bst (fun n => decide (knw he te n t.toNat te = 2 ^ te - 1)) 7 i).1))), (3, .int (zI (((bst (fun n => decide (knw he te n t.toNat te = 2 ^ te - 1)) 7 i).2 : Nat) : Int))), (4, .int (zI ((i : Nat) : Int)))] := hl
        have hf1 := bst_in (fun n => decide (knw he te n t.toNat te = 2 ^ te - 1)) 7 i
        have hf2 := popc_le6 i
        refine lv_iload hx hb dX8_told_22 (lv_at hl 4 rfl) ?_
        refine lv_aload_n hx hb dX8_told_24 rfl (lv_at hl 0 rfl) ?_
        refine va_get (D := D) (ci := 8) (v := .ref (h 0)) (C := RX8) (T := TX8) (N := 11) hx hb hts hinX8 hown hK hP 0 rfl rfl 1 (by decide) (hts (.fieldLink RX8 19 "SilentRent" "built" "LSilentRent$House;") (List.mem_of_getElem? (i := 1) rfl)) (fun _ h9 => h9) rfl dX8_told_25 ?_
        have hPc3 := hP.sub (ws' := [((h 0), .inr (2, [.int (zI ((ro : Nat) : Int)), .int (zI ((te : Nat) : Int)), .int (zI ((ch : Nat) : Int)), .ref (h 1), .ref (h 2), .ref (h 3), .ref (h 4), .ref (h 5), .ref (h 6), .ref (h 7)])), ((h 1), .inl (cy 0, 6, .inl (zA pr))), ((h 2), .inl (cy 0, 6, .inl (zA sl))), ((h 3), .inl (cy 0, 6, .inl (zA mu))), ((h 4), .inl (cy 0, 6, .inl (zA wi))), ((h 5), .inl (cy 0, 6, .inl (zA ak))), ((h 6), .inl (cy 0, 6, .inl (zA (fun j => ((he j : Nat) : Int))))), ((h 7), .inl (cy 0, 5, .inl (zA (fun j => ((li j : Nat) : Int)))))]) [1, 2, 3, 4, 5, 6, 7, 8] rfl
        refine zr_callV (rest := [.int (zI ((i : Nat) : Int))]) (As := []) (v := ((2 ^ te - 1 : Nat) : Int)) ⟨hx, hb, hml, hown, hts⟩ (c_X2_everybody l D cy h ro te ch pr sl mu wi ak he li (by omega)) (cwV 0 hts gX8_told_X2_everybody rfl rfl rfl (by decide +kernel) ⟨Nat.le_of_ble_eq_true rfl, Nat.le_of_ble_eq_true rfl⟩) hK hPc3 0 2 rfl rfl rfl hl.1 rfl (Nat.le_of_ble_eq_true rfl) dX8_told_28 ⟨Nat.zero_le _, Nat.zero_le _⟩ ?_
        refine z_icmp_gt (tgt := 69) hx hb ⟨by omega, by omega⟩ ⟨by omega, by omega⟩ dX8_told_31 (by decide) (fun c4 => ?_) (fun c4 => ?_)
        · have c4 : (2 ^ te - 1 : Nat) < (i : Nat) := by omega
          refine lv_iload_n hx hb dX8_told_69 rfl (lv_at hl 2 rfl) ?_
          exact zr_iret hx hb hr hlocks hQ (by rw [if_pos (by omega), show i = 2 ^ te from by omega]) dX8_told_70
        · have c4 : ¬ ((2 ^ te - 1 : Nat) < (i : Nat)) := by omega
          refine lv_iload hx hb dX8_told_34 (lv_at hl 4 rfl) ?_
          have hPc5 := hP.sub (ws' := []) [] rfl
          refine zr_callS (rest := []) (As := [.int (zI ((i : Nat) : Int))]) (v := ((popc i : Nat) : Int)) (wd := []) ⟨hx, hb, hml, hown, hts⟩ (c_J6_bitCount_0f7a4 l D cy i (by omega)) (va_cwS 1 hts gX8_told_J6_bitCount_0f7a4 rfl rfl rfl (by decide +kernel) ⟨Nat.le_of_ble_eq_true rfl, Nat.le_of_ble_eq_true rfl⟩) hK (fun k q h => by cases h) rfl hl.1 rfl (Nat.le_of_ble_eq_true rfl) dX8_told_36 ⟨Nat.zero_le _, Nat.zero_le _⟩ ?_
          refine lv_istore (lv' := [(5, .int (zI ((popc i : Nat) : Int))), (0, .ref (sa 0)), (1, .int (zI t)), (2, .int (zI ((bst (fun n => decide (knw he te n t.toNat te = 2 ^ te - 1)) 7 i).1))), (3, .int (zI (((bst (fun n => decide (knw he te n t.toNat te = 2 ^ te - 1)) 7 i).2 : Nat) : Int))), (4, .int (zI ((i : Nat) : Int)))]) hx hb dX8_told_39 hl (by decide) rfl (fun ls hl => ?_)
          refine lv_iload hx hb dX8_told_41 (lv_at hl 0 rfl) ?_
          refine lv_iload_n hx hb dX8_told_43 rfl (lv_at hl 4 rfl) ?_
          have J10 : ∀ (z8 : Int), z8 = (if ((bst (fun n => decide (knw he te n t.toNat te = 2 ^ te - 1)) 7 i).2 : Nat) ≤ (popc i : Nat) then ((bst (fun n => decide (knw he te n t.toNat te = 2 ^ te - 1)) 7 i).1) else (if knw he te i t.toNat te = 2 ^ te - 1 then ((i : Nat) : Int) else ((bst (fun n => decide (knw he te n t.toNat te = 2 ^ te - 1)) 7 i).1))) → ∀ (z9 : Nat), z9 = (if ((bst (fun n => decide (knw he te n t.toNat te = 2 ^ te - 1)) 7 i).2 : Nat) ≤ (popc i : Nat) then ((bst (fun n => decide (knw he te n t.toNat te = 2 ^ te - 1)) 7 i).2) else (if knw he te i t.toNat te = 2 ^ te - 1 then (popc i) else ((bst (fun n => decide (knw he te n t.toNat te = 2 ^ te - 1)) 7 i).2))) → ∀ ls : Array Slot, lv_has ls 6 [(0, .ref (sa 0)), (1, .int (zI t)), (2, .int (zI z8)), (3, .int (zI ((z9 : Nat) : Int))), (4, .int (zI ((i : Nat) : Int))), (5, .int (zI ((popc i : Nat) : Int)))] → W p l e rm_X8_told s m args below meth c s.heap [] 0 0 Q (F0 m 63 ls []) := by
            intro z8 ez8 z9 ez9 ls hl
            subst ez8
            subst ez9
            refine z_iinc (r := ((i + 1 : Nat) : Int)) (lv' := [(4, .int (zI ((i + 1 : Nat) : Int))), (0, .ref (sa 0)), (1, .int (zI t)), (2, .int (zI (if ((bst (fun n => decide (knw he te n t.toNat te = 2 ^ te - 1)) 7 i).2 : Nat) ≤ (popc i : Nat) then ((bst (fun n => decide (knw he te n t.toNat te = 2 ^ te - 1)) 7 i).1) else (if knw he te i t.toNat te = 2 ^ te - 1 then ((i : Nat) : Int) else ((bst (fun n => decide (knw he te n t.toNat te = 2 ^ te - 1)) 7 i).1))))), (3, .int (zI (((if ((bst (fun n => decide (knw he te n t.toNat te = 2 ^ te - 1)) 7 i).2 : Nat) ≤ (popc i : Nat) then ((bst (fun n => decide (knw he te n t.toNat te = 2 ^ te - 1)) 7 i).2) else (if knw he te i t.toNat te = 2 ^ te - 1 then (popc i) else ((bst (fun n => decide (knw he te n t.toNat te = 2 ^ te - 1)) 7 i).2))) : Nat) : Int))), (5, .int (zI ((popc i : Nat) : Int)))]) hx hb (by omega) dX8_told_63 hl (k := 4) rfl (by decide) rfl (fun ls hl => ?_)
            refine lv_goto (tgt := 22) hx hb dX8_told_66 (by decide) ?_
            exact ih22 (i + 1) (by omega) (by omega) (if ((bst (fun n => decide (knw he te n t.toNat te = 2 ^ te - 1)) 7 i).2 : Nat) ≤ (popc i : Nat) then ((bst (fun n => decide (knw he te n t.toNat te = 2 ^ te - 1)) 7 i).1) else (if knw he te i t.toNat te = 2 ^ te - 1 then ((i : Nat) : Int) else ((bst (fun n => decide (knw he te n t.toNat te = 2 ^ te - 1)) 7 i).1))) (by rw [bst_s]; simp only [decide_eq_true_eq]; (repeat' split) <;> first | rfl | omega) (((if ((bst (fun n => decide (knw he te n t.toNat te = 2 ^ te - 1)) 7 i).2 : Nat) ≤ (popc i : Nat) then ((bst (fun n => decide (knw he te n t.toNat te = 2 ^ te - 1)) 7 i).2) else (if knw he te i t.toNat te = 2 ^ te - 1 then (popc i) else ((bst (fun n => decide (knw he te n t.toNat te = 2 ^ te - 1)) 7 i).2))) : Nat) : Int) (by rw [bst_s]; simp only [decide_eq_true_eq]; (repeat' split) <;> first | rfl | omega) ((i + 1 : Nat) : Int) (by first | rfl | omega) ls (lv_sub hl [1, 2, 3, 4, 0] rfl)
          refine z_icmp_ge (tgt := 63) hx hb ⟨by omega, by omega⟩ ⟨by omega, by omega⟩ dX8_told_44 (by decide) (fun c6 => ?_) (fun c6 => ?_)
          · have c6 : ((bst (fun n => decide (knw he te n t.toNat te = 2 ^ te - 1)) 7 i).2 : Nat) ≤ (popc i : Nat) := by omega
            exact J10 ((bst (fun n => decide (knw he te n t.toNat te = 2 ^ te - 1)) 7 i).1) (by rw [if_pos c6]) ((bst (fun n => decide (knw he te n t.toNat te = 2 ^ te - 1)) 7 i).2) (by rw [if_pos c6]) ls (lv_sub hl [1, 2, 3, 4, 5, 0] rfl)
          · have c6 : ¬ (((bst (fun n => decide (knw he te n t.toNat te = 2 ^ te - 1)) 7 i).2 : Nat) ≤ (popc i : Nat)) := by omega
            refine lv_aload_n hx hb dX8_told_47 rfl (lv_at hl 1 rfl) ?_
            refine lv_iload_n hx hb dX8_told_48 rfl (lv_at hl 2 rfl) ?_
            refine lv_iload hx hb dX8_told_49 (lv_at hl 5 rfl) ?_
            refine zr_callV (rest := []) (As := [.int (zI t), .int (zI ((i : Nat) : Int))]) (v := (if knw he te i t.toNat te = 2 ^ te - 1 then 1 else 0)) ⟨hx, hb, hml, hown, hts⟩ (c_X8_allKnow l D cy sa rTx rDr rNo rPa rIm rBk rHo rFi rGr tr h ro te ch pr sl mu wi ak he li t i (by omega) (by omega) (by omega) hHB) (cwV 2 hts gX8_told_X8_allKnow rfl rfl rfl (by decide +kernel) ⟨Nat.le_of_ble_eq_true rfl, Nat.le_of_ble_eq_true rfl⟩) hK hP 0 8 rfl rfl rfl hl.1 rfl (Nat.le_of_ble_eq_true rfl) dX8_told_51 ⟨Nat.zero_le _, Nat.zero_le _⟩ ?_
            refine z_if_eq (tgt := 63) hx hb bo_r dX8_told_54 (by decide) (fun c7 => ?_) (fun c7 => ?_)
            · have c7 := bo_f c7
              exact J10 ((bst (fun n => decide (knw he te n t.toNat te = 2 ^ te - 1)) 7 i).1) (by rw [if_neg c6, if_neg c7]) ((bst (fun n => decide (knw he te n t.toNat te = 2 ^ te - 1)) 7 i).2) (by rw [if_neg c6, if_neg c7]) ls (lv_sub hl [1, 2, 3, 4, 5, 0] rfl)
            · have c7 := bo_t c7
              refine lv_iload hx hb dX8_told_57 (lv_at hl 5 rfl) ?_
              refine lv_istore_n (lv' := [(2, .int (zI ((i : Nat) : Int))), (5, .int (zI ((popc i : Nat) : Int))), (0, .ref (sa 0)), (1, .int (zI t)), (3, .int (zI (((bst (fun n => decide (knw he te n t.toNat te = 2 ^ te - 1)) 7 i).2 : Nat) : Int))), (4, .int (zI ((i : Nat) : Int)))]) hx hb dX8_told_59 rfl hl (by decide) rfl (fun ls hl => ?_)
              refine lv_iload hx hb dX8_told_60 (lv_at hl 1 rfl) ?_
              refine lv_istore_n (lv' := [(3, .int (zI ((popc i : Nat) : Int))), (2, .int (zI ((i : Nat) : Int))), (5, .int (zI ((popc i : Nat) : Int))), (0, .ref (sa 0)), (1, .int (zI t)), (4, .int (zI ((i : Nat) : Int)))]) hx hb dX8_told_62 rfl hl (by decide) rfl (fun ls hl => ?_)
              exact J10 ((i : Nat) : Int) (by rw [if_neg c6, if_pos c7]) (popc i) (by rw [if_neg c6, if_pos c7]) ls (lv_sub hl [3, 4, 1, 0, 5, 2] rfl)
    exact loop22 ((2 ^ te - 0) + 1) 0 (by omega) (by omega) (-9) (by first | rfl | omega | simp) 7 (by first | rfl | omega | simp) 0 (by first | rfl | omega | simp) ls (lv_sub hl [3, 4, 2, 1, 0] rfl)
  · have c2 := bo_f c2
    refine lv_iconst (v := zI (-1)) hx hb dX8_told_11 rfl ?_
    exact zr_iret hx hb hr hlocks hQ (by rw [if_neg (by omega)]) dX8_told_12
abbrev rm_X8_rounds : Room := { frames := 1, cells := 0, slots := 0, locals := 23 }
set_option maxHeartbeats 4000000 in
set_option maxRecDepth 100000 in
theorem c_X8_rounds (l : Launch) (D : va_G) (cy : Nat → ClassId) (sa : Nat → Nat) (rTx : Nat) (rDr : Nat) (rNo : Nat) (rPa : Nat) (rIm : Nat) (rBk : Nat) (rHo : Nat) (rFi : Nat) (rGr : Nat) (tr : Int) (h : Nat → Nat) (ro : Nat) (te : Nat) (ch : Nat) (pr : Nat → Int) (sl : Nat → Int) (mu : Nat → Int) (wi : Nat → Int) (ak : Nat → Int) (he : Nat → Nat) (li : Nat → Nat) (t : Int) (ht0 : inR t) (hte : te ≤ 6) (hHB : HB pr sl mu wi ak he li) : Met l yX8_rounds wsX8_rounds rm_X8_rounds (pR D cy [((sa 0), .inr (8, [.ref rTx, .ref (h 0), .ref rDr, .ref rNo, .ref rPa, .ref rIm, .ref rBk, .ref rHo, .ref rFi, .ref rGr, .long (zL tr)])), ((h 0), .inr (2, [.int (zI ((ro : Nat) : Int)), .int (zI ((te : Nat) : Int)), .int (zI ((ch : Nat) : Int)), .ref (h 1), .ref (h 2), .ref (h 3), .ref (h 4), .ref (h 5), .ref (h 6), .ref (h 7)])), ((h 1), .inl (cy 0, 6, .inl (zA pr))), ((h 2), .inl (cy 0, 6, .inl (zA sl))), ((h 3), .inl (cy 0, 6, .inl (zA mu))), ((h 4), .inl (cy 0, 6, .inl (zA wi))), ((h 5), .inl (cy 0, 6, .inl (zA ak))), ((h 6), .inl (cy 0, 6, .inl (zA (fun j => ((he j : Nat) : Int))))), ((h 7), .inl (cy 0, 5, .inl (zA (fun j => ((li j : Nat) : Int)))))] [.ref (sa 0), .int (zI t)]) (qR (if 0 ≤ t ∧ t < (te : Int) then rnd he te t.toNat te 0 else -1)) 0 0 (fun _ => False) := by
  refine met_R (cc := cX8_rounds) (maxL := 4) (ret := (some .int)) RX8 (by decide) rfl rfl (Nat.le_of_ble_eq_true rfl) ?_
  intro p e s m args below meth c ls Q hx hb hr hml hts hown hlocks hQ hP hK hl
  have hl : lv_has ls 4 [(0, .ref (sa 0)), (1, .int (zI t))] := hl
  have hinX2 : ∀ w ∈ wsX20, w ∈ wsX8_rounds := (fun w h => List.mem_cons_of_mem _ (List.mem_append_right _ h))
  have hinX8 : ∀ w ∈ wsX80, w ∈ wsX8_rounds := (fun w h => List.mem_cons_of_mem _ (List.mem_append_left _ (List.mem_append_right _ h)))
  have hpw := pow_le64 te (by omega)
  refine lv_aload_n hx hb dX8_rounds_0 rfl (lv_at hl 0 rfl) ?_
  refine va_get (D := D) (ci := 8) (v := .ref (h 0)) (C := RX8) (T := TX8) (N := 11) hx hb hts hinX8 hown hK hP 0 rfl rfl 1 (by decide) (hts (.fieldLink RX8 19 "SilentRent" "built" "LSilentRent$House;") (List.mem_of_getElem? (i := 1) rfl)) (fun _ h9 => h9) rfl dX8_rounds_1 ?_
  refine lv_iload_n hx hb dX8_rounds_4 rfl (lv_at hl 1 rfl) ?_
  have hPc1 := hP.sub (ws' := [((h 0), .inr (2, [.int (zI ((ro : Nat) : Int)), .int (zI ((te : Nat) : Int)), .int (zI ((ch : Nat) : Int)), .ref (h 1), .ref (h 2), .ref (h 3), .ref (h 4), .ref (h 5), .ref (h 6), .ref (h 7)])), ((h 1), .inl (cy 0, 6, .inl (zA pr))), ((h 2), .inl (cy 0, 6, .inl (zA sl))), ((h 3), .inl (cy 0, 6, .inl (zA mu))), ((h 4), .inl (cy 0, 6, .inl (zA wi))), ((h 5), .inl (cy 0, 6, .inl (zA ak))), ((h 6), .inl (cy 0, 6, .inl (zA (fun j => ((he j : Nat) : Int))))), ((h 7), .inl (cy 0, 5, .inl (zA (fun j => ((li j : Nat) : Int)))))]) [1, 2, 3, 4, 5, 6, 7, 8] rfl
  refine zr_callV (rest := []) (As := [.int (zI t)]) (v := (if 0 ≤ t ∧ t < ((te : Nat) : Int) then 1 else 0)) ⟨hx, hb, hml, hown, hts⟩ (c_X2_hasTenant l D cy h ro te ch pr sl mu wi ak he li t (by omega) (by omega)) (cwV 1 hts gX8_rounds_X2_hasTenant rfl rfl rfl (by decide +kernel) ⟨Nat.le_of_ble_eq_true rfl, Nat.le_of_ble_eq_true rfl⟩) hK hPc1 0 2 rfl rfl rfl hl.1 rfl (Nat.le_of_ble_eq_true rfl) dX8_rounds_5 ⟨Nat.zero_le _, Nat.zero_le _⟩ ?_
  refine z_if_ne (tgt := 13) hx hb bo_r dX8_rounds_8 (by decide) (fun c2 => ?_) (fun c2 => ?_)
  · have c2 := bo_t c2
    refine lv_iconst (v := zI 1) hx hb dX8_rounds_13 rfl ?_
    refine lv_iload_n hx hb dX8_rounds_14 rfl (lv_at hl 1 rfl) ?_
    have hp3 := pow_le3 t.toNat (by omega)
    refine z_ishl (r := ((2 ^ t.toNat : Nat) : Int)) hx hb (by rw [show t = ((t.toNat : Nat) : Int) from by omega]; exact zI_shl1 t.toNat (by omega)) dX8_rounds_15 ?_
    refine lv_istore_n (lv' := [(2, .int (zI ((2 ^ t.toNat : Nat) : Int))), (0, .ref (sa 0)), (1, .int (zI t))]) hx hb dX8_rounds_16 rfl hl (by decide) rfl (fun ls hl => ?_)
    refine lv_iconst (v := zI 0) hx hb dX8_rounds_17 rfl ?_
    refine lv_istore_n (lv' := [(3, .int (zI 0)), (2, .int (zI ((2 ^ t.toNat : Nat) : Int))), (0, .ref (sa 0)), (1, .int (zI t))]) hx hb dX8_rounds_18 rfl hl (by decide) rfl (fun ls hl => ?_)
    have loop19 : ∀ (n9 : Nat) (i : Nat), te - i < n9 → (i ≤ te) → (rnd he te t.toNat te 0 = rnd he te t.toNat (te - i) i) → ∀ (x19_2 : Int), x19_2 = ((knw he te 63 t.toNat i : Nat) : Int) → ∀ (x19_3 : Int), x19_3 = ((i : Nat) : Int) → ∀ ls : Array Slot, lv_has ls 4 [(0, .ref (sa 0)), (1, .int (zI t)), (2, .int (zI x19_2)), (3, .int (zI x19_3))] → W p l e rm_X8_rounds s m args below meth c s.heap [] 0 0 Q (F0 m 19 ls []) := by
      intro n9
      induction n9 with
      | zero => intro i h9; exact absurd h9 (Nat.not_lt_zero _)
      | succ n9 ih19 =>
        intro i hmu19 hi hq x19_2 ex19_2 x19_3 ex19_3 ls hl
        subst ex19_2
        subst ex19_3
        have hl : lv_has ls 4 [(0, .ref (sa 0)), (1, .int (zI t)), (2, .int (zI ((knw he te 63 t.toNat i : Nat) : Int))), (3, .int (zI ((i : Nat) : Int)))] := hl
        have hf1 := knw_lt64 he te 63 t.toNat (by omega) (by omega) i
        have hf2 := hrs_lt64 he te (knw he te 63 t.toNat i) (by omega)
        refine lv_iload_n hx hb dX8_rounds_19 rfl (lv_at hl 3 rfl) ?_
        refine lv_aload_n hx hb dX8_rounds_20 rfl (lv_at hl 0 rfl) ?_
        refine va_get (D := D) (ci := 8) (v := .ref (h 0)) (C := RX8) (T := TX8) (N := 11) hx hb hts hinX8 hown hK hP 0 rfl rfl 1 (by decide) (hts (.fieldLink RX8 19 "SilentRent" "built" "LSilentRent$House;") (List.mem_of_getElem? (i := 1) rfl)) (fun _ h9 => h9) rfl dX8_rounds_21 ?_
        refine va_get (D := D) (ci := 2) (v := .int (zI ((te : Nat) : Int))) (C := RX2) (T := TX2) (N := 10) hx hb hts hinX2 hown hK hP 1 rfl rfl 1 (by decide) (hts (.fieldLink RX8 161 "SilentRent$House" "tenants" "I") (List.mem_of_getElem? (i := 2) rfl)) (fun _ h9 => h9) rfl dX8_rounds_24 ?_
        refine z_icmp_ge (tgt := 60) hx hb ⟨by omega, by omega⟩ ⟨by omega, by omega⟩ dX8_rounds_27 (by decide) (fun c4 => ?_) (fun c4 => ?_)
        · have c4 : (te : Nat) ≤ (i : Nat) := by omega
          refine lv_bipush (v := zI (-9)) hx hb dX8_rounds_60 (by decide) ?_
          exact zr_iret hx hb hr hlocks hQ (by rw [if_pos (by omega), hq, show te - i = 0 from by omega]; rfl) dX8_rounds_62
        · have c4 : ¬ ((te : Nat) ≤ (i : Nat)) := by omega
          refine lv_iload_n hx hb dX8_rounds_30 rfl (lv_at hl 2 rfl) ?_
          refine lv_aload_n hx hb dX8_rounds_31 rfl (lv_at hl 0 rfl) ?_
          refine va_get (D := D) (ci := 8) (v := .ref (h 0)) (C := RX8) (T := TX8) (N := 11) hx hb hts hinX8 hown hK hP 0 rfl rfl 1 (by decide) (hts (.fieldLink RX8 19 "SilentRent" "built" "LSilentRent$House;") (List.mem_of_getElem? (i := 1) rfl)) (fun _ h9 => h9) rfl dX8_rounds_32 ?_
          have hPc5 := hP.sub (ws' := [((h 0), .inr (2, [.int (zI ((ro : Nat) : Int)), .int (zI ((te : Nat) : Int)), .int (zI ((ch : Nat) : Int)), .ref (h 1), .ref (h 2), .ref (h 3), .ref (h 4), .ref (h 5), .ref (h 6), .ref (h 7)])), ((h 1), .inl (cy 0, 6, .inl (zA pr))), ((h 2), .inl (cy 0, 6, .inl (zA sl))), ((h 3), .inl (cy 0, 6, .inl (zA mu))), ((h 4), .inl (cy 0, 6, .inl (zA wi))), ((h 5), .inl (cy 0, 6, .inl (zA ak))), ((h 6), .inl (cy 0, 6, .inl (zA (fun j => ((he j : Nat) : Int))))), ((h 7), .inl (cy 0, 5, .inl (zA (fun j => ((li j : Nat) : Int)))))]) [1, 2, 3, 4, 5, 6, 7, 8] rfl
          refine zr_callV (rest := [.int (zI ((knw he te 63 t.toNat i : Nat) : Int))]) (As := []) (v := ((2 ^ te - 1 : Nat) : Int)) ⟨hx, hb, hml, hown, hts⟩ (c_X2_everybody l D cy h ro te ch pr sl mu wi ak he li (by omega)) (cwV 0 hts gX8_rounds_X2_everybody rfl rfl rfl (by decide +kernel) ⟨Nat.le_of_ble_eq_true rfl, Nat.le_of_ble_eq_true rfl⟩) hK hPc5 0 2 rfl rfl rfl hl.1 rfl (Nat.le_of_ble_eq_true rfl) dX8_rounds_35 ⟨Nat.zero_le _, Nat.zero_le _⟩ ?_
          refine z_icmp_ne (tgt := 43) hx hb ⟨by omega, by omega⟩ ⟨by omega, by omega⟩ dX8_rounds_38 (by decide) (fun c6 => ?_) (fun c6 => ?_)
          · have c6 : ¬ ((knw he te 63 t.toNat i : Nat) = (2 ^ te - 1 : Nat)) := by omega
            refine lv_iload_n hx hb dX8_rounds_43 rfl (lv_at hl 2 rfl) ?_
            refine lv_aload_n hx hb dX8_rounds_44 rfl (lv_at hl 0 rfl) ?_
            refine va_get (D := D) (ci := 8) (v := .ref (h 0)) (C := RX8) (T := TX8) (N := 11) hx hb hts hinX8 hown hK hP 0 rfl rfl 1 (by decide) (hts (.fieldLink RX8 19 "SilentRent" "built" "LSilentRent$House;") (List.mem_of_getElem? (i := 1) rfl)) (fun _ h9 => h9) rfl dX8_rounds_45 ?_
            refine lv_iload_n hx hb dX8_rounds_48 rfl (lv_at hl 2 rfl) ?_
            have hPc7 := hP.sub (ws' := [((h 0), .inr (2, [.int (zI ((ro : Nat) : Int)), .int (zI ((te : Nat) : Int)), .int (zI ((ch : Nat) : Int)), .ref (h 1), .ref (h 2), .ref (h 3), .ref (h 4), .ref (h 5), .ref (h 6), .ref (h 7)])), ((h 1), .inl (cy 0, 6, .inl (zA pr))), ((h 2), .inl (cy 0, 6, .inl (zA sl))), ((h 3), .inl (cy 0, 6, .inl (zA mu))), ((h 4), .inl (cy 0, 6, .inl (zA wi))), ((h 5), .inl (cy 0, 6, .inl (zA ak))), ((h 6), .inl (cy 0, 6, .inl (zA (fun j => ((he j : Nat) : Int))))), ((h 7), .inl (cy 0, 5, .inl (zA (fun j => ((li j : Nat) : Int)))))]) [1, 2, 3, 4, 5, 6, 7, 8] rfl
            refine zr_callV (rest := [.int (zI ((knw he te 63 t.toNat i : Nat) : Int))]) (As := [.int (zI ((knw he te 63 t.toNat i : Nat) : Int))]) (v := ((hrs he te (knw he te 63 t.toNat i) : Nat) : Int)) ⟨hx, hb, hml, hown, hts⟩ (c_X2_hearers l D cy h ro te ch pr sl mu wi ak he li (knw he te 63 t.toNat i) (by omega) (by omega) hHB) (cwV 1 hts gX8_rounds_X2_hearers rfl rfl rfl (by decide +kernel) ⟨Nat.le_of_ble_eq_true rfl, Nat.le_of_ble_eq_true rfl⟩) hK hPc7 0 2 rfl rfl rfl hl.1 rfl (Nat.le_of_ble_eq_true rfl) dX8_rounds_49 ⟨Nat.zero_le _, Nat.zero_le _⟩ ?_
            have hq8 := or_lt64 (a := (knw he te 63 t.toNat i)) (b := (hrs he te (knw he te 63 t.toNat i))) (by omega) (by omega)
            refine z_ior (r := (((knw he te 63 t.toNat i) ||| (hrs he te (knw he te 63 t.toNat i)) : Nat) : Int)) hx hb (zI_or (a := knw he te 63 t.toNat i) (b := hrs he te (knw he te 63 t.toNat i)) (by omega) (by omega)) dX8_rounds_52 ?_
            refine lv_istore_n (lv' := [(2, .int (zI (((knw he te 63 t.toNat i) ||| (hrs he te (knw he te 63 t.toNat i)) : Nat) : Int))), (0, .ref (sa 0)), (1, .int (zI t)), (3, .int (zI ((i : Nat) : Int)))]) hx hb dX8_rounds_53 rfl hl (by decide) rfl (fun ls hl => ?_)
            refine z_iinc (r := ((i + 1 : Nat) : Int)) (lv' := [(3, .int (zI ((i + 1 : Nat) : Int))), (2, .int (zI (((knw he te 63 t.toNat i) ||| (hrs he te (knw he te 63 t.toNat i)) : Nat) : Int))), (0, .ref (sa 0)), (1, .int (zI t))]) hx hb (by omega) dX8_rounds_54 hl (k := 3) rfl (by decide) rfl (fun ls hl => ?_)
            refine lv_goto (tgt := 19) hx hb dX8_rounds_57 (by decide) ?_
            exact ih19 (i + 1) (by omega) (by omega) (by rw [hq, show te - i = (te - (i + 1)) + 1 from by omega, rnd_s, if_neg (by omega)]) (((knw he te 63 t.toNat i) ||| (hrs he te (knw he te 63 t.toNat i)) : Nat) : Int) (by show _ = ((knw he te 63 t.toNat i ||| hrs he te (knw he te 63 t.toNat i &&& 63) : Nat) : Int); rw [and63 hf1]) ((i + 1 : Nat) : Int) (by first | rfl | omega) ls (lv_sub hl [2, 3, 1, 0] rfl)
          · have c6 : (knw he te 63 t.toNat i : Nat) = (2 ^ te - 1 : Nat) := by omega
            refine lv_iload_n hx hb dX8_rounds_41 rfl (lv_at hl 3 rfl) ?_
            exact zr_iret hx hb hr hlocks hQ (by rw [if_pos (by omega), hq, show te - i = (te - (i + 1)) + 1 from by omega, rnd_s, if_pos (by omega)]) dX8_rounds_42
    exact loop19 ((te - 0) + 1) 0 (by omega) (by omega) rfl ((2 ^ t.toNat : Nat) : Int) (by first | rfl | omega | simp) 0 (by first | rfl | omega | simp) ls (lv_sub hl [2, 3, 1, 0] rfl)
  · have c2 := bo_f c2
    refine lv_iconst (v := zI (-1)) hx hb dX8_rounds_11 rfl ?_
    exact zr_iret hx hb hr hlocks hQ (by rw [if_neg (by omega)]) dX8_rounds_12
abbrev rm_X8_watch : Room := { frames := 1, cells := 0, slots := 0, locals := 23 }
set_option maxHeartbeats 4000000 in
set_option maxRecDepth 100000 in
theorem c_X8_watch (l : Launch) (D : va_G) (cy : Nat → ClassId) (sa : Nat → Nat) (rTx : Nat) (rDr : Nat) (rNo : Nat) (rPa : Nat) (rIm : Nat) (rBk : Nat) (rHo : Nat) (rFi : Nat) (rGr : Nat) (tr : Int) (h : Nat → Nat) (ro : Nat) (te : Nat) (ch : Nat) (pr : Nat → Int) (sl : Nat → Int) (mu : Nat → Int) (wi : Nat → Int) (ak : Nat → Int) (he : Nat → Nat) (li : Nat → Nat) (sm : Int) (hs0 : inR sm) (hte : te ≤ 6) (hch : ch ≤ 5) (hHB : HB pr sl mu wi ak he li) : Met l yX8_watch wsX8_watch rm_X8_watch (pR D cy [((sa 0), .inr (8, [.ref rTx, .ref (h 0), .ref rDr, .ref rNo, .ref rPa, .ref rIm, .ref rBk, .ref rHo, .ref rFi, .ref rGr, .long (zL tr)])), ((h 0), .inr (2, [.int (zI ((ro : Nat) : Int)), .int (zI ((te : Nat) : Int)), .int (zI ((ch : Nat) : Int)), .ref (h 1), .ref (h 2), .ref (h 3), .ref (h 4), .ref (h 5), .ref (h 6), .ref (h 7)])), ((h 1), .inl (cy 0, 6, .inl (zA pr))), ((h 2), .inl (cy 0, 6, .inl (zA sl))), ((h 3), .inl (cy 0, 6, .inl (zA mu))), ((h 4), .inl (cy 0, 6, .inl (zA wi))), ((h 5), .inl (cy 0, 6, .inl (zA ak))), ((h 6), .inl (cy 0, 6, .inl (zA (fun j => ((he j : Nat) : Int))))), ((h 7), .inl (cy 0, 5, .inl (zA (fun j => ((li j : Nat) : Int)))))] [.ref (sa 0), .int (zI sm)]) (qR (if 0 ≤ sm ∧ sm ≤ ((2 ^ te - 1 : Nat) : Int) then (bst (fun n => decide (ndiff sm.toNat (sef li ch n) = 0)) 6 (2 ^ ch)).1 else -1)) 0 0 (fun _ => False) := by
  refine met_R (cc := cX8_watch) (maxL := 6) (ret := (some .int)) RX8 (by decide) rfl rfl (Nat.le_of_ble_eq_true rfl) ?_
  intro p e s m args below meth c ls Q hx hb hr hml hts hown hlocks hQ hP hK hl
  have hl : lv_has ls 6 [(0, .ref (sa 0)), (1, .int (zI sm))] := hl
  have hinX2 : ∀ w ∈ wsX20, w ∈ wsX8_watch := (fun w h => List.mem_cons_of_mem _ (List.mem_append_right _ h))
  have hinX8 : ∀ w ∈ wsX80, w ∈ wsX8_watch := (fun w h => List.mem_cons_of_mem _ (List.mem_append_left _ (List.mem_append_right _ h)))
  have hpw := pow_le64 te (by omega)
  have hpc := pow_le64 ch (by omega)
  have hpc2 : 2 ^ ch ≤ 2 ^ 5 := Nat.pow_le_pow_right (by decide) (by omega)
  refine lv_iload_n hx hb dX8_watch_0 rfl (lv_at hl 1 rfl) ?_
  refine z_if_lt (tgt := 15) hx hb ⟨by omega, by omega⟩ dX8_watch_1 (by decide) (fun c1 => ?_) (fun c1 => ?_)
  · refine lv_iconst (v := zI (-1)) hx hb dX8_watch_15 rfl ?_
    exact zr_iret hx hb hr hlocks hQ (by rw [if_neg (by omega)]) dX8_watch_16
  · refine lv_iload_n hx hb dX8_watch_4 rfl (lv_at hl 1 rfl) ?_
    refine lv_aload_n hx hb dX8_watch_5 rfl (lv_at hl 0 rfl) ?_
    refine va_get (D := D) (ci := 8) (v := .ref (h 0)) (C := RX8) (T := TX8) (N := 11) hx hb hts hinX8 hown hK hP 0 rfl rfl 1 (by decide) (hts (.fieldLink RX8 19 "SilentRent" "built" "LSilentRent$House;") (List.mem_of_getElem? (i := 1) rfl)) (fun _ h9 => h9) rfl dX8_watch_6 ?_
    have hPc2 := hP.sub (ws' := [((h 0), .inr (2, [.int (zI ((ro : Nat) : Int)), .int (zI ((te : Nat) : Int)), .int (zI ((ch : Nat) : Int)), .ref (h 1), .ref (h 2), .ref (h 3), .ref (h 4), .ref (h 5), .ref (h 6), .ref (h 7)])), ((h 1), .inl (cy 0, 6, .inl (zA pr))), ((h 2), .inl (cy 0, 6, .inl (zA sl))), ((h 3), .inl (cy 0, 6, .inl (zA mu))), ((h 4), .inl (cy 0, 6, .inl (zA wi))), ((h 5), .inl (cy 0, 6, .inl (zA ak))), ((h 6), .inl (cy 0, 6, .inl (zA (fun j => ((he j : Nat) : Int))))), ((h 7), .inl (cy 0, 5, .inl (zA (fun j => ((li j : Nat) : Int)))))]) [1, 2, 3, 4, 5, 6, 7, 8] rfl
    refine zr_callV (rest := [.int (zI sm)]) (As := []) (v := ((2 ^ te - 1 : Nat) : Int)) ⟨hx, hb, hml, hown, hts⟩ (c_X2_everybody l D cy h ro te ch pr sl mu wi ak he li (by omega)) (cwV 0 hts gX8_watch_X2_everybody rfl rfl rfl (by decide +kernel) ⟨Nat.le_of_ble_eq_true rfl, Nat.le_of_ble_eq_true rfl⟩) hK hPc2 0 2 rfl rfl rfl hl.1 rfl (Nat.le_of_ble_eq_true rfl) dX8_watch_9 ⟨Nat.zero_le _, Nat.zero_le _⟩ ?_
    refine z_icmp_le (tgt := 17) hx hb ⟨by omega, by omega⟩ ⟨by omega, by omega⟩ dX8_watch_12 (by decide) (fun c3 => ?_) (fun c3 => ?_)
    · refine lv_bipush (v := zI (-9)) hx hb dX8_watch_17 (by decide) ?_
      refine lv_istore_n (lv' := [(2, .int (zI (-9))), (0, .ref (sa 0)), (1, .int (zI sm))]) hx hb dX8_watch_19 rfl hl (by decide) rfl (fun ls hl => ?_)
      refine lv_bipush (v := zI 6) hx hb dX8_watch_20 (by decide) ?_
      refine lv_istore_n (lv' := [(3, .int (zI 6)), (2, .int (zI (-9))), (0, .ref (sa 0)), (1, .int (zI sm))]) hx hb dX8_watch_22 rfl hl (by decide) rfl (fun ls hl => ?_)
      refine lv_iconst (v := zI 0) hx hb dX8_watch_23 rfl ?_
      refine lv_istore (lv' := [(4, .int (zI 0)), (3, .int (zI 6)), (2, .int (zI (-9))), (0, .ref (sa 0)), (1, .int (zI sm))]) hx hb dX8_watch_24 hl (by decide) rfl (fun ls hl => ?_)
      have loop26 : ∀ (n9 : Nat) (i : Nat), 2 ^ ch - i < n9 → (i ≤ 2 ^ ch) → ∀ (x26_1 : Int), x26_1 = ((sm.toNat : Nat) : Int) → ∀ (x26_2 : Int), x26_2 = ((bst (fun n => decide (ndiff sm.toNat (sef li ch n) = 0)) 6 i).1) → ∀ (x26_3 : Int), x26_3 = (((bst (fun n => decide (ndiff sm.toNat (sef li ch n) = 0)) 6 i).2 : Nat) : Int) → ∀ (x26_4 : Int), x26_4 = ((i : Nat) : Int) → ∀ ls : Array Slot, lv_has ls 6 [(0, .ref (sa 0)), (1, .int (zI x26_1)), (2, .int (zI x26_2)), (3, .int (zI x26_3)), (4, .int (zI x26_4))] → W p l e rm_X8_watch s m args below meth c s.heap [] 0 0 Q (F0 m 26 ls []) := by
        intro n9
        induction n9 with
        | zero => intro i h9; exact absurd h9 (Nat.not_lt_zero _)
        | succ n9 ih26 =>
          intro i hmu26 hi x26_1 ex26_1 x26_2 ex26_2 x26_3 ex26_3 x26_4 ex26_4 ls hl
          subst ex26_1
          subst ex26_2
          subst ex26_3
          subst ex26_4
          have hl : lv_has ls 6 [(0, .ref (sa 0)), (1, .int (zI ((sm.toNat : Nat) : Int))), (2, .int (zI ((bst (fun n => decide (ndiff sm.toNat (sef li ch n) = 0)) 6 i).1))), (3, .int (zI (((bst (fun n => decide (ndiff sm.toNat (sef li ch n) = 0)) 6 i).2 : Nat) : Int))), (4, .int (zI ((i : Nat) : Int)))] := hl
          have hf1 := bst_in (fun n => decide (ndiff sm.toNat (sef li ch n) = 0)) 6 i
          have hf2 := popc_le6 i
          have hf3 := sef_lt64 li ch i hHB.2.2.2.2.2.2
          refine lv_iload hx hb dX8_watch_26 (lv_at hl 4 rfl) ?_
          refine lv_iconst (v := zI 1) hx hb dX8_watch_28 rfl ?_
          refine lv_aload_n hx hb dX8_watch_29 rfl (lv_at hl 0 rfl) ?_
          refine va_get (D := D) (ci := 8) (v := .ref (h 0)) (C := RX8) (T := TX8) (N := 11) hx hb hts hinX8 hown hK hP 0 rfl rfl 1 (by decide) (hts (.fieldLink RX8 19 "SilentRent" "built" "LSilentRent$House;") (List.mem_of_getElem? (i := 1) rfl)) (fun _ h9 => h9) rfl dX8_watch_30 ?_
          refine va_get (D := D) (ci := 2) (v := .int (zI ((ch : Nat) : Int))) (C := RX2) (T := TX2) (N := 10) hx hb hts hinX2 hown hK hP 1 rfl rfl 2 (by decide) (hts (.fieldLink RX8 242 "SilentRent$House" "chairs" "I") (List.mem_of_getElem? (i := 2) rfl)) (fun _ h9 => h9) rfl dX8_watch_33 ?_
          have hp4 := pow_le3 ch (by omega)
          refine z_ishl (r := ((2 ^ ch : Nat) : Int)) hx hb (zI_shl1 ch (by omega)) dX8_watch_36 ?_
          refine z_icmp_ge (tgt := 81) hx hb ⟨by omega, by omega⟩ ⟨by omega, by omega⟩ dX8_watch_37 (by decide) (fun c5 => ?_) (fun c5 => ?_)
          · have c5 : (2 ^ ch : Nat) ≤ (i : Nat) := by omega
            refine lv_iload_n hx hb dX8_watch_81 rfl (lv_at hl 2 rfl) ?_
            exact zr_iret hx hb hr hlocks hQ (by rw [if_pos (by omega), show i = 2 ^ ch from by omega]) dX8_watch_82
          · have c5 : ¬ ((2 ^ ch : Nat) ≤ (i : Nat)) := by omega
            refine lv_iload hx hb dX8_watch_40 (lv_at hl 4 rfl) ?_
            have hPc6 := hP.sub (ws' := []) [] rfl
            refine zr_callS (rest := []) (As := [.int (zI ((i : Nat) : Int))]) (v := ((popc i : Nat) : Int)) (wd := []) ⟨hx, hb, hml, hown, hts⟩ (c_J6_bitCount_0f7a4 l D cy i (by omega)) (va_cwS 1 hts gX8_watch_J6_bitCount_0f7a4 rfl rfl rfl (by decide +kernel) ⟨Nat.le_of_ble_eq_true rfl, Nat.le_of_ble_eq_true rfl⟩) hK (fun k q h => by cases h) rfl hl.1 rfl (Nat.le_of_ble_eq_true rfl) dX8_watch_42 ⟨Nat.zero_le _, Nat.zero_le _⟩ ?_
            refine lv_istore (lv' := [(5, .int (zI ((popc i : Nat) : Int))), (0, .ref (sa 0)), (1, .int (zI ((sm.toNat : Nat) : Int))), (2, .int (zI ((bst (fun n => decide (ndiff sm.toNat (sef li ch n) = 0)) 6 i).1))), (3, .int (zI (((bst (fun n => decide (ndiff sm.toNat (sef li ch n) = 0)) 6 i).2 : Nat) : Int))), (4, .int (zI ((i : Nat) : Int)))]) hx hb dX8_watch_45 hl (by decide) rfl (fun ls hl => ?_)
            refine lv_iload hx hb dX8_watch_47 (lv_at hl 0 rfl) ?_
            refine lv_iload_n hx hb dX8_watch_49 rfl (lv_at hl 4 rfl) ?_
            have J13 : ∀ (z11 : Int), z11 = (if ((bst (fun n => decide (ndiff sm.toNat (sef li ch n) = 0)) 6 i).2 : Nat) ≤ (popc i : Nat) then ((bst (fun n => decide (ndiff sm.toNat (sef li ch n) = 0)) 6 i).1) else (if (ndiff sm.toNat (sef li ch i) : Nat) = (0 : Nat) then ((i : Nat) : Int) else ((bst (fun n => decide (ndiff sm.toNat (sef li ch n) = 0)) 6 i).1))) → ∀ (z12 : Nat), z12 = (if ((bst (fun n => decide (ndiff sm.toNat (sef li ch n) = 0)) 6 i).2 : Nat) ≤ (popc i : Nat) then ((bst (fun n => decide (ndiff sm.toNat (sef li ch n) = 0)) 6 i).2) else (if (ndiff sm.toNat (sef li ch i) : Nat) = (0 : Nat) then (popc i) else ((bst (fun n => decide (ndiff sm.toNat (sef li ch n) = 0)) 6 i).2))) → ∀ ls : Array Slot, lv_has ls 6 [(0, .ref (sa 0)), (1, .int (zI ((sm.toNat : Nat) : Int))), (2, .int (zI z11)), (3, .int (zI ((z12 : Nat) : Int))), (4, .int (zI ((i : Nat) : Int))), (5, .int (zI ((popc i : Nat) : Int)))] → W p l e rm_X8_watch s m args below meth c s.heap [] 0 0 Q (F0 m 75 ls []) := by
              intro z11 ez11 z12 ez12 ls hl
              subst ez11
              subst ez12
              refine z_iinc (r := ((i + 1 : Nat) : Int)) (lv' := [(4, .int (zI ((i + 1 : Nat) : Int))), (0, .ref (sa 0)), (1, .int (zI ((sm.toNat : Nat) : Int))), (2, .int (zI (if ((bst (fun n => decide (ndiff sm.toNat (sef li ch n) = 0)) 6 i).2 : Nat) ≤ (popc i : Nat) then ((bst (fun n => decide (ndiff sm.toNat (sef li ch n) = 0)) 6 i).1) else (if (ndiff sm.toNat (sef li ch i) : Nat) = (0 : Nat) then ((i : Nat) : Int) else ((bst (fun n => decide (ndiff sm.toNat (sef li ch n) = 0)) 6 i).1))))), (3, .int (zI (((if ((bst (fun n => decide (ndiff sm.toNat (sef li ch n) = 0)) 6 i).2 : Nat) ≤ (popc i : Nat) then ((bst (fun n => decide (ndiff sm.toNat (sef li ch n) = 0)) 6 i).2) else (if (ndiff sm.toNat (sef li ch i) : Nat) = (0 : Nat) then (popc i) else ((bst (fun n => decide (ndiff sm.toNat (sef li ch n) = 0)) 6 i).2))) : Nat) : Int))), (5, .int (zI ((popc i : Nat) : Int)))]) hx hb (by omega) dX8_watch_75 hl (k := 4) rfl (by decide) rfl (fun ls hl => ?_)
              refine lv_goto (tgt := 26) hx hb dX8_watch_78 (by decide) ?_
              exact ih26 (i + 1) (by omega) (by omega) ((sm.toNat : Nat) : Int) (by first | rfl | omega) (if ((bst (fun n => decide (ndiff sm.toNat (sef li ch n) = 0)) 6 i).2 : Nat) ≤ (popc i : Nat) then ((bst (fun n => decide (ndiff sm.toNat (sef li ch n) = 0)) 6 i).1) else (if (ndiff sm.toNat (sef li ch i) : Nat) = (0 : Nat) then ((i : Nat) : Int) else ((bst (fun n => decide (ndiff sm.toNat (sef li ch n) = 0)) 6 i).1))) (by rw [bst_s]; simp only [decide_eq_true_eq]; (repeat' split) <;> first | rfl | omega) (((if ((bst (fun n => decide (ndiff sm.toNat (sef li ch n) = 0)) 6 i).2 : Nat) ≤ (popc i : Nat) then ((bst (fun n => decide (ndiff sm.toNat (sef li ch n) = 0)) 6 i).2) else (if (ndiff sm.toNat (sef li ch i) : Nat) = (0 : Nat) then (popc i) else ((bst (fun n => decide (ndiff sm.toNat (sef li ch n) = 0)) 6 i).2))) : Nat) : Int) (by rw [bst_s]; simp only [decide_eq_true_eq]; (repeat' split) <;> first | rfl | omega) ((i + 1 : Nat) : Int) (by first | rfl | omega) ls (lv_sub hl [1, 2, 3, 4, 0] rfl)
            refine z_icmp_ge (tgt := 75) hx hb ⟨by omega, by omega⟩ ⟨by omega, by omega⟩ dX8_watch_50 (by decide) (fun c7 => ?_) (fun c7 => ?_)
            · have c7 : ((bst (fun n => decide (ndiff sm.toNat (sef li ch n) = 0)) 6 i).2 : Nat) ≤ (popc i : Nat) := by omega
              exact J13 ((bst (fun n => decide (ndiff sm.toNat (sef li ch n) = 0)) 6 i).1) (by rw [if_pos c7]) ((bst (fun n => decide (ndiff sm.toNat (sef li ch n) = 0)) 6 i).2) (by rw [if_pos c7]) ls (lv_sub hl [1, 2, 3, 4, 5, 0] rfl)
            · have c7 : ¬ (((bst (fun n => decide (ndiff sm.toNat (sef li ch n) = 0)) 6 i).2 : Nat) ≤ (popc i : Nat)) := by omega
              refine lv_iload_n hx hb dX8_watch_53 rfl (lv_at hl 2 rfl) ?_
              refine lv_aload_n hx hb dX8_watch_54 rfl (lv_at hl 1 rfl) ?_
              refine va_get (D := D) (ci := 8) (v := .ref (h 0)) (C := RX8) (T := TX8) (N := 11) hx hb hts hinX8 hown hK hP 0 rfl rfl 1 (by decide) (hts (.fieldLink RX8 19 "SilentRent" "built" "LSilentRent$House;") (List.mem_of_getElem? (i := 1) rfl)) (fun _ h9 => h9) rfl dX8_watch_55 ?_
              refine lv_iload hx hb dX8_watch_58 (lv_at hl 5 rfl) ?_
              have hPc8 := hP.sub (ws' := [((h 0), .inr (2, [.int (zI ((ro : Nat) : Int)), .int (zI ((te : Nat) : Int)), .int (zI ((ch : Nat) : Int)), .ref (h 1), .ref (h 2), .ref (h 3), .ref (h 4), .ref (h 5), .ref (h 6), .ref (h 7)])), ((h 1), .inl (cy 0, 6, .inl (zA pr))), ((h 2), .inl (cy 0, 6, .inl (zA sl))), ((h 3), .inl (cy 0, 6, .inl (zA mu))), ((h 4), .inl (cy 0, 6, .inl (zA wi))), ((h 5), .inl (cy 0, 6, .inl (zA ak))), ((h 6), .inl (cy 0, 6, .inl (zA (fun j => ((he j : Nat) : Int))))), ((h 7), .inl (cy 0, 5, .inl (zA (fun j => ((li j : Nat) : Int)))))]) [1, 2, 3, 4, 5, 6, 7, 8] rfl
              refine zr_callV (rest := [.int (zI ((sm.toNat : Nat) : Int))]) (As := [.int (zI ((i : Nat) : Int))]) (v := ((sef li ch i : Nat) : Int)) ⟨hx, hb, hml, hown, hts⟩ (c_X2_seenFrom l D cy h ro te ch pr sl mu wi ak he li i (by omega) (by omega) hHB) (cwV 1 hts gX8_watch_X2_seenFrom rfl rfl rfl (by decide +kernel) ⟨Nat.le_of_ble_eq_true rfl, Nat.le_of_ble_eq_true rfl⟩) hK hPc8 0 2 rfl rfl rfl hl.1 rfl (Nat.le_of_ble_eq_true rfl) dX8_watch_60 ⟨Nat.zero_le _, Nat.zero_le _⟩ ?_
              refine lv_iconst (v := zI (-1)) hx hb dX8_watch_63 rfl ?_
              refine z_ixor (r := (-((sef li ch i : Nat) : Int) - 1)) hx hb (zI_not _) dX8_watch_64 ?_
              have hn9 := ndiff_le sm.toNat (sef li ch i) (by omega)
              refine z_iand (r := ((ndiff sm.toNat (sef li ch i) : Nat) : Int)) hx hb (zI_andnot (a := sm.toNat) (b := sef li ch i) (by omega) (by omega)) dX8_watch_65 ?_
              refine z_if_ne (tgt := 75) hx hb ⟨by omega, by omega⟩ dX8_watch_66 (by decide) (fun c10 => ?_) (fun c10 => ?_)
              · have c10 : ¬ ((ndiff sm.toNat (sef li ch i) : Nat) = (0 : Nat)) := by omega
                exact J13 ((bst (fun n => decide (ndiff sm.toNat (sef li ch n) = 0)) 6 i).1) (by rw [if_neg c7, if_neg c10]) ((bst (fun n => decide (ndiff sm.toNat (sef li ch n) = 0)) 6 i).2) (by rw [if_neg c7, if_neg c10]) ls (lv_sub hl [1, 2, 3, 4, 5, 0] rfl)
              · have c10 : (ndiff sm.toNat (sef li ch i) : Nat) = (0 : Nat) := by omega
                refine lv_iload hx hb dX8_watch_69 (lv_at hl 5 rfl) ?_
                refine lv_istore_n (lv' := [(2, .int (zI ((i : Nat) : Int))), (5, .int (zI ((popc i : Nat) : Int))), (0, .ref (sa 0)), (1, .int (zI ((sm.toNat : Nat) : Int))), (3, .int (zI (((bst (fun n => decide (ndiff sm.toNat (sef li ch n) = 0)) 6 i).2 : Nat) : Int))), (4, .int (zI ((i : Nat) : Int)))]) hx hb dX8_watch_71 rfl hl (by decide) rfl (fun ls hl => ?_)
                refine lv_iload hx hb dX8_watch_72 (lv_at hl 1 rfl) ?_
                refine lv_istore_n (lv' := [(3, .int (zI ((popc i : Nat) : Int))), (2, .int (zI ((i : Nat) : Int))), (5, .int (zI ((popc i : Nat) : Int))), (0, .ref (sa 0)), (1, .int (zI ((sm.toNat : Nat) : Int))), (4, .int (zI ((i : Nat) : Int)))]) hx hb dX8_watch_74 rfl hl (by decide) rfl (fun ls hl => ?_)
                exact J13 ((i : Nat) : Int) (by rw [if_neg c7, if_pos c10]) (popc i) (by rw [if_neg c7, if_pos c10]) ls (lv_sub hl [3, 4, 1, 0, 5, 2] rfl)
      exact loop26 ((2 ^ ch - 0) + 1) 0 (by omega) (by omega) sm (by omega) (-9) (by first | rfl | omega | simp) 6 (by first | rfl | omega | simp) 0 (by first | rfl | omega | simp) ls (lv_sub hl [3, 4, 2, 1, 0] rfl)
    · refine lv_iconst (v := zI (-1)) hx hb dX8_watch_15 rfl ?_
      exact zr_iret hx hb hr hlocks hQ (by rw [if_neg (by omega)]) dX8_watch_16
