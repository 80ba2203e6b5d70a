/-! the law: from its entry to its loop (the first rows began as the skeleton) -/
def R_law : String := "SilentRentLaw"
def lw_P (b : Addr) (xs : List Int32) (args : Array Value) (s : State) : Prop := args = #[.ref b] ∧ s.IntsAt b xs ∧ xs.length ≤ 256 ∧ (Jvm.Cond.and given_1 narrow_1).before args s = true
def lw_Q (_ : Array Value) (s : State) (o : Outcome) (t : State) : Prop := o = .returned (some (.int 1)) ∧ Framed s o t [] 600000 7302250
def lw_Z (below : List Frame) (a : Array Value) (s : State) : State → Prop := fun t => ∃ o, t.status = .running ∧ Ended t below o ∧ lw_Q a s o t
/-- the law's own end, with 1 on the stack, nothing written that was there before, its room as the claim has it -/
theorem lw_ret {p : Program} {l : Launch} {e : Env} {s : State} {m : MethodId} {below : List Frame} {meth : Method} {c : Code} {b : Nat} (hx : p.tables.exec = Jvm.exec) (hb : c.code = code) (hr : meth.sig.returnType = ret) (hlocks : meth.locks = false) {pc : Nat} {H : Heap} {ls : Array Slot} (hdg : decode code pc = .ok (.ireturn, 1)) : W p l e room_1 s m #[Value.ref b] below meth c H [] 600000 7302250 (lw_Z below #[Value.ref b] s) (F0 m pc ls [.int 1]) := by
  intro T hT X
  obtain ⟨fs, hret, hrun, hended, hW, hframe⟩ := X.leave (v := some (.int 1)) (hlocks := hlocks) (fun h => by rw [hr] at h; cases h)
  have hmeth' : T.vm.method? m = some meth := X.method'
  refine ⟨T.setFrames fs, ?_, .returned (some (.int 1)), hrun, hended, rfl, ⟨_, rfl⟩, hW, hframe⟩
  jvm_step X.here [X.here.top, hx, hb, hdg, hmeth', hr, ret, narrow_b1]
  (try refine ⟨rfl, ?_⟩); (try refine ⟨rfl, ?_⟩)
  first | (intro acts; rw [hret _ acts rfl rfl rfl]) | rw [hret _ _ rfl rfl rfl]
  exact Steps.refl _
/-- what holds at the law's entry: the machine, the code, the tables' words (any of lw_tbl by 'hts w (by decide +kernel)'), the script of L ints xs at the cell b, what the Statement gives of the start (any of its parts by flat_of_before) -/
def lw_At (p : Program) (s : State) (m : MethodId) (meth : Method) (c : Code) (b L : Nat) (xs : Nat → Int32) : Prop :=
  p.tables.exec = Jvm.exec ∧ c.code = code ∧ meth.sig.returnType = ret ∧ c.maxLocals = 4 ∧ s.vm.findClass R_law = some m.cls ∧ (∀ w ∈ lw_tbl, w.before #[Value.ref b] s = true) ∧ va_X b L xs s s.heap ∧ b < s.heap.size ∧ meth.locks = false ∧ (Jvm.Cond.and given_1 narrow_1).before #[Value.ref b] s = true
theorem lw_perm {c0 c1 c2 c3 c4 c5 c6 c7 c8 c9 c10 c11 c12 c13 c14 c15 c16 c17 c18 c19 c20 : va_W} : (c0 ++ (c2 ++ (c3 ++ (c4 ++ (c5 ++ (c6 ++ (c1 ++ (c12 ++ (c16 ++ (c8 ++ (c9 ++ (c10 ++ (c11 ++ (c13 ++ (c14 ++ (c17 ++ (c18 ++ (c20 ++ (c7 ++ (c15 ++ (c19 ++ []))))))))))))))))))))).Perm (([] ++ ((((((((c0 ++ c1) ++ ((((c2 ++ c3) ++ c4) ++ c5) ++ (c6 ++ c7))) ++ c8) ++ c9) ++ c10) ++ c11) ++ ((c12 ++ c13) ++ (c14 ++ c15))) ++ ((c16 ++ c17) ++ (c18 ++ c19)))) ++ c20) := by
  have h := ((List.Perm.map (fun i => [c0, c1, c2, c3, c4, c5, c6, c7, c8, c9, c10, c11, c12, c13, c14, c15, c16, c17, c18, c19, c20].getD i []) (show ([0, 2, 3, 4, 5, 6, 1, 12, 16, 8, 9, 10, 11, 13, 14, 17, 18, 20, 7, 15, 19] : List Nat).Perm (List.range 21) by decide)).flatten : _)
  have h2 : (c0 ++ (c2 ++ (c3 ++ (c4 ++ (c5 ++ (c6 ++ (c1 ++ (c12 ++ (c16 ++ (c8 ++ (c9 ++ (c10 ++ (c11 ++ (c13 ++ (c14 ++ (c17 ++ (c18 ++ (c20 ++ (c7 ++ (c15 ++ (c19 ++ []))))))))))))))))))))).Perm (c0 ++ (c1 ++ (c2 ++ (c3 ++ (c4 ++ (c5 ++ (c6 ++ (c7 ++ (c8 ++ (c9 ++ (c10 ++ (c11 ++ (c12 ++ (c13 ++ (c14 ++ (c15 ++ (c16 ++ (c17 ++ (c18 ++ (c19 ++ (c20 ++ []))))))))))))))))))))) := h
  have e : c0 ++ (c1 ++ (c2 ++ (c3 ++ (c4 ++ (c5 ++ (c6 ++ (c7 ++ (c8 ++ (c9 ++ (c10 ++ (c11 ++ (c12 ++ (c13 ++ (c14 ++ (c15 ++ (c16 ++ (c17 ++ (c18 ++ (c19 ++ (c20 ++ [])))))))))))))))))))) = (([] ++ ((((((((c0 ++ c1) ++ ((((c2 ++ c3) ++ c4) ++ c5) ++ (c6 ++ c7))) ++ c8) ++ c9) ++ c10) ++ c11) ++ ((c12 ++ c13) ++ (c14 ++ c15))) ++ ((c16 ++ c17) ++ (c18 ++ c19)))) ++ c20) := by simp only [List.append_assoc, List.nil_append, List.append_nil]
  rw [e] at h2
  exact h2
theorem z_img (a b c : Nat) : va_up (va_up (fun _ => none) 0 (some b)) 1 (some c) = fun j => if j < 2 then some ((fun k => [a, b, c].getD k 0) (1 + j)) else none := by
  funext j
  by_cases h : j < 2
  · rcases (show j = 0 ∨ j = 1 by omega) with rfl | rfl <;> rfl
  · rw [up_n (by omega), up_n (by omega), if_neg h]
theorem HB_0 : HB (fun _ => 0) (fun _ => 0) (fun _ => 0) (fun _ => 0) (fun _ => 0) (fun _ => 0) (fun _ => 0) :=
  ⟨fun _ => ⟨Int.le_refl _, by show (0 : Int) ≤ 24; decide⟩, fun _ => ⟨Int.le_refl _, by show (0 : Int) ≤ 12; decide⟩, fun _ => ⟨Int.le_refl _, by show (0 : Int) ≤ 12; decide⟩, fun _ => ⟨Int.le_refl _, by show (0 : Int) ≤ 9; decide⟩, fun _ => ⟨Int.le_refl _, by show (0 : Int) ≤ 9; decide⟩, fun _ => by show 0 < 64; decide, fun _ => by show 0 < 64; decide⟩
theorem rot0 : ∀ j, j < 10 → (fun j : Nat => j) j < 10 := fun j h => h
def rtI : Nat → Nat := fun j => if j < 10 then j else 0
theorem rtI_lt (j : Nat) : rtI j < 10 := by unfold rtI; split <;> omega
theorem rtI_in (i j : Nat) (hi : i < 10) (hj : j < 10) (h : rtI i = rtI j) : i = j := by unfold rtI at h; rw [if_pos hi, if_pos hj] at h; exact h
theorem stp_rtI (ad : Nat → Nat → Nat) : stp ad (fun j => j) = stp ad rtI := by
  funext j
  unfold stp rtI
  by_cases h : j < 10
  · rw [if_pos h, if_pos h, if_pos h]
  · rw [if_neg h, if_neg h]
theorem IMI_0 (A : Nat) (h : ((va_up (va_up (fun _ => 0) 0 0) 277 0) : Nat → Int) A = 0) : IMI 0 0 0 0 (0, (fun _ => (-9)), (fun _ => 0), (fun _ => 0), (fun _ => 0)) 0 rtI (fun _ => (0, (fun _ => (-9)), (fun _ => 0), (fun _ => 0), (fun _ => 0))) (va_up (va_up (fun _ => 0) 0 0) 277 0) A := ⟨Or.inl rfl, h, by decide, rtI_lt, rtI_in, fun q => absurd rfl q⟩
theorem IV_0 : IV 0 (fun _ => 0) 0 0 0 0 0 0 0 (fun _ => 0) (fun _ => 0) (fun _ => 0) (fun _ => 0) (fun _ => 0) (fun _ => 0) (fun _ => 0) (fun _ => 0) (fun _ => 0) (fun _ => 0) (fun _ => 0) (fun _ => 0) (fun _ => 0) (fun _ => 0) (fun _ => 0) 0 (fun _ => -9) (fun _ => 0) (fun _ => 0) (fun _ => 0) 0 rtI (fun _ => (0, (fun _ => (-9)), (fun _ => 0), (fun _ => 0), (fun _ => 0))) (fun _ => 0) 0 0 (fun _ => (-9)) (fun _ => 0) (fun _ => 0) (fun _ => 0) 0 rtI (fun _ => (0, (fun _ => (-9)), (fun _ => 0), (fun _ => 0), (fun _ => 0))) 0 0 (fun _ => (-9)) (fun _ => 0) (fun _ => 0) (fun _ => 0) 0 rtI (fun _ => (0, (fun _ => (-9)), (fun _ => 0), (fun _ => 0), (fun _ => 0))) (va_up (va_up (fun _ => 0) 0 0) 277 0) 0 (fun _ => 0) (fun _ => 0) (fun _ _ => 0) (fun _ => 0) (fun _ => 0) (fun _ => 0) (fun _ => 0) (fun _ => 0) (fun _ => 0) :=
  ⟨by decide, ⟨by decide, fun _ => ⟨Int.le_refl _, by show (0 : Int) ≤ 255; decide⟩, by decide, by decide, by decide⟩, ⟨by decide, by decide, by decide, HB_0, ⟨rfl, rfl, rfl, fun r h => absurd h (Nat.not_lt_zero r), fun r h => absurd h (Nat.not_lt_zero r), fun r h => absurd h (Nat.not_lt_zero r)⟩⟩, HB_0, DG.new 0 0 0, ⟨by decide, rtI_lt, rtI_in, fun j h => absurd h (Nat.not_lt_zero j)⟩, IMI_0 0 ((up_n (by decide)).trans (up_s _ _ _)), IMI_0 277 (up_s _ _ _), ⟨by decide, fun _ => by show 0 < 6; decide, fun _ => ⟨Int.le_refl _, by show (0 : Int) ≤ 24; decide⟩⟩, ⟨fun _ _ => ⟨Int.le_refl _, by show (0 : Int) ≤ 100000; decide⟩, fun _ => ⟨by show (-9 : Int) ≤ 0; decide, by show (0 : Int) < 6; decide⟩, fun _ => by show 0 < 64; decide, fun _ => ⟨Int.le_refl _, by show (0 : Int) ≤ 100000; decide⟩, fun _ => Or.inl rfl, fun _ => ⟨Int.le_refl _, by show (0 : Int) ≤ 64; decide⟩, fun _ => by show 0 < 64; decide⟩, fun k hk => by rw [up_n (by omega), up_n (by omega)]⟩
set_option maxHeartbeats 8000000 in
set_option maxRecDepth 100000 in
theorem lw_ready {p : Program} {e : Env} {s : State} {m : MethodId} {below : List Frame} {meth : Method} {c : Code} (l : Launch) {b L : Nat} {xs : Nat → Int32} {D : va_G} {cy : Nat → ClassId} (hL : L ≤ 256) (F : lwF p s m meth c #[Value.ref b] D cy (fun q => s.heap.size ≤ q) b L xs) (hr : meth.sig.returnType = ret) (hlocks : meth.locks = false) {q0 qm : Nat} {w8 w9 : va_W} (hw8 : snX8 cy q0 w8) (hw9 : snX9 cy qm w9) {H : Heap} {locs : List Loc} (hP : va_P D vwCl (([] ++ w8) ++ w9) H) (hD : va_D (fun q => s.heap.size ≤ q) (([] ++ w8) ++ w9)) (hS : va_S (fun q => s.heap.size ≤ q) s.heap H locs) {ls : Array Slot} (hl : lv_has ls 4 [(3, .int (zI 0)), (2, .ref qm), (1, .ref q0), (0, .ref b)]) : W p l e room_1 s m #[Value.ref b] below meth c H locs 223 3227 (lw_Z below #[Value.ref b] s) (F0 m 18 ls []) := by
  obtain ⟨w9, w20, w31, w42, w53, w72, w83, w94, w124, w124_1, q5, q16, q27, q38, q49, q68, q79, q90, q120, q120_1, q61, q103, hq5, hq16, hq27, hq38, hq49, hq68, hq79, hq90, hq120, hq120_1, rfl⟩ := hw8
  obtain ⟨xa, e_xa, rfl⟩ := hq5
  obtain ⟨h, e_h, rfl⟩ := hq16
  obtain ⟨h2, e_h2, rfl⟩ := hq27
  obtain ⟨na, e_na, rfl⟩ := hq38
  obtain ⟨pa, sad, e_pa, rfl⟩ := hq49
  obtain ⟨ba, e_ba, rfl⟩ := hq68
  obtain ⟨ho, e_ho, rfl⟩ := hq79
  obtain ⟨fa, e_fa, rfl⟩ := hq90
  obtain ⟨ia3, na3, pa3, sad3, e_ia3, rfl⟩ := hq120
  obtain ⟨ia4, na4, pa4, sad4, e_ia4, rfl⟩ := hq120_1
  obtain ⟨ma, e_ma, rfl⟩ := hw9
  have hP := wperm lw_perm hP
  have hD := wpermD lw_perm hD
  simp only [z_img q61, stp_rtI] at hP hD
  have hP2 : va_P D vwCl (lwW cy (fun _ => q0) xa h h2 na pa (fun k => [q61, ia3, ia4].getD k 0) ba ho fa (fun _ => q103) na3 pa3 na4 pa4 ma 0 (fun _ => 0) 0 0 0 0 0 0 0 0 (fun _ => 0) (fun _ => 0) (fun _ => 0) (fun _ => 0) (fun _ => 0) (fun _ => 0) (fun _ => 0) 0 0 0 (fun _ => 0) (fun _ => 0) (fun _ => 0) (fun _ => 0) (fun _ => 0) (fun _ => 0) (fun _ => 0) 0 (fun _ => -9) (fun _ => 0) (fun _ => 0) (fun _ => 0) 0 rtI sad (fun _ => (0, (fun _ => (-9)), (fun _ => 0), (fun _ => 0), (fun _ => 0))) 0 0 0 (fun _ => 0) (fun _ => 0) (fun _ => 0) (fun _ _ => 0) (fun _ => 0) (fun _ => 0) (fun _ => 0) 0 (fun _ => 0) 0 (fun _ => (-9)) (fun _ => 0) (fun _ => 0) (fun _ => 0) 0 rtI sad3 (fun _ => (0, (fun _ => (-9)), (fun _ => 0), (fun _ => 0), (fun _ => 0))) 0 (fun _ => (-9)) (fun _ => 0) (fun _ => 0) (fun _ => 0) 0 rtI sad4 (fun _ => (0, (fun _ => (-9)), (fun _ => 0), (fun _ => 0), (fun _ => 0))) 0 0 0 0 (fun _ => 0) (fun _ => 0) (fun _ => 0) (fun _ => 0) 0 0 (fun _ => 0) 0 (fun _ => 0) (va_up (va_up (fun _ => 0) 0 0) 277 0)) H := by
    subst e_xa e_h e_h2 e_na e_pa e_ba e_ho e_fa e_ia3 e_ia4 e_ma
    exact hP
  have hD2 : va_D (fun q => s.heap.size ≤ q) (lwW cy (fun _ => q0) xa h h2 na pa (fun k => [q61, ia3, ia4].getD k 0) ba ho fa (fun _ => q103) na3 pa3 na4 pa4 ma 0 (fun _ => 0) 0 0 0 0 0 0 0 0 (fun _ => 0) (fun _ => 0) (fun _ => 0) (fun _ => 0) (fun _ => 0) (fun _ => 0) (fun _ => 0) 0 0 0 (fun _ => 0) (fun _ => 0) (fun _ => 0) (fun _ => 0) (fun _ => 0) (fun _ => 0) (fun _ => 0) 0 (fun _ => -9) (fun _ => 0) (fun _ => 0) (fun _ => 0) 0 rtI sad (fun _ => (0, (fun _ => (-9)), (fun _ => 0), (fun _ => 0), (fun _ => 0))) 0 0 0 (fun _ => 0) (fun _ => 0) (fun _ => 0) (fun _ _ => 0) (fun _ => 0) (fun _ => 0) (fun _ => 0) 0 (fun _ => 0) 0 (fun _ => (-9)) (fun _ => 0) (fun _ => 0) (fun _ => 0) 0 rtI sad3 (fun _ => (0, (fun _ => (-9)), (fun _ => 0), (fun _ => 0), (fun _ => 0))) 0 (fun _ => (-9)) (fun _ => 0) (fun _ => 0) (fun _ => 0) 0 rtI sad4 (fun _ => (0, (fun _ => (-9)), (fun _ => 0), (fun _ => 0), (fun _ => 0))) 0 0 0 0 (fun _ => 0) (fun _ => 0) (fun _ => 0) (fun _ => 0) 0 0 (fun _ => 0) 0 (fun _ => 0) (va_up (va_up (fun _ => 0) 0 0) 277 0)) := by
    subst e_xa e_h e_h2 e_na e_pa e_ba e_ho e_fa e_ia3 e_ia4 e_ma
    exact hD
  obtain ⟨hx, hb, hml, hts, hown, hK, hXs, hbl, hbA, hL9⟩ := id F
  have hend : ∀ (H : Heap) (locs : List Loc) (ls : Array Slot), va_S (fun q => s.heap.size ≤ q) s.heap H locs → W p l e room_1 s m #[Value.ref b] below meth c H locs 223 3227 (lw_Z below #[Value.ref b] s) (F0 m 913 ls []) := fun H locs ls hS => by
    refine lv_iconst (v := 1) hx hb dL_law_913 rfl ?_
    refine va_forget (fun q hq => hS.2.2 q hq) ?_
    refine W.widen (k := 600000) (n := 7302250) (by omega) (by omega) ?_
    exact lw_ret hx hb hr hlocks dL_law_914
  have hl2 : lv_has ls 4 [(3, .int (zI ((4 * 0 : Nat) : Int))), (0, .ref b), (1, .ref ((fun _ => q0 : Nat → Nat) 0)), (2, .ref (ma 0))] := by rw [e_ma]; exact lv_sub hl [0, 3, 2, 1] rfl
  exact lw_loop F hend 65 0 (by omega) (fun _ => q0) xa h h2 na pa (fun k => [q61, ia3, ia4].getD k 0) ba ho fa (fun _ => q103) na3 pa3 na4 pa4 ma 0 (fun _ => 0) 0 0 0 0 0 0 0 0 (fun _ => 0) (fun _ => 0) (fun _ => 0) (fun _ => 0) (fun _ => 0) (fun _ => 0) (fun _ => 0) 0 0 0 (fun _ => 0) (fun _ => 0) (fun _ => 0) (fun _ => 0) (fun _ => 0) (fun _ => 0) (fun _ => 0) 0 (fun _ => -9) (fun _ => 0) (fun _ => 0) (fun _ => 0) 0 rtI sad (fun _ => (0, (fun _ => (-9)), (fun _ => 0), (fun _ => 0), (fun _ => 0))) 0 0 0 (fun _ => 0) (fun _ => 0) (fun _ => 0) (fun _ _ => 0) (fun _ => 0) (fun _ => 0) (fun _ => 0) 0 (fun _ => 0) 0 (fun _ => (-9)) (fun _ => 0) (fun _ => 0) (fun _ => 0) 0 rtI sad3 (fun _ => (0, (fun _ => (-9)), (fun _ => 0), (fun _ => 0), (fun _ => 0))) 0 (fun _ => (-9)) (fun _ => 0) (fun _ => 0) (fun _ => 0) 0 rtI sad4 (fun _ => (0, (fun _ => (-9)), (fun _ => 0), (fun _ => 0), (fun _ => 0))) 0 0 0 0 (fun _ => 0) (fun _ => 0) (fun _ => 0) (fun _ => 0) 0 0 (fun _ => 0) 0 (fun _ => 0) (va_up (va_up (fun _ => 0) 0 0) 277 0) IV_0 H locs hP2 hD2 hS ls hl2
set_option maxHeartbeats 8000000 in
set_option maxRecDepth 100000 in
theorem lw_start {p : Program} {e : Env} {s : State} {m : MethodId} {below : List Frame} {meth : Method} {c : Code} (l : Launch) {b L : Nat} {xs : Nat → Int32} (hL : L ≤ 256) (hwl : ∀ w ∈ wsL_law, w ∈ lw_tbl) (C0 : lw_At p s m meth c b L xs) : W p l e room_1 s m #[Value.ref b] below meth c s.heap [] 0 0 (lw_Z below #[Value.ref b] s) (entryFrame m ([Value.ref b] : List Value).toArray 4) := by
  obtain ⟨hx, hb, hr, hml, hown, hts, hX, hbl, hlocks, hgv⟩ := id C0
  have hown : s.vm.findClass RL = some m.cls := hown
  have htl : ∀ w ∈ wsL_law, w.before #[Value.ref b] s = true := fun w h => hts w (hwl w h)
  have hA : ∀ q : Nat, s.heap.size ≤ q → (fun q : Nat => s.heap.size ≤ q) q := fun _ h => h
  have hbA : ¬ (fun q : Nat => s.heap.size ≤ q) b := Nat.not_le.mpr hbl
  obtain ⟨c0, iS0, hKn0⟩ := u_known (C := RX0) (T := TX0) (N := 3) (n := 3) htl inlX0 (htl (.instantiable RX0 3) (List.mem_of_getElem? (i := 32) (by decide +kernel)))
  obtain ⟨c1, iS1, hKn1⟩ := u_known (C := RX1) (T := TX1) (N := 4) (n := 4) htl inlX1 (htl (.instantiable RX1 4) (List.mem_of_getElem? (i := 40) (by decide +kernel)))
  obtain ⟨c2, iS2, hKn2⟩ := u_known (C := RX2) (T := TX2) (N := 10) (n := 10) htl inlX2 (htl (.instantiable RX2 10) (List.mem_of_getElem? (i := 17) (by decide +kernel)))
  obtain ⟨c3, iS3, hKn3⟩ := u_known (C := RX3) (T := TX3) (N := 2) (n := 2) htl inlX3 (htl (.instantiable RX3 2) (List.mem_of_getElem? (i := 36) (by decide +kernel)))
  obtain ⟨c4, iS4, hKn4⟩ := u_known (C := RX4) (T := TX4) (N := 3) (n := 3) htl inlX4 (htl (.instantiable RX4 3) (List.mem_of_getElem? (i := 45) (by decide +kernel)))
  obtain ⟨c5, iS5, hKn5⟩ := u_known (C := RX5) (T := TX5) (N := 5) (n := 5) htl inlX5 (htl (.instantiable RX5 5) (List.mem_of_getElem? (i := 22) (by decide +kernel)))
  obtain ⟨c6, iS6, hKn6⟩ := u_known (C := RX6) (T := TX6) (N := 2) (n := 2) htl inlX6 (htl (.instantiable RX6 2) (List.mem_of_getElem? (i := 26) (by decide +kernel)))
  obtain ⟨c7, iS7, hKn7⟩ := u_known (C := RX7) (T := TX7) (N := 6) (n := 6) htl inlX7 (htl (.instantiable RX7 6) (List.mem_of_getElem? (i := 13) (by decide +kernel)))
  obtain ⟨c8, iS8, hKn8⟩ := u_known (C := RX8) (T := TX8) (N := 11) (n := 11) htl inlX8 (htl (.instantiable RX8 11) (List.mem_of_getElem? (i := 1) (by decide +kernel)))
  obtain ⟨c9, iS9, hKn9⟩ := u_known (C := RX9) (T := TX9) (N := 22) (n := 22) htl inlX9 (htl (.instantiable RX9 22) (List.mem_of_getElem? (i := 4) (by decide +kernel)))
  obtain ⟨dC, dI, hKc⟩ : ∃ (dC : Nat → ClassId) (dI : Nat → Nat → Nat), ∀ (k : Nat) (q : vw_C), vwCl[k]? = some q → u_Kn s q.1 q.2.1 q.2.2 (dC k) (dI k) := by
    refine ⟨fun k => if k = 0 then c0 else if k = 1 then c1 else if k = 2 then c2 else if k = 3 then c3 else if k = 4 then c4 else if k = 5 then c5 else if k = 6 then c6 else if k = 7 then c7 else if k = 8 then c8 else c9, fun k => if k = 0 then iS0 else if k = 1 then iS1 else if k = 2 then iS2 else if k = 3 then iS3 else if k = 4 then iS4 else if k = 5 then iS5 else if k = 6 then iS6 else if k = 7 then iS7 else if k = 8 then iS8 else iS9, ?_⟩
    intro k q hq
    match k, hq with
    | 0, hq => cases hq; exact hKn0
    | 1, hq => cases hq; exact hKn1
    | 2, hq => cases hq; exact hKn2
    | 3, hq => cases hq; exact hKn3
    | 4, hq => cases hq; exact hKn4
    | 5, hq => cases hq; exact hKn5
    | 6, hq => cases hq; exact hKn6
    | 7, hq => cases hq; exact hKn7
    | 8, hq => cases hq; exact hKn8
    | 9, hq => cases hq; exact hKn9
    | k + 10, hq => simp [vwCl] at hq
  have hE : EXs s := ⟨va_AO.of (hts (.arrayOver (.object "SilentRent$Now")) (List.mem_append_right _ (List.mem_of_getElem? (i := 152) (by decide +kernel)))), va_AO.of (hts (.arrayOver (.object "SilentRent$Image")) (List.mem_append_right _ (List.mem_of_getElem? (i := 163) (by decide +kernel)))), va_AOA.of (hts (.arrayOver (.array .int)) (List.mem_append_right _ (List.mem_of_getElem? (i := 190) (by decide +kernel)))), va_Nw.of rfl (hts (.methodLinkNest RX8 9 yX7_init RX8) (List.mem_append_right _ (List.mem_of_getElem? (i := 25) (by decide +kernel)))), va_Nw.of rfl (hts (.methodLinkNest RX8 18 yX2_init RX8) (List.mem_append_right _ (List.mem_of_getElem? (i := 53) (by decide +kernel)))), va_Nw.of rfl (hts (.methodLinkNest RX8 48 yX0_init RX8) (List.mem_append_right _ (List.mem_of_getElem? (i := 166) (by decide +kernel)))), va_Nw.of rfl (hts (.methodLinkNest RX8 55 yX3_init RX8) (List.mem_append_right _ (List.mem_of_getElem? (i := 185) (by decide +kernel)))), va_Nw.of rfl (hts (.methodLinkNest RX8 62 yX1_init RX8) (List.mem_append_right _ (List.mem_of_getElem? (i := 201) (by decide +kernel)))), va_Nw.of rfl (hts (.methodLinkNest RX8 71 yX4_init RX8) (List.mem_append_right _ (List.mem_of_getElem? (i := 221) (by decide +kernel))))⟩
  obtain ⟨cI, kI, pI, i1, i2, i3⟩ := Cond.arrayClass_spec (type := .int) (htl (.arrayClass .int) (List.mem_of_getElem? (i := 43) (by decide +kernel)))
  obtain ⟨cB, kB, pB, b1, b2, b3⟩ := Cond.arrayClass_spec (type := .boolean) (htl (.arrayClass .boolean) (List.mem_of_getElem? (i := 95) (by decide +kernel)))
  obtain ⟨pN, cN, kN, n1, n2, n3, n4, n5⟩ := Cond.arrayOver_spec hE.1
  obtain ⟨pM, cM, kM, m1, m2, m3, m4, m5⟩ := Cond.arrayOver_spec hE.2.1
  obtain ⟨pR, cR, kR, r1, r2, r3, r4⟩ := Cond.arrayOver_specA hE.2.2.1
  obtain ⟨cy, hcy⟩ : ∃ cy : Nat → ClassId, cy = fun k => if k = 0 then cI else if k = 1 then cB else if k = 2 then cN else if k = 3 then cM else cR := ⟨_, rfl⟩
  have hK : va_K (dC, dI) vwCl (TYL cy) s := by
    refine ⟨hKc, fun k q hk => ?_⟩
    subst hcy
    match k, hk with
    | 0, hk => cases hk; exact ⟨fun n z => ⟨fun k h => (by cases h), kI, i2, pI, i3⟩, i1⟩
    | 1, hk => cases hk; exact ⟨fun n z => ⟨fun k h => (by cases h), kB, b2, pB, b3⟩, b1⟩
    | 2, hk => cases hk; exact ⟨fun n z => ⟨fun k h => (by cases h), kN, n3, pN, n4⟩, kN, pN, n3, n4, n1, n5⟩
    | 3, hk => cases hk; exact ⟨fun n z => ⟨fun k h => (by cases h), kM, m3, pM, m4⟩, kM, pM, m3, m4, m1, m5⟩
    | 4, hk => cases hk; exact ⟨fun n z => ⟨fun k h => (by cases h), kR, r2, pR, r3⟩, r4⟩
    | k + 5, hk => simp [TYL] at hk
  clear hcy
  have hS : va_S (fun q : Nat => s.heap.size ≤ q) s.heap s.heap [] := va_S.rf
  have hP : va_P (dC, dI) vwCl [] s.heap := fun k q h => by simp at h
  have hD : va_D (fun q : Nat => s.heap.size ≤ q) [] := ⟨fun i j p q h => by simp at h, fun k q h => by simp at h⟩
  have hl := lv_entry ([.ref b]) (n := 4) (Nat.le_of_ble_eq_true rfl)
  rw [lg_entry_eq]
  generalize (lg_sl ([.ref b]) ++ List.replicate (4 - (lg_sl ([.ref b])).length) Slot.unset).toArray = ls at hl ⊢
  have hl : lv_has ls 4 [(0, .ref b)] := hl
  refine va_new (ci := 8) (fs := [.null, .null, .null, .null, .null, .null, .null, .null, .null, .null, .long (zL 0)]) (C := RX8) (T := TX8) (N := 11) hx hb htl inlX8 tyX8 tyX8_ok hown (htl (.classLink RL 7 RX8) (List.mem_of_getElem? (i := 0) (by decide +kernel))) (htl (.instantiable RX8 11) (List.mem_of_getElem? (i := 1) (by decide +kernel))) (htl (.initialized RX8) (List.mem_of_getElem? (i := 2) (by decide +kernel))) hK hP hD hS hA rfl (fun j hj => by rcases (show j = 0 ∨ j = 1 ∨ j = 2 ∨ j = 3 ∨ j = 4 ∨ j = 5 ∨ j = 6 ∨ j = 7 ∨ j = 8 ∨ j = 9 ∨ j = 10 by omega) with rfl | rfl | rfl | rfl | rfl | rfl | rfl | rfl | rfl | rfl | rfl <;> rfl) (Nat.le_of_ble_eq_true rfl) (Nat.le_of_ble_eq_true rfl) dL_law_0 (fun q0 H hP hD hS => ?_)
  refine lv_dup hx hb dL_law_3 rfl ?_
  refine zn_call (wr := []) (q := q0) (e0 := .inr (8, [.null, .null, .null, .null, .null, .null, .null, .null, .null, .null, .long (zL 0)])) (rest := [.ref q0]) ⟨hx, hb, hml, hown, htl⟩ (c_X8_init l (dC, dI) cy q0 H.size) (cwI 0 htl gL_law_X8_init rfl rfl rfl (htl (.initialized RX8) (List.mem_of_getElem? (i := 2) (by decide +kernel))) (htl (.methodLink RL 9 yX8_init) (List.mem_of_getElem? (i := 6) (by decide +kernel))) (htl (.instanceMethod yX8_init) (List.mem_of_getElem? (i := 7) (by decide +kernel))) rfl (by decide +kernel) ⟨Nat.le_of_ble_eq_true rfl, Nat.le_of_ble_eq_true rfl⟩) hK hE hP hD hS hA hl.1 rfl (Nat.le_of_ble_eq_true rfl) dL_law_4 ⟨Nat.le_of_ble_eq_true rfl, Nat.le_of_ble_eq_true rfl⟩ (fun w8 H locs hw8 hP hD hS => ?_)
  refine lv_astore_n (lv' := [(1, .ref q0), (0, .ref b)]) hx hb dL_law_7 rfl hl (by decide) rfl (fun ls hl => ?_)
  refine va_new (ci := 9) (fs := [.null, .int (zI 0), .int (zI 0), .int (zI 0), .int (zI 0), .int (zI 0), .null, .null, .null, .null, .int (zI 0), .null, .int (zI 0), .int (zI 0), .null, .int (zI 0), .null, .null, .int (zI 0), .null, .long (zL 0), .null]) (C := RX9) (T := TX9) (N := 22) hx hb htl inlX9 tyX9 tyX9_ok hown (htl (.classLink RL 10 RX9) (List.mem_of_getElem? (i := 3) (by decide +kernel))) (htl (.instantiable RX9 22) (List.mem_of_getElem? (i := 4) (by decide +kernel))) (htl (.initialized RX9) (List.mem_of_getElem? (i := 5) (by decide +kernel))) hK hP hD hS hA rfl (fun j hj => by rcases (show j = 0 ∨ j = 1 ∨ j = 2 ∨ j = 3 ∨ j = 4 ∨ j = 5 ∨ j = 6 ∨ j = 7 ∨ j = 8 ∨ j = 9 ∨ j = 10 ∨ j = 11 ∨ j = 12 ∨ j = 13 ∨ j = 14 ∨ j = 15 ∨ j = 16 ∨ j = 17 ∨ j = 18 ∨ j = 19 ∨ j = 20 ∨ j = 21 by omega) with rfl | rfl | rfl | rfl | rfl | rfl | rfl | rfl | rfl | rfl | rfl | rfl | rfl | rfl | rfl | rfl | rfl | rfl | rfl | rfl | rfl | rfl <;> rfl) (Nat.le_of_ble_eq_true rfl) (Nat.le_of_ble_eq_true rfl) dL_law_8 (fun qm H hP hD hS => ?_)
  refine lv_dup hx hb dL_law_11 rfl ?_
  refine zn_call (wr := ([] ++ w8)) (q := qm) (e0 := .inr (9, [.null, .int (zI 0), .int (zI 0), .int (zI 0), .int (zI 0), .int (zI 0), .null, .null, .null, .null, .int (zI 0), .null, .int (zI 0), .int (zI 0), .null, .int (zI 0), .null, .null, .int (zI 0), .null, .long (zL 0), .null])) (rest := [.ref qm]) ⟨hx, hb, hml, hown, htl⟩ (c_X9_init l (dC, dI) cy qm H.size) (cwI 0 htl gL_law_X9_init rfl rfl rfl (htl (.initialized RX9) (List.mem_of_getElem? (i := 5) (by decide +kernel))) (htl (.methodLink RL 12 yX9_init) (List.mem_of_getElem? (i := 107) (by decide +kernel))) (htl (.instanceMethod yX9_init) (List.mem_of_getElem? (i := 108) (by decide +kernel))) rfl (by decide +kernel) ⟨Nat.le_of_ble_eq_true rfl, Nat.le_of_ble_eq_true rfl⟩) hK hE hP hD hS hA hl.1 rfl (Nat.le_of_ble_eq_true rfl) dL_law_12 ⟨Nat.le_of_ble_eq_true rfl, Nat.le_of_ble_eq_true rfl⟩ (fun w9 H locs hw9 hP hD hS => ?_)
  refine lv_astore_n (lv' := [(2, .ref qm), (1, .ref q0), (0, .ref b)]) hx hb dL_law_15 rfl hl (by decide) rfl (fun ls hl => ?_)
  refine lv_iconst (v := zI 0) hx hb dL_law_16 rfl ?_
  refine lv_istore_n (lv' := [(3, .int (zI 0)), (2, .ref qm), (1, .ref q0), (0, .ref b)]) hx hb dL_law_17 rfl hl (by decide) rfl (fun ls hl => ?_)
  exact lw_ready l hL ⟨hx, hb, hml, htl, hown, hK, hX, hbl, hbA, hL⟩ hr hlocks hw8 hw9 hP hD hS hl
