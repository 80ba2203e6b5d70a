/-! constructors: contracts that make -/
theorem va_AOA.moved {ty : FieldType} {u U : State} (hvm : u.vm.Alike U.vm) (h : va_AOA ty u) : va_AOA ty U := (Cond.arrayOver_setVmC (args := #[]) hvm (.array ty)).trans h
def EXs (U : State) : Prop := va_AO "SilentRent$Now" U ∧ va_AO "SilentRent$Image" U ∧ va_AOA .int U ∧ va_Nw (.methodLinkNest RX8 9 yX7_init RX8) U ∧ va_Nw (.methodLinkNest RX8 18 yX2_init RX8) U ∧ va_Nw (.methodLinkNest RX8 48 yX0_init RX8) U ∧ va_Nw (.methodLinkNest RX8 55 yX3_init RX8) U ∧ va_Nw (.methodLinkNest RX8 62 yX1_init RX8) U ∧ va_Nw (.methodLinkNest RX8 71 yX4_init RX8) U
theorem EXs.warm {s U : State} (hW : s.WarmedH U.vm) (h : EXs s) : EXs U := by
  obtain ⟨h1, h2, h3, h4, h5, h6, h7, h8, h9⟩ := h
  exact ⟨va_AO.moved hW.alike h1, va_AO.moved hW.alike h2, va_AOA.moved hW.alike h3, va_Nw.warmM hW h4, va_Nw.warmM hW h5, va_Nw.warmM hW h6, va_Nw.warmM hW h7, va_Nw.warmM hW h8, va_Nw.warmM hW h9⟩
theorem EXs.same {s U : State} (h : s.vm = U.vm) (hE : EXs s) : EXs U := by
  obtain ⟨h1, h2, h3, h4, h5, h6, h7, h8, h9⟩ := hE
  exact ⟨va_AO.moved (by rw [h]; exact Vm.Alike.refl U.vm) h1, va_AO.moved (by rw [h]; exact Vm.Alike.refl U.vm) h2, va_AOA.moved (by rw [h]; exact Vm.Alike.refl U.vm) h3, va_Nw.same rfl h h4, va_Nw.same rfl h h5, va_Nw.same rfl h h6, va_Nw.same rfl h h7, va_Nw.same rfl h h8, va_Nw.same rfl h h9⟩
abbrev pN (D : va_G) (cy : Nat → ClassId) (wd : va_W) (av : List Value) (sz : Nat) : Array Value → State → Prop := va_Pc av (fun U => U.heap.size = sz ∧ va_P D vwCl wd U.heap ∧ va_K D vwCl (TYL cy) U ∧ va_D (fun _ => True) wd ∧ EXs U)
abbrev qN (D : va_G) (S : va_W → Prop) (wd : va_W) (sz : Nat) : Array Value → State → Outcome → State → Prop := va_Qv S (fun w t => va_P D vwCl w t.heap ∧ va_D (va_A wd sz) w) (va_A wd sz)
theorem pN_blind {D : va_G} {cy : Nat → ClassId} {wd : va_W} {av : List Value} {sz : Nat} : FrameBlind (pN D cy wd av sz) := fun a U g mk q => ⟨q.1, q.2.1, q.2.2.1, va_K.moved (u := U) (U := U.calling g mk a) (Vm.Alike.refl U.vm) q.2.2.2.1, q.2.2.2.2.1, EXs.same (s := U) (U := U.calling g mk a) rfl q.2.2.2.2.2⟩
theorem met_N {l : Launch} {y : MethodName} {ws ws' : List Cond} {rm : Room} {cc : ByteArray} {maxL : Nat} {D : va_G} {cy : Nat → ClassId} {wd : va_W} {av : List Value} {sz mc ms : Nat} {S : va_W → Prop} (own : String) (hy : plainName y.cls = true) (ho : y.cls = own) (hyn : y.name = "<init>") (hw : ws = Cond.code y cc maxL none :: ws') (hlen : (lg_sl av).length ≤ maxL)
    (body : ∀ (p : Program) (e : Env) (s : State) (m : MethodId) (args : Array Value) (below : List Frame) (meth : Method) (c : Code) (ls : Array Slot) (Q : State → Prop) (A0 : Nat → Prop), p.tables.exec = Jvm.exec → c.code = cc → meth.sig.returnType = none → c.maxLocals = maxL → (∀ w ∈ ws, w.before args s = true) → s.vm.findClass own = some m.cls → meth.locks = false → meth.name = "<init>" → Q = MQ below (qN D S wd s.heap.size) args s mc ms (va_A wd s.heap.size) → A0 = va_A wd s.heap.size → (∀ q : Nat, s.heap.size ≤ q → A0 q) → va_P D vwCl wd s.heap → va_K D vwCl (TYL cy) s → va_D A0 wd → va_S A0 s.heap s.heap [] → EXs s → lv_has ls maxL (lv_args 0 av) →
      W p l e rm s m args below meth c s.heap [] 0 0 Q (F0 m 0 ls [])) : Met l y ws rm (pN D cy wd av sz) (qN D S wd sz) mc ms (va_A wd sz) := by
  refine Met.ofW hy hw ?_
  intro p e s m args below meth c s₁ B hml hv
  obtain ⟨rfl, hsz, hP, hK, hD, hE⟩ := hv
  subst hsz
  have hx := B.exec
  have hb := B.bytes
  have hr := B.returns
  have hts := atoms_spec (ws := ws) B.pre
  have hown : s.vm.findClass own = some m.cls := by rw [← ho]; exact findClass_of_methodNamed B.named
  have hlocks := B.notSynchronized
  have hin : meth.name = "<init>" := ((name_of_methodNamed B.named B.method).1).trans hyn
  have hl := lv_entry av (n := maxL) hlen
  rw [lg_entry_eq]
  exact body p e s m _ below meth c _ _ _ hx hb hr hml hts hown hlocks hin rfl rfl (fun q h => Or.inr h) hP hK (hD.self) va_S.rf hE hl
section ZN
variable {p : Program} {l : Launch} {e : Env} {R : Room} {s : State} {m : MethodId} {args : Array Value} {below : List Frame} {meth : Method} {c : Code} {H : Heap} {locs : List Loc} {cells slots : Nat} {Q : State → Prop}
variable {cc : ByteArray} {pc : Nat} {ls : Array Slot} {st rest As : List Value} {D : va_G} {cy : Nat → ClassId} {A : Nat → Prop} {b : Nat} {H0 : Heap} {C own : String} {Ts : List Cond} {y : MethodName} {wsY : List Cond} {rm : Room} {bytes : ByteArray} {maxL nL n index mc ms : Nat} {ret : Option FieldType} {ws : va_W}
theorem cy_of {ty : FieldType} {cA cB : ClassId} (h1 : va_RA s cA ty) (h2 : va_RA s cB ty) : cA = cB := by
  cases ty with
  | object C =>
    obtain ⟨_, _, _, _, _, h1⟩ := h1
    obtain ⟨_, _, _, _, _, h2⟩ := h2
    exact Option.some.inj (h1.symm.trans h2)
  | _ => exact Option.some.inj (Eq.trans (Eq.symm h1) h2)
theorem cy_last {tys : List (ClassId × FieldType)} {cA : ClassId} {ty : FieldType} (h : va_K D vwCl (tys ++ [(cA, ty)]) s) : va_RA s cA ty := (h.2 tys.length (cA, ty) (by rw [List.getElem?_append_right (Nat.le_refl _), Nat.sub_self]; rfl)).2
theorem zn_vret {wd w : va_W} {S : va_W → Prop} {A0 : Nat → Prop} (hx : p.tables.exec = Jvm.exec) (hb : c.code = cc) (hr : meth.sig.returnType = none) (hlocks : meth.locks = false) (hQ : Q = MQ below (qN D S wd s.heap.size) args s mc ms (va_A wd s.heap.size)) (hA0 : A0 = va_A wd s.heap.size) (hw : S w) (hP : va_P D vwCl w H) (hD : va_D A0 w) (hS : va_S A0 s.heap H locs) (hdg : decode cc pc = .ok (.return_, 1)) : W p l e R s m args below meth c H locs mc ms Q (F0 m pc ls []) := by
  subst hQ; subst hA0
  exact W.vret hx hb hr (fun t ht hW => ⟨⟨w, rfl, hw, by rw [ht]; exact hP, hD⟩, hS.F ht⟩) hS.2.2 hdg hlocks
theorem zn_newA (hx : p.tables.exec = Jvm.exec) (hb : c.code = cc) (at0 : ArrayType) {ty : FieldType} (hty : newarray.typeOf at0 = ty) (t0 : Nat) {cA : ClassId} (ht : (TYL cy)[t0]? = some (cA, ty)) (hdv : defaultValue ty = .int 0) (hbt : componentBytes ty ≤ 8) (harr : (Cond.arrayClass ty).before args s = true) (hK : va_K D vwCl (TYL cy) s) (hP : va_P D vwCl ws H) (hD : va_D A ws) (hS : va_S A H0 H locs) (hA : ∀ q, H0.size ≤ q → A q) {i : Int} (N : Nat) (hi : i = (N : Int)) (hN : N ≤ 65536) (f : Nat → Int) (hf : ∀ j, f j = 0) (hcells : cells + 1 ≤ R.cells) (hslots : slots + N ≤ R.slots) (hdg : decode cc pc = .ok (.newarray at0, 2))
    (kk : ∀ (q : Nat) (H1 : Heap), va_P D vwCl (ws ++ [(q, .inl (cA, N, .inl (zA f)))]) H1 → va_D A (ws ++ [(q, .inl (cA, N, .inl (zA f)))]) → va_S A H0 H1 locs → W p l e R s m args below meth c H1 locs (cells + 1) (slots + N) Q (F0 m (pc + 2) ls (.ref q :: rest))) : W p l e R s m args below meth c H locs cells slots Q (F0 m pc ls (.int (zI i) :: rest)) := by
  subst hi
  have hfe : zA f = fun _ => (0 : Int32) := funext fun j => by show zI (f j) = 0; rw [hf, ← zI_0]
  refine va_newa (atype := at0) (N' := N) (a0 := (N, .inl (zA f))) hx hb (by rw [hty]; exact harr) hty hK hP hD hS hA (fun cA => by rw [vp_cell_i, hfe, hdv]) (fun q => by rw [zI_0, zI_lt ⟨by omega, by omega⟩ ⟨by omega, by omega⟩] at q; omega) (by rw [zI_cl ⟨by omega, by omega⟩, Int.toNat_natCast]) (Nat.le_trans (Nat.mul_le_mul hN hbt) (by decide)) hcells hslots hdg (fun q cB H1 hK2 hP1 hD1 hS1 => ?_)
  have e : cB = cA := cy_of (cy_last hK2) (hK.2 t0 _ ht).2
  subst e
  exact kk q H1 hP1 hD1 hS1
theorem zn_newR (hx : p.tables.exec = Jvm.exec) (hb : c.code = cc) {index : Nat} {E : String} (t0 : Nat) {cA : ClassId} (ht : (TYL cy)[t0]? = some (cA, .object E)) (hown : s.vm.findClass own = some m.cls) (hclink : (Cond.classLink own index E).before args s = true) (hover : va_AO E s) (hK : va_K D vwCl (TYL cy) s) (hP : va_P D vwCl ws H) (hD : va_D A ws) (hS : va_S A H0 H locs) (hA : ∀ q, H0.size ≤ q → A q) {i : Int} (N : Nat) (hi : i = (N : Int)) (hN : N ≤ 65536) (hcells : cells + 1 ≤ R.cells) (hslots : slots + N ≤ R.slots) (hdg : decode cc pc = .ok (.anewarray index, 3))
    (kk : ∀ (q : Nat) (H1 : Heap), va_P D vwCl (ws ++ [(q, .inl (cA, N, .inr (.inr (.inr (.inr (fun _ => none))))))]) H1 → va_D A (ws ++ [(q, .inl (cA, N, .inr (.inr (.inr (.inr (fun _ => none))))))]) → va_S A H0 H1 locs → W p l e R s m args below meth c H1 locs (cells + 1) (slots + N) Q (F0 m (pc + 3) ls (.ref q :: rest))) : W p l e R s m args below meth c H locs cells slots Q (F0 m pc ls (.int (zI i) :: rest)) := by
  subst hi
  refine va_newq (N' := N) hx hb hown hclink hover hK hP hD hS hA (fun q => by rw [zI_0, zI_lt ⟨by omega, by omega⟩ ⟨by omega, by omega⟩] at q; omega) (by rw [zI_cl ⟨by omega, by omega⟩, Int.toNat_natCast]) (by omega) hcells hslots hdg (fun q cB H1 hK2 hP1 hD1 hS1 => ?_)
  have e : cB = cA := cy_of (cy_last hK2) (hK.2 t0 _ ht).2
  subst e
  exact kk q H1 hP1 hD1 hS1
theorem zn_rows (r : Nat → Nat) (f : Nat → va_E) (x : va_E) : va_pl ([] ++ (List.range 7).map r) (vr_up f ((List.range 7).map r) x) = [(r 0, x), (r 1, x), (r 2, x), (r 3, x), (r 4, x), (r 5, x), (r 6, x)] :=
  (vr_rows (L := []) (f := f) (fun a _ h => by cases h)).symm
theorem zn_join {wr w1 : va_W} {q : Nat} {e0 : va_E} {H1 : Heap} (hP : va_P D vwCl (wr ++ [(q, e0)]) H) (hD : va_D A (wr ++ [(q, e0)])) (hA : ∀ x, H.size ≤ x → A x) (hk : ∀ x : Nat, x < H.size → ¬ va_A [(q, e0)] H.size x → H1[x]? = H[x]?) (hP1 : va_P D vwCl w1 H1) (hD1 : va_D (va_A [(q, e0)] H.size) w1) : va_P D vwCl (wr ++ w1) H1 ∧ va_D A (wr ++ w1) := by
  have hq : (wr ++ [(q, e0)])[wr.length]? = some (q, e0) := by rw [List.getElem?_append_right (Nat.le_refl _), Nat.sub_self]; rfl
  have hAq : A q := hD.2 _ _ hq
  have hl : ∀ (k : Nat) (x : Nat × va_E), wr[k]? = some x → (wr ++ [(q, e0)])[k]? = some x := fun k x hx => by
    rw [List.getElem?_append_left (List.getElem?_eq_some_iff.mp hx).1]; exact hx
  have hout : ∀ (k : Nat) (x : Nat × va_E), wr[k]? = some x → x.1 < H.size ∧ ¬ va_A [(q, e0)] H.size x.1 := fun k x hx => by
    have h1 := (hP k x (hl k x hx)).lt
    refine ⟨h1, fun h => ?_⟩
    rcases h with ⟨k2, e2, h2⟩ | h2
    · have hk0 : k2 = 0 := by
        have := (List.getElem?_eq_some_iff.mp h2).1
        simpa using this
      subst hk0
      have hx1 : x.1 = q := by cases h2; rfl
      have := hD.1 k wr.length x (q, e0) (hl k x hx) hq hx1
      have := (List.getElem?_eq_some_iff.mp hx).1
      omega
    · omega
  have hin : ∀ x, va_A [(q, e0)] H.size x → A x := fun x h => by
    rcases h with ⟨k2, e2, h2⟩ | h2
    · have hk0 : k2 = 0 := by
        have := (List.getElem?_eq_some_iff.mp h2).1
        simpa using this
      subst hk0
      cases h2
      exact hAq
    · exact hA x h2
  refine ⟨va_P.app (fun k x hx => (hP k x (hl k x hx)).kept (hk _ (hout k x hx).1 (hout k x hx).2)) hP1, fun i j x z hi hj hxz => ?_, fun k x hx => ?_⟩
  · by_cases h1 : i < wr.length <;> by_cases h2 : j < wr.length
    · rw [List.getElem?_append_left h1] at hi
      rw [List.getElem?_append_left h2] at hj
      exact hD.1 i j x z (hl i x hi) (hl j z hj) hxz
    · rw [List.getElem?_append_left h1] at hi
      rw [List.getElem?_append_right (by omega)] at hj
      exact absurd (hxz ▸ hD1.2 _ _ hj) (hout i x hi).2
    · rw [List.getElem?_append_right (by omega)] at hi
      rw [List.getElem?_append_left h2] at hj
      exact absurd (hxz.symm ▸ hD1.2 _ _ hi) (hout j z hj).2
    · rw [List.getElem?_append_right (by omega)] at hi hj
      have := hD1.1 _ _ x z hi hj hxz
      omega
  · by_cases h1 : k < wr.length
    · rw [List.getElem?_append_left h1] at hx
      exact hD.2 k x (hl k x hx)
    · rw [List.getElem?_append_right (by omega)] at hx
      exact hin _ (hD1.2 _ _ hx)
theorem zn_one {wr : va_W} {q : Nat} {e0 : va_E} (hP : va_P D vwCl (wr ++ [(q, e0)]) H) : va_P D vwCl [(q, e0)] H := fun k x hx => by
  have hk0 : k = 0 := by
    have := (List.getElem?_eq_some_iff.mp hx).1
    simpa using this
  subst hk0
  exact hP wr.length x (by rw [List.getElem?_append_right (Nat.le_refl _), Nat.sub_self]; exact hx)
theorem zn_oneD {q : Nat} {e0 : va_E} : va_D (fun _ => True) [(q, e0)] := ⟨fun i j x z hi hj _ => by
  have h1 := (List.getElem?_eq_some_iff.mp hi).1
  have h2 := (List.getElem?_eq_some_iff.mp hj).1
  have h3 : i < 1 := h1
  have h4 : j < 1 := h2
  omega, fun _ _ _ => trivial⟩
theorem zn_go {S : va_W → Prop} {wr : va_W} {q : Nat} {e0 : va_E} (hr : va_Run p l e R s m args below meth c H locs cells slots mc ms (F0 m pc ls st) rest (qN D S [(q, e0)] H.size #[.ref q]) (va_A [(q, e0)] H.size)) (hP : va_P D vwCl (wr ++ [(q, e0)]) H) (hD : va_D A (wr ++ [(q, e0)])) (hS : va_S A H0 H locs) (hA : ∀ q, H0.size ≤ q → A q)
    (kk : ∀ (w1 : va_W) (H1 : Heap) (locs1 : List Loc), S w1 → va_P D vwCl (wr ++ w1) H1 → va_D A (wr ++ w1) → va_S A H0 H1 locs1 → W p l e R s m args below meth c H1 locs1 (cells + mc) (slots + ms) Q (F0 m (pc + 3) ls rest)) : W p l e R s m args below meth c H locs cells slots Q (F0 m pc ls st) := by
  have hAH : ∀ x, H.size ≤ x → A x := fun x h => hA x (Nat.le_trans hS.1 h)
  have hin : ∀ x, va_A [(q, e0)] H.size x → A x := fun x h => by
    rcases h with ⟨k2, e2, h2⟩ | h2
    · have hk0 : k2 = 0 := by
        have := (List.getElem?_eq_some_iff.mp h2).1
        simpa using this
      subst hk0
      cases h2
      exact hD.2 wr.length (q, e0) (by rw [List.getElem?_append_right (Nat.le_refl _), Nat.sub_self]; rfl)
    · exact hAH x h2
  refine va_callv hr hS (fun x _ h => hin x h) hin (fun u t H1 locs1 ht hvm h5 hB hz1 hk1 hS1 => ?_)
  obtain ⟨hP1, hD1⟩ := hB
  rw [ht] at hP1
  obtain ⟨j1, j2⟩ := zn_join hP hD hAH hk1 hP1 hD1
  exact kk u H1 locs1 h5 j1 j2 hS1
theorem zn_call {S : va_W → Prop} {wr : va_W} {q : Nat} {e0 : va_E} (S9 : CallFix p m c cc nL s args Ts own) (hM : Met l y wsY rm (pN D cy [(q, e0)] [.ref q] H.size) (qN D S [(q, e0)] H.size) mc ms (va_A [(q, e0)] H.size)) (cw : CallB R s args own index y bytes maxL none wsY rm mc ms 0 ∧ y.name = "<init>" ∧ (Cond.instanceMethod y).before args s = true) (hK : va_K D vwCl (TYL cy) s) (hE : EXs s) (hP : va_P D vwCl (wr ++ [(q, e0)]) H) (hD : va_D A (wr ++ [(q, e0)])) (hS : va_S A H0 H locs) (hA : ∀ q, H0.size ≤ q → A q) (hsz : ls.size = nL) (hst : st = .ref q :: rest) (hW : (rest.map fun v => v.category).sum ≤ 8) (hdg : decode cc pc = .ok (.invokespecial index, 3)) (hf : cells + mc ≤ R.cells ∧ slots + ms ≤ R.slots)
    (kk : ∀ (w1 : va_W) (H1 : Heap) (locs1 : List Loc), S w1 → va_P D vwCl (wr ++ w1) H1 → va_D A (wr ++ w1) → va_S A H0 H1 locs1 → W p l e R s m args below meth c H1 locs1 (cells + mc) (slots + ms) Q (F0 m (pc + 3) ls rest)) : W p l e R s m args below meth c H locs cells slots Q (F0 m pc ls st) :=
  zn_go (va_runI (As := []) (rest := rest) S9 hM cw ⟨pN_blind, fun U hU hW => ⟨rfl, by rw [hU], by rw [hU]; exact zn_one hP, va_K.moved hW.alike hK, zn_oneD, hE.warm hW⟩⟩ rfl rfl hsz hst (lv_room hW) hdg hf) hP hD hS hA kk
theorem zn_callN {S : va_W → Prop} {wr : va_W} {q : Nat} {e0 : va_E} {host : String} (S9 : CallFix p m c cc nL s args Ts own) (hM : Met l y wsY rm (pN D cy [(q, e0)] [.ref q] H.size) (qN D S [(q, e0)] H.size) mc ms (va_A [(q, e0)] H.size)) (cw : va_CN R s args own index y host bytes maxL none wsY rm mc ms 0 ∧ y.name = "<init>" ∧ (Cond.instanceMethod y).before args s = true) (hK : va_K D vwCl (TYL cy) s) (hE : EXs s) (hP : va_P D vwCl (wr ++ [(q, e0)]) H) (hD : va_D A (wr ++ [(q, e0)])) (hS : va_S A H0 H locs) (hA : ∀ q, H0.size ≤ q → A q) (hsz : ls.size = nL) (hst : st = .ref q :: rest) (hW : (rest.map fun v => v.category).sum ≤ 8) (hdg : decode cc pc = .ok (.invokespecial index, 3)) (hf : cells + mc ≤ R.cells ∧ slots + ms ≤ R.slots)
    (kk : ∀ (w1 : va_W) (H1 : Heap) (locs1 : List Loc), S w1 → va_P D vwCl (wr ++ w1) H1 → va_D A (wr ++ w1) → va_S A H0 H1 locs1 → W p l e R s m args below meth c H1 locs1 (cells + mc) (slots + ms) Q (F0 m (pc + 3) ls rest)) : W p l e R s m args below meth c H locs cells slots Q (F0 m pc ls st) :=
  zn_go (va_runIN (As := []) (rest := rest) S9 hM cw ⟨pN_blind, fun U hU hW => ⟨rfl, by rw [hU], by rw [hU]; exact zn_one hP, va_K.moved hW.alike hK, zn_oneD, hE.warm hW⟩⟩ rfl rfl hsz hst (lv_room hW) hdg hf) hP hD hS hA kk
end ZN
theorem zn_ho (r : Nat → Nat) (a b c : Nat) : (fun i => if i < 7 then some (r i) else none) = (fun j => if j < 7 then some ((fun k => if k = 0 then a else if k = 1 then b else if k = 2 then c else r (k - 3)) (3 + j)) else none) := funext fun j => by
  show (if j < 7 then some (r j) else none) = (if j < 7 then some (if 3 + j = 0 then a else if 3 + j = 1 then b else if 3 + j = 2 then c else r (3 + j - 3)) else none)
  rw [if_neg (show ¬ 3 + j = 0 by omega), if_neg (show ¬ 3 + j = 1 by omega), if_neg (show ¬ 3 + j = 2 by omega), show 3 + j - 3 = j from by omega]
theorem z_stp (n0 n1 n2 n3 n4 n5 n6 n7 n8 n9 : Nat → Nat) : (va_up (va_up (va_up (va_up (va_up (va_up (va_up (va_up (va_up (va_up (fun _ => none) 0 (some (n0 0))) 1 (some (n1 0))) 2 (some (n2 0))) 3 (some (n3 0))) 4 (some (n4 0))) 5 (some (n5 0))) 6 (some (n6 0))) 7 (some (n7 0))) 8 (some (n8 0))) 9 (some (n9 0))) = stp (fun i => [n0, n1, n2, n3, n4, n5, n6, n7, n8, n9].getD i (fun _ => 0)) (fun j => j) := by
  funext j
  unfold stp
  by_cases h : j < 10
  · rw [if_pos h]
    rcases (show j = 0 ∨ j = 1 ∨ j = 2 ∨ j = 3 ∨ j = 4 ∨ j = 5 ∨ j = 6 ∨ j = 7 ∨ j = 8 ∨ j = 9 from by omega) with rfl | rfl | rfl | rfl | rfl | rfl | rfl | rfl | rfl | rfl <;> rfl
  · rw [if_neg h]
    rw [up_n (by omega), up_n (by omega), up_n (by omega), up_n (by omega), up_n (by omega), up_n (by omega), up_n (by omega), up_n (by omega), up_n (by omega), up_n (by omega)]
