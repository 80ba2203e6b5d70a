/-! the JDK's methods: bitCount of a set of six, fill of an int array, arraycopy of a whole array -/
def popc (n : Nat) : Nat := n % 2 + n / 2 % 2 + n / 4 % 2 + n / 8 % 2 + n / 16 % 2 + n / 32 % 2
theorem popc_le6 (n : Nat) : popc n ≤ 6 := by
  unfold popc
  omega
def bcE (x0 : Int32) : Int32 :=
  let x1 := x0 - ((x0.toUInt32 >>> ((1 : Int32).toUInt32 &&& Int32.toUInt32 31)).toInt32 &&& 1431655765)
  let x2 := (x1 &&& 858993459) + ((x1.toUInt32 >>> ((2 : Int32).toUInt32 &&& Int32.toUInt32 31)).toInt32 &&& 858993459)
  let x3 := (x2 + (x2.toUInt32 >>> ((4 : Int32).toUInt32 &&& Int32.toUInt32 31)).toInt32) &&& 252645135
  let x4 := x3 + (x3.toUInt32 >>> ((8 : Int32).toUInt32 &&& Int32.toUInt32 31)).toInt32
  let x5 := x4 + (x4.toUInt32 >>> ((16 : Int32).toUInt32 &&& Int32.toUInt32 31)).toInt32
  x5 &&& 63
theorem bcE_64 : ∀ n : Nat, n < 64 → bcE (zI (n : Int)) = zI ((popc n : Nat) : Int) := by decide +kernel
abbrev rm_J6_bitCount_0f7a4 : Room := { frames := 0, cells := 0, slots := 0, locals := 0 }
set_option maxHeartbeats 4000000 in
set_option maxRecDepth 100000 in
theorem c_J6_bitCount_0f7a4 (l : Launch) (D : va_G) (cy : Nat → ClassId) (n : Nat) (hn : n < 64) : Met l yJ6_bitCount_0f7a4 wsJ6_bitCount_0f7a4 rm_J6_bitCount_0f7a4 (pR D cy [] [.int (zI ((n : Nat) : Int))]) (qR ((popc n : Nat) : Int)) 0 0 (fun _ => False) := by
  refine met_R (cc := cJ6_bitCount_0f7a4) (maxL := 1) (ret := (some .int)) RJ6 (by decide) rfl rfl (Nat.le_of_ble_eq_true rfl) ?_
  intro p e s m args below meth c ls Q hx hb hr hml hts hown hlocks hQ hP hK hl
  have hl : lv_has ls 1 [(0, .int (zI ((n : Nat) : Int)))] := hl
  have key := bcE_64 n hn
  generalize hv : zI ((n : Nat) : Int) = x0 at hl key
  refine lv_iload_n hx hb dJ6_bitCount_0f7a4_0 rfl (lv_at hl 0 rfl) ?_
  refine lv_iload_n hx hb dJ6_bitCount_0f7a4_1 rfl (lv_at hl 0 rfl) ?_
  refine lv_iconst (v := 1) hx hb dJ6_bitCount_0f7a4_2 (by decide) ?_
  refine lv_iushr hx hb dJ6_bitCount_0f7a4_3 rfl ?_
  refine lv_ldcw (v := 1431655765) hx hb hown (hts (.constant RJ6 265 (1431655765)) (List.mem_of_getElem? (i := 1) rfl)) dJ6_bitCount_0f7a4_4 ?_
  refine lv_iand hx hb dJ6_bitCount_0f7a4_7 ?_
  refine lv_isub hx hb dJ6_bitCount_0f7a4_8 ?_
  refine lv_topi (fun x1 e1 => ?_)
  refine lv_istore_n (lv' := [(0, .int x1)]) hx hb dJ6_bitCount_0f7a4_9 rfl hl (by decide) rfl (fun ls hl => ?_)
  refine lv_iload_n hx hb dJ6_bitCount_0f7a4_10 rfl (lv_at hl 0 rfl) ?_
  refine lv_ldcw (v := 858993459) hx hb hown (hts (.constant RJ6 266 (858993459)) (List.mem_of_getElem? (i := 2) rfl)) dJ6_bitCount_0f7a4_11 ?_
  refine lv_iand hx hb dJ6_bitCount_0f7a4_14 ?_
  refine lv_iload_n hx hb dJ6_bitCount_0f7a4_15 rfl (lv_at hl 0 rfl) ?_
  refine lv_iconst (v := 2) hx hb dJ6_bitCount_0f7a4_16 (by decide) ?_
  refine lv_iushr hx hb dJ6_bitCount_0f7a4_17 rfl ?_
  refine lv_ldcw (v := 858993459) hx hb hown (hts (.constant RJ6 266 (858993459)) (List.mem_of_getElem? (i := 2) rfl)) dJ6_bitCount_0f7a4_18 ?_
  refine lv_iand hx hb dJ6_bitCount_0f7a4_21 ?_
  refine lv_iadd hx hb dJ6_bitCount_0f7a4_22 ?_
  refine lv_topi (fun x2 e2 => ?_)
  refine lv_istore_n (lv' := [(0, .int x2)]) hx hb dJ6_bitCount_0f7a4_23 rfl hl (by decide) rfl (fun ls hl => ?_)
  refine lv_iload_n hx hb dJ6_bitCount_0f7a4_24 rfl (lv_at hl 0 rfl) ?_
  refine lv_iload_n hx hb dJ6_bitCount_0f7a4_25 rfl (lv_at hl 0 rfl) ?_
  refine lv_iconst (v := 4) hx hb dJ6_bitCount_0f7a4_26 (by decide) ?_
  refine lv_iushr hx hb dJ6_bitCount_0f7a4_27 rfl ?_
  refine lv_iadd hx hb dJ6_bitCount_0f7a4_28 ?_
  refine lv_ldcw (v := 252645135) hx hb hown (hts (.constant RJ6 267 (252645135)) (List.mem_of_getElem? (i := 3) rfl)) dJ6_bitCount_0f7a4_29 ?_
  refine lv_iand hx hb dJ6_bitCount_0f7a4_32 ?_
  refine lv_topi (fun x3 e3 => ?_)
  refine lv_istore_n (lv' := [(0, .int x3)]) hx hb dJ6_bitCount_0f7a4_33 rfl hl (by decide) rfl (fun ls hl => ?_)
  refine lv_iload_n hx hb dJ6_bitCount_0f7a4_34 rfl (lv_at hl 0 rfl) ?_
  refine lv_iload_n hx hb dJ6_bitCount_0f7a4_35 rfl (lv_at hl 0 rfl) ?_
  refine lv_bipush (v := 8) hx hb dJ6_bitCount_0f7a4_36 (by decide) ?_
  refine lv_iushr hx hb dJ6_bitCount_0f7a4_38 rfl ?_
  refine lv_iadd hx hb dJ6_bitCount_0f7a4_39 ?_
  refine lv_topi (fun x4 e4 => ?_)
  refine lv_istore_n (lv' := [(0, .int x4)]) hx hb dJ6_bitCount_0f7a4_40 rfl hl (by decide) rfl (fun ls hl => ?_)
  refine lv_iload_n hx hb dJ6_bitCount_0f7a4_41 rfl (lv_at hl 0 rfl) ?_
  refine lv_iload_n hx hb dJ6_bitCount_0f7a4_42 rfl (lv_at hl 0 rfl) ?_
  refine lv_bipush (v := 16) hx hb dJ6_bitCount_0f7a4_43 (by decide) ?_
  refine lv_iushr hx hb dJ6_bitCount_0f7a4_45 rfl ?_
  refine lv_iadd hx hb dJ6_bitCount_0f7a4_46 ?_
  refine lv_topi (fun x5 e5 => ?_)
  refine lv_istore_n (lv' := [(0, .int x5)]) hx hb dJ6_bitCount_0f7a4_47 rfl hl (by decide) rfl (fun ls hl => ?_)
  refine lv_iload_n hx hb dJ6_bitCount_0f7a4_48 rfl (lv_at hl 0 rfl) ?_
  refine lv_bipush (v := 63) hx hb dJ6_bitCount_0f7a4_49 (by decide) ?_
  refine lv_iand hx hb dJ6_bitCount_0f7a4_51 ?_
  have ef : x5 &&& 63 = zI ((popc n : Nat) : Int) := by
    rw [← key, e5, e4, e3, e2, e1]
    rfl
  rw [ef]
  exact zr_iret hx hb hr hlocks hQ rfl dJ6_bitCount_0f7a4_52
theorem arrV_ext {cA : ClassId} {n : Nat} {f g : Nat → Value} (h : ∀ j, j < n → f j = g j) : arrV cA n f = arrV cA n g := by
  unfold arrV
  congr 1
  congr 1
  funext j
  exact h j.val j.isLt
theorem va_P_arr {D : va_G} {cl : List vw_C} {H : Heap} {ws : va_W} {q a : Nat} {cA : ClassId} {n : Nat} {f g : Nat → Int} (h : ∀ j, j < n → f j = g j) (hP : va_P D cl (ws.set q (a, .inl (cA, n, .inl (zA f)))) H) : va_P D cl (ws.set q (a, .inl (cA, n, .inl (zA g)))) H := by
  intro k x hk
  have hl : k < ws.length := by
    have := (List.getElem?_eq_some_iff.mp hk).1
    rwa [List.length_set] at this
  by_cases e : k = q
  · subst e
    have h0 := hP k (a, .inl (cA, n, .inl (zA f))) (by rw [List.getElem?_set_self hl])
    rw [List.getElem?_set_self hl] at hk
    cases hk
    show H[a]? = some (vp_cell _ _)
    rw [show vp_cell cA (n, .inl (zA g)) = vp_cell cA (n, .inl (zA f)) from by
      rw [vp_cell_i, vp_cell_i]
      exact arrV_ext (fun j hj => by unfold zA; rw [h j hj])]
    exact h0
  · rw [List.getElem?_set_ne (Ne.symm e)] at hk
    exact hP k x (by rw [List.getElem?_set_ne (Ne.symm e)]; exact hk)
section ZC
variable {p : Program} {l : Launch} {e : Env} {R : Room} {s : State} {m : MethodId} {args : Array Value} {below : List Frame} {meth : Method} {c : Code} {H : Heap} {locs : List Loc} {cells slots : Nat} {Q : State → Prop}
variable {cc : ByteArray} {pc : Nat} {ls : Array Slot} {rest : List Value} {D : va_G} {cl : List vw_C} {A : Nat → Prop} {a : Nat} {tys : List (ClassId × FieldType)} {ws : va_W} {H0 : Heap}
/-- System.arraycopy of six ints from one array of six to another one -/
theorem z_copy6 (hx : p.tables.exec = Jvm.exec) (hb : c.code = cc) (hml : c.maxLocals = ls.size) {own : String} {index : Nat} (hown : s.vm.findClass own = some m.cls) (hlink : (Cond.methodLink own index arraycopyName).before args s = true) (hnat : (Cond.native arraycopyName).before args s = true) (hstat : (Cond.static arraycopyName).before args s = true) (hini : (Cond.initialized "java/lang/System").before args s = true)
    (hK : va_K D cl tys s) (hP : va_P D cl ws H) (hD : va_D A ws) (hS : va_S A H0 H locs) (q0 q1 t0 : Nat) {a0 : Nat} {c0 : ClassId} {f g : Nat → Int} (ha0 : ws[q0]? = some (a0, .inl (c0, 6, .inl (zA f)))) (ha1 : ws[q1]? = some (a, .inl (c0, 6, .inl (zA g)))) (ht0 : tys[t0]? = some (c0, .int)) (hframes : 1 ≤ R.frames) (hlocals : (rest.map fun v => v.category).sum + (nativeFrameWords "java/lang/System" "arraycopy" 5 + 11) ≤ R.locals) (hdg : decode cc pc = .ok (.invokestatic index, 3))
    (kk : ∀ (H1 : Heap) (locs1 : List Loc), va_P D cl (ws.set q1 (a, .inl (c0, 6, .inl (zA f)))) H1 → va_D A (ws.set q1 (a, .inl (c0, 6, .inl (zA f)))) → va_S A H0 H1 locs1 → W p l e R s m args below meth c H1 locs1 cells slots Q (F0 m (pc + 3) ls rest)) : W p l e R s m args below meth c H locs cells slots Q (F0 m pc ls (.int (zI 6) :: .int (zI 0) :: .ref a :: .int (zI 0) :: .ref a0 :: rest)) := by
  have e6 : (zI 6).toNatClampNeg = 6 := by decide
  have e0 : (zI 0).toNatClampNeg = 0 := by decide
  refine va_copyi hx hb hml hown hlink hnat hstat hini hK hP hD hS q0 q1 t0 t0 ha0 ha1 ht0 ht0 rfl (by decide) (by decide) (by decide) (by rw [e6, e0]; decide) (by rw [e6, e0]; decide) (fun i hi => rfl) hframes hlocals hdg (fun H1 locs1 hP1 hD1 hS1 => ?_)
  rw [e6, e0] at hP1 hD1
  have ez : va_cpy (zA f) (zA g) 0 0 6 = zA (fun j => if j < 6 then f j else g j) := by
    funext j
    unfold va_cpy zA
    by_cases h : j < 6
    · rw [if_pos ⟨Nat.zero_le _, by omega⟩]
      dsimp only
      rw [if_pos h]
      simp
    · rw [if_neg (by omega)]
      dsimp only
      rw [if_neg h]
  rw [ez] at hP1
  have hP2 := va_P_arr (g := f) (fun j hj => if_pos hj) hP1
  exact kk H1 locs1 hP2 (hD.set ha1) hS1
theorem z_aald (hx : p.tables.exec = Jvm.exec) (hb : c.code = cc) (hK : va_K D cl tys s) (hP : va_P D cl ws H) (q0 t0 : Nat) {cA : ClassId} {ty : FieldType} (href : ty.isReference = true) {n : Nat} {f : Nat → Option Nat} (ha : ws[q0]? = some (a, .inl (cA, n, .inr (.inr (.inr (.inr f)))))) (ht : tys[t0]? = some (cA, ty)) {i : Int} (k : Nat) (hk : i = (k : Int)) (hlt : k < n) (hn : n ≤ 65536) {r : Nat} (hf : f k = some r) (hdg : decode cc pc = .ok (.aaload, 1))
    (kk : W p l e R s m args below meth c H locs cells slots Q (F0 m (pc + 1) ls (.ref r :: rest))) : W p l e R s m args below meth c H locs cells slots Q (F0 m pc ls (.int (zI i) :: .ref a :: rest)) := by
  subst hk
  have hin : vp_in (zI (k : Int)) n := zI_in (by omega) (by omega) hn
  have ec : (zI (k : Int)).toNatClampNeg = k := by rw [zI_cl ⟨by omega, by omega⟩, Int.toNat_natCast]
  refine W.aald (v := .ref r) (ty := ty) hx hb (hP q0 _ ha) ((hK.2 t0 _ ht).1 n (fun j => va_rf (f j))) href (fun q => by cases q) (by show ¬ (_ < 0 ∨ (arrV _ _ _).slots.size ≤ _); rw [arrV_size]; exact hin) (by show (arrV _ _ _).slots[_]? = _; rw [ec, arrV_read _ _ hlt, hf]; rfl) rfl rfl hdg kk
end ZC
abbrev rm_J7_fill_53178 : Room := { frames := 0, cells := 0, slots := 0, locals := 0 }
set_option maxHeartbeats 4000000 in
set_option maxRecDepth 100000 in
theorem c_J7_fill_53178 (l : Launch) (D : va_G) (cy : Nat → ClassId) (a n : Nat) (f : Nat → Int) (v : Int) (hn : n ≤ 65536) : Met l yJ7_fill_53178 wsJ7_fill_53178 rm_J7_fill_53178 (pM D cy [(a, .inl (cy 0, n, .inl (zA f)))] [.ref a, .int (zI v)]) (qM D none [(a, .inl (cy 0, n, .inl (zA f)))] [(a, .inl (cy 0, n, .inl (zA (fun _ => v))))]) 0 0 (inW [(a, .inl (cy 0, n, .inl (zA f)))]) := by
  refine met_M (cc := cJ7_fill_53178) (maxL := 4) (ret := none) RJ7 (by decide) rfl rfl (Nat.le_of_ble_eq_true rfl) ?_
  intro p e s m args below meth c ls Q A0 hx hb hr hml hts hown hlocks hQ hA0 hP hK hD hS hl
  have hl : lv_has ls 4 [(0, .ref a), (1, .int (zI v))] := hl
  refine lv_iconst (v := zI 0) hx hb dJ7_fill_53178_0 rfl ?_
  refine lv_istore_n (lv' := [(2, .int (zI 0)), (0, .ref a), (1, .int (zI v))]) hx hb dJ7_fill_53178_1 rfl hl (by decide) rfl (fun ls hl => ?_)
  refine lv_aload_n hx hb dJ7_fill_53178_2 rfl (lv_at hl 1 rfl) ?_
  refine va_alen hx hb hK hP 0 0 rfl rfl (v := zI ((n : Nat) : Int)) (zI_n n).symm dJ7_fill_53178_3 ?_
  refine lv_istore_n (lv' := [(3, .int (zI ((n : Nat) : Int))), (2, .int (zI 0)), (0, .ref a), (1, .int (zI v))]) hx hb dJ7_fill_53178_4 rfl hl (by decide) rfl (fun ls hl => ?_)
  have loop5 : ∀ (n9 : Nat) (i : Nat), n - i < n9 → (i ≤ n) → ∀ (x : Int), x = ((i : Nat) : Int) → ∀ (H : Heap) (locs : List Loc), va_P D vwCl [(a, .inl (cy 0, n, .inl (zA (fun j => if j < i then v else f j))))] H → va_D A0 [(a, .inl (cy 0, n, .inl (zA (fun j => if j < i then v else f j))))] → va_S A0 s.heap H locs → ∀ ls : Array Slot, lv_has ls 4 [(0, .ref a), (1, .int (zI v)), (2, .int (zI x)), (3, .int (zI ((n : Nat) : Int)))] → W p l e rm_J7_fill_53178 s m args below meth c H locs 0 0 Q (F0 m 5 ls []) := by
    intro n9
    induction n9 with
    | zero => intro i h9; exact absurd h9 (Nat.not_lt_zero _)
    | succ n9 ih5 =>
      intro i hmu hi x ex H locs hP hD hS ls hl
      subst ex
      have hl : lv_has ls 4 [(0, .ref a), (1, .int (zI v)), (2, .int (zI ((i : Nat) : Int))), (3, .int (zI ((n : Nat) : Int)))] := hl
      refine lv_iload_n hx hb dJ7_fill_53178_5 rfl (lv_at hl 2 rfl) ?_
      refine lv_iload_n hx hb dJ7_fill_53178_6 rfl (lv_at hl 3 rfl) ?_
      refine z_icmp_ge (tgt := 20) hx hb ⟨by omega, by omega⟩ ⟨by omega, by omega⟩ dJ7_fill_53178_7 (by decide) (fun c1 => ?_) (fun c1 => ?_)
      · have hP2 : va_P D vwCl [(a, .inl (cy 0, n, .inl (zA (fun _ => v))))] H := va_P_arr (ws := [(a, .inl (cy 0, n, .inl (zA f)))]) (q := 0) (f := fun j => if j < i then v else f j) (g := fun _ => v) (fun j hj => if_pos (by omega)) hP
        exact zm_vret hx hb hr hlocks hQ hA0 hP2 hS dJ7_fill_53178_20
      · refine lv_aload_n hx hb dJ7_fill_53178_10 rfl (lv_at hl 0 rfl) ?_
        refine lv_iload_n hx hb dJ7_fill_53178_11 rfl (lv_at hl 2 rfl) ?_
        refine lv_iload_n hx hb dJ7_fill_53178_12 rfl (lv_at hl 1 rfl) ?_
        refine z_iast hx hb hK hP hD hS 0 0 (f := fun j => if j < i then v else f j) rfl rfl (x := v) i rfl (by omega) hn dJ7_fill_53178_13 (fun H locs hP hD hS => ?_)
        have e1 : va_up (fun j => if j < i then v else f j) i v = (fun j => if j < i + 1 then v else f j) := by
          funext j
          unfold va_up
          dsimp only
          by_cases h1 : j = i
          · rw [if_pos h1, if_pos (by omega)]
          · rw [if_neg h1]
            by_cases h2 : j < i
            · rw [if_pos h2, if_pos (by omega)]
            · rw [if_neg h2, if_neg (by omega)]
        rw [e1] at hP hD
        have hP : va_P D vwCl [(a, .inl (cy 0, n, .inl (zA (fun j => if j < i + 1 then v else f j))))] H := hP
        have hD : va_D A0 [(a, .inl (cy 0, n, .inl (zA (fun j => if j < i + 1 then v else f j))))] := hD
        refine z_iinc (r := ((i + 1 : Nat) : Int)) (lv' := [(2, .int (zI ((i + 1 : Nat) : Int))), (0, .ref a), (1, .int (zI v)), (3, .int (zI ((n : Nat) : Int)))]) hx hb (by omega) dJ7_fill_53178_14 hl (k := 2) rfl (by decide) rfl (fun ls hl => ?_)
        refine lv_goto (tgt := 5) hx hb dJ7_fill_53178_17 (by decide) ?_
        exact ih5 (i + 1) (by omega) (by omega) ((i + 1 : Nat) : Int) rfl _ _ hP hD hS ls (lv_sub hl [1, 2, 0, 3] rfl)
  have e0 : (fun j => if j < 0 then v else f j) = f := by
    funext j
    exact if_neg (Nat.not_lt_zero _)
  exact loop5 (n + 1) 0 (by omega) (by omega) 0 rfl _ _ (by rw [e0]; exact hP) (by rw [e0]; exact hD) hS ls (lv_sub hl [2, 3, 1, 0] rfl)
section ZE
variable {p : Program} {l : Launch} {e : Env} {R : Room} {s : State} {m : MethodId} {args : Array Value} {below : List Frame} {meth : Method} {c : Code} {H : Heap} {locs : List Loc} {cells slots : Nat} {Q : State → Prop}
variable {cc : ByteArray} {pc : Nat} {ls : Array Slot} {rest : List Value} {D : va_G} {cl : List vw_C} {A : Nat → Prop} {tys : List (ClassId × FieldType)} {ws : va_W} {H0 : Heap} {nL index : Nat} {Ts : List Cond} {own : String} {cy : Nat → ClassId}
theorem z_iald2 (hx : p.tables.exec = Jvm.exec) (hb : c.code = cc) (hK : va_K D cl tys s) (hP : va_P D cl ws H) (q0 t0 : Nat) {a : Nat} {cA : ClassId} {n : Nat} {f : Nat → Int} {v : Int} (ha : ws[q0]? = some (a, .inl (cA, n, .inl (zA f)))) (ht : tys[t0]? = some (cA, .int)) {i : Int} (k : Nat) (hk : i = (k : Int)) (hlt : k < n) (hn : n ≤ 65536) (hv : f k = v) (hdg : decode cc pc = .ok (.iaload, 1))
    (kk : W p l e R s m args below meth c H locs cells slots Q (F0 m (pc + 1) ls (.int (zI v) :: rest))) : W p l e R s m args below meth c H locs cells slots Q (F0 m pc ls (.int (zI i) :: .ref a :: rest)) :=
  z_iald hx hb hK hP q0 t0 ha ht k hk hlt hn hdg (by rw [hv]; exact kk)
/-- Arrays.fill of the array at place q of the world -/
theorem zm_fillat {a n : Nat} {f : Nat → Int} {v : Int} (S : CallFix p m c cc nL s args Ts own) (hn : n ≤ 65536) (cw : CallB R s args own index yJ7_fill_53178 cJ7_fill_53178 4 none wsJ7_fill_53178 rm_J7_fill_53178 0 0 2 ∧ (Cond.static yJ7_fill_53178).before args s = true) (hK : va_K D vwCl (TYL cy) s) (hP : va_P D vwCl ws H) (hD : va_D A ws) (hS : va_S A H0 H locs) (q : Nat) (hat : ws[q]? = some (a, .inl (cy 0, n, .inl (zA f)))) (hsz : ls.size = nL) (hW : (rest.map fun v => v.category).sum ≤ 8) (hdg : decode cc pc = .ok (.invokestatic index, 3)) (hf : cells + 0 ≤ R.cells ∧ slots + 0 ≤ R.slots)
    (kk : ∀ (H1 : Heap) (locs1 : List Loc), va_P D vwCl (ws.set q (a, .inl (cy 0, n, .inl (zA (fun _ => v))))) H1 → va_D A (ws.set q (a, .inl (cy 0, n, .inl (zA (fun _ => v))))) → va_S A H0 H1 locs1 → W p l e R s m args below meth c H1 locs1 cells slots Q (F0 m (pc + 3) ls rest)) : W p l e R s m args below meth c H locs cells slots Q (F0 m pc ls (.int (zI v) :: .ref a :: rest)) := by
  have hmem : (a, (.inl (cy 0, n, .inl (zA f)) : va_E)) ∈ ws := List.mem_of_getElem? hat
  have hsub : ∀ x : Nat × va_E, x ∈ [(a, (.inl (cy 0, n, .inl (zA f)) : va_E))] → x ∈ ws := fun x hx => by
    rw [List.mem_singleton] at hx
    rw [hx]; exact hmem
  have hPc : va_P D vwCl [(a, .inl (cy 0, n, .inl (zA f)))] H := hP.mem hsub
  have hDc : va_D (fun _ => True) [(a, (.inl (cy 0, n, .inl (zA f)) : va_E))] := ⟨fun i j x z hi hj _ => by
    have h1 := (List.getElem?_eq_some_iff.mp hi).1
    have h2 := (List.getElem?_eq_some_iff.mp hj).1
    simp at h1 h2
    omega, fun _ _ _ => trivial⟩
  have hl : q < ws.length := (List.getElem?_eq_some_iff.mp hat).1
  refine zm_go (W.runS (rest := rest) (As := [.ref a, .int (zI v)]) S (c_J7_fill_53178 l D cy a n f v hn) cw ⟨pM_blind, fun U hU hW' => ⟨rfl, by rw [hU]; exact hPc, va_K.moved hW'.alike hK, hDc⟩⟩ rfl rfl hsz rfl (lv_room hW) hdg hf) hS (inW_sub hD hsub) (fun H1 locs1 hP1 hk hS1 => ?_)
  refine kk H1 locs1 (fm_new hP (fun x hx => ?_) hk hP1) (hD.set hat) hS1
  obtain ⟨k, hk2⟩ := List.getElem?_of_mem hx
  by_cases e : k = q
  · subst e
    rw [List.getElem?_set_self hl] at hk2
    exact Or.inl (List.mem_singleton.mpr (Option.some.inj hk2).symm)
  · rw [List.getElem?_set_ne (Ne.symm e)] at hk2
    refine Or.inr ⟨List.mem_of_getElem? hk2, fun hin => ?_⟩
    obtain ⟨x2, hx2, hx3⟩ := List.mem_map.mp hin
    rw [List.mem_singleton] at hx2
    subst hx2
    exact e (hD.1 k q x _ hk2 hat hx3.symm)
end ZE
