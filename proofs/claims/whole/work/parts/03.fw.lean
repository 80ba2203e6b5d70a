/-! FRAMEWORK: ints as whole numbers (zI), rows over them, contracts that read (pR, qR) and that write (pM, qM) -/
abbrev inR (a : Int) : Prop := -2147483648 ≤ a ∧ a < 2147483648
def zI (a : Int) : Int32 := Int32.ofInt a
def zL (a : Int) : Int64 := Int64.ofInt a
theorem zI_toInt {a : Int} (h : inR a) : (zI a).toInt = a := Int32.toInt_ofInt_of_le (by have := h.1; omega) (by have := h.2; omega)
theorem zI_of (x : Int32) : zI x.toInt = x := Int32.ofInt_toInt x
theorem zI_r (x : Int32) : inR x.toInt := ⟨by have := x.le_toInt; omega, by have := x.toInt_lt; omega⟩
theorem zI_ex (x : Int32) : ∃ a : Int, inR a ∧ x = zI a := ⟨x.toInt, zI_r x, (zI_of x).symm⟩
theorem zI_add (a b : Int) : zI a + zI b = zI (a + b) := (Int32.ofInt_add a b).symm
theorem zI_sub (a b : Int) : zI a - zI b = zI (a - b) := (Int32.ofInt_sub a b).symm
theorem zI_mul (a b : Int) : zI a * zI b = zI (a * b) := (Int32.ofInt_mul a b).symm
theorem zI_neg (a : Int) : -zI a = zI (-a) := (Int32.ofInt_neg a).symm
theorem zI_inj {a b : Int} (ha : inR a) (hb : inR b) : zI a = zI b ↔ a = b :=
  ⟨fun h => by have h2 := congrArg Int32.toInt h; rwa [zI_toInt ha, zI_toInt hb] at h2, fun h => by rw [h]⟩
theorem zI_lt {a b : Int} (ha : inR a) (hb : inR b) : zI a < zI b ↔ a < b := by rw [Int32.lt_iff_toInt_lt, zI_toInt ha, zI_toInt hb]
theorem zI_le {a b : Int} (ha : inR a) (hb : inR b) : zI a ≤ zI b ↔ a ≤ b := by rw [Int32.le_iff_toInt_le, zI_toInt ha, zI_toInt hb]
theorem zI_cl {a : Int} (h : inR a) : (zI a).toNatClampNeg = a.toNat := by
  show (zI a).toInt.toNat = _
  rw [zI_toInt h]
theorem zI_0 : (0 : Int32) = zI 0 := by decide
theorem zI_n (a : Nat) : zI (a : Int) = nI a := Int32.ofInt_eq_ofNat
theorem zI_in {a : Int} {n : Nat} (h0 : 0 ≤ a) (h1 : a < n) (hn : n ≤ 65536) : vp_in (zI a) n := by
  have hr : inR a := ⟨by omega, by omega⟩
  rintro (q | q)
  · rw [zI_0, zI_lt hr ⟨by omega, by omega⟩] at q
    omega
  · rw [zI_cl hr] at q
    omega
theorem zI_and {a b : Nat} (ha : a < 2147483648) (hb : b < 2147483648) : zI (a : Int) &&& zI (b : Int) = zI ((a &&& b : Nat) : Int) := by
  rw [zI_n, zI_n, zI_n]
  apply Int32.toBitVec_inj.mp
  apply BitVec.eq_of_toNat_eq
  have h : a &&& b ≤ a := Nat.and_le_left
  rw [Int32.toBitVec_and, BitVec.toNat_and, pk_tn (by omega), pk_tn (by omega), pk_tn (by omega)]
theorem zI_or {a b : Nat} (ha : a < 2147483648) (hb : b < 2147483648) : zI (a : Int) ||| zI (b : Int) = zI ((a ||| b : Nat) : Int) := by
  rw [zI_n, zI_n, zI_n]
  apply Int32.toBitVec_inj.mp
  apply BitVec.eq_of_toNat_eq
  have h : a ||| b < 2 ^ 31 := Nat.or_lt_two_pow (by omega) (by omega)
  rw [Int32.toBitVec_or, BitVec.toNat_or, pk_tn (by omega), pk_tn (by omega), pk_tn (by omega)]
theorem zI_xor {a b : Nat} (ha : a < 2147483648) (hb : b < 2147483648) : zI (a : Int) ^^^ zI (b : Int) = zI ((a ^^^ b : Nat) : Int) := by
  rw [zI_n, zI_n, zI_n]
  apply Int32.toBitVec_inj.mp
  apply BitVec.eq_of_toNat_eq
  have h : a ^^^ b < 2 ^ 31 := Nat.xor_lt_two_pow (by omega) (by omega)
  rw [Int32.toBitVec_xor, BitVec.toNat_xor, pk_tn (by omega), pk_tn (by omega), pk_tn (by omega)]
/-- ~a -/
theorem zI_not (a : Int) : zI a ^^^ zI (-1) = zI (-a - 1) := by
  have e : zI a ^^^ zI (-1) = ~~~ (zI a) := by
    apply Int32.toBitVec_inj.mp
    rw [Int32.toBitVec_xor, Int32.toBitVec_not]
    exact BitVec.xor_allOnes
  rw [e, Int32.not_eq_neg_sub, zI_neg]
  exact zI_sub (-a) 1
def ndiff (a b : Nat) : Nat := a ^^^ (a &&& b)
theorem zI_andnot {a b : Nat} (ha : a < 2147483648) (hb : b < 2147483648) : zI (a : Int) &&& zI (-(b : Int) - 1) = zI ((ndiff a b : Nat) : Int) := by
  have h : a &&& b < 2147483648 := Nat.lt_of_le_of_lt Nat.and_le_left ha
  have h2 : ndiff a b < 2 ^ 31 := Nat.xor_lt_two_pow (by omega) (by omega)
  have e : zI (-(b : Int) - 1) = zI (b : Int) ^^^ zI (-1) := (zI_not _).symm
  rw [e]
  apply Int32.toBitVec_inj.mp
  apply BitVec.eq_of_getLsbD_eq
  intro i hi
  have e1 : (zI (-1)).toBitVec = BitVec.allOnes 32 := by decide
  rw [zI_n, zI_n, zI_n]
  have t1 : ∀ n : Nat, n < 2 ^ 32 → (nI n).toBitVec.getLsbD i = n.testBit i := fun n hn => by rw [← BitVec.testBit_toNat, pk_tn hn]
  rw [Int32.toBitVec_and, Int32.toBitVec_xor, e1, BitVec.getLsbD_and, BitVec.getLsbD_xor, BitVec.getLsbD_allOnes, t1 a (by omega), t1 b (by omega), t1 _ (by omega), ndiff, Nat.testBit_xor, Nat.testBit_and, decide_eq_true hi]
  cases a.testBit i <;> cases b.testBit i <;> rfl
theorem zI_shl1 : ∀ k : Nat, k < 31 → zI 1 <<< (zI (k : Int) &&& 31) = zI ((2 ^ k : Nat) : Int) := by decide +kernel
theorem zI_shm : ∀ k : Nat, k < 31 → ((zI (k : Int) &&& 31).toBitVec.smod 32).toNat = k := by decide +kernel
theorem zI_shr {a k : Nat} (ha : a < 2147483648) (hk : k < 31) : zI (a : Int) >>> (zI (k : Int) &&& 31) = zI ((a >>> k : Nat) : Int) := by
  rw [zI_n a, zI_n (a >>> k), Nat.shiftRight_eq_div_pow]
  exact pk_shrN (by omega) _ k (zI_shm k hk)
theorem zI_div {a b : Int} (ha : 0 ≤ a) (ha2 : a < 2147483648) (hb : 0 < b) (hb2 : b < 2147483648) : zI a / zI b = zI (a / b) := by
  obtain ⟨n, rfl⟩ := Int.eq_ofNat_of_zero_le ha
  obtain ⟨d, rfl⟩ := Int.eq_ofNat_of_zero_le (Int.le_of_lt hb)
  rw [zI_n, zI_n, pk_div (by omega) (by omega) (by omega), ← zI_n]
  rfl
theorem zI_rem {a b : Int} (ha : 0 ≤ a) (ha2 : a < 2147483648) (hb : 0 < b) (hb2 : b < 2147483648) : zI a - zI a / zI b * zI b = zI (a % b) := by
  rw [zI_div ha ha2 hb hb2, zI_mul, zI_sub]
  congr 1
  have := Int.emod_add_mul_ediv a b
  rw [Int.mul_comm (a / b) b]
  omega
abbrev inL (a : Int) : Prop := -9223372036854775808 ≤ a ∧ a < 9223372036854775808
theorem zL_toInt {a : Int} (h : inL a) : (zL a).toInt = a := Int64.toInt_ofInt_of_le (by have := h.1; omega) (by have := h.2; omega)
theorem zL_add (a b : Int) : zL a + zL b = zL (a + b) := (Int64.ofInt_add a b).symm
theorem zL_sub (a b : Int) : zL a - zL b = zL (a - b) := (Int64.ofInt_sub a b).symm
theorem zL_mul (a b : Int) : zL a * zL b = zL (a * b) := (Int64.ofInt_mul a b).symm
theorem zL_inj {a b : Int} (ha : inL a) (hb : inL b) : zL a = zL b ↔ a = b :=
  ⟨fun h => by have h2 := congrArg Int64.toInt h; rwa [zL_toInt ha, zL_toInt hb] at h2, fun h => by rw [h]⟩
theorem zL_lt {a b : Int} (ha : inL a) (hb : inL b) : zL a < zL b ↔ a < b := by rw [Int64.lt_iff_toInt_lt, zL_toInt ha, zL_toInt hb]
theorem zI_l {a : Int} (h : inR a) : (zI a).toInt64 = zL a := by
  apply Int64.toInt_inj.mp
  rw [Int32.toInt_toInt64, zI_toInt h, zL_toInt ⟨by have := h.1; omega, by have := h.2; omega⟩]
def cmpI (a b : Int) : Int := if b < a then 1 else if a = b then 0 else -1
theorem zL_cmp {a b : Int} (ha : inL a) (hb : inL b) : lg_cmp (zL a) (zL b) = zI (cmpI a b) := by
  unfold lg_cmp cmpI
  by_cases h : b < a
  · rw [if_pos h, if_pos ((zL_lt hb ha).mpr h)]
    rfl
  · rw [if_neg h, if_neg (fun q => h ((zL_lt hb ha).mp q))]
    by_cases h2 : a = b
    · rw [if_pos h2, if_pos ((zL_inj ha hb).mpr h2)]
      rfl
    · rw [if_neg h2, if_neg (fun q => h2 ((zL_inj ha hb).mp q))]
      decide
/-- an int array's contents -/
def zA (f : Nat → Int) : Nat → Int32 := fun j => zI (f j)
theorem zA_up (f : Nat → Int) (k : Nat) (v : Int) : upd (zA f) k (zI v) = zA (va_up f k v) := by
  funext j
  unfold upd zA va_up
  split <;> rfl
theorem zA_upN (f : Nat → Nat) (k v : Nat) : zA (va_up (fun j => ((f j : Nat) : Int)) k ((v : Nat) : Int)) = zA (fun j => ((va_up f k v j : Nat) : Int)) := by
  funext j
  by_cases h : j = k
  · simp [zA, va_up, h]
  · simp [zA, va_up, h]
theorem up_s {α : Type} (f : Nat → α) (k : Nat) (v : α) : va_up f k v k = v := if_pos rfl
theorem up_n {α : Type} {f : Nat → α} {k j : Nat} {v : α} (h : j ≠ k) : va_up f k v j = f j := if_neg h
abbrev TYL (cy : Nat → ClassId) : List (ClassId × FieldType) := [(cy 0, .int), (cy 1, .boolean), (cy 2, .object "SilentRent$Now"), (cy 3, .object "SilentRent$Image"), (cy 4, .array .int)]
abbrev cI (cI : ClassId) (n : Nat) (f : Nat → Int) : va_E := .inl (cI, n, .inl (zA f))
def inW (ws : va_W) : Nat → Prop := fun q => q ∈ ws.map Prod.fst
/-- contracts of methods that write nothing -/
abbrev pR (D : va_G) (cy : Nat → ClassId) (wd : va_W) (av : List Value) : Array Value → State → Prop := va_Pc av (fun U => va_P D vwCl wd U.heap ∧ va_K D vwCl (TYL cy) U)
abbrev qR (v : Int) : Array Value → State → Outcome → State → Prop := vp_Si (fun r => r = zI v)
abbrev qRl (v : Int) : Array Value → State → Outcome → State → Prop := vp_Sl (fun r => r = zL v)
/-- contracts of methods that write in their world and make nothing -/
abbrev pM (D : va_G) (cy : Nat → ClassId) (wd : va_W) (av : List Value) : Array Value → State → Prop := va_Pc av (fun U => va_P D vwCl wd U.heap ∧ va_K D vwCl (TYL cy) U ∧ va_D (fun _ => True) wd)
def qM (D : va_G) (r : Option Value) (wd wd' : va_W) : Array Value → State → Outcome → State → Prop := fun _ st oc t => oc = .returned r ∧ va_P D vwCl wd' t.heap ∧ st.heap.size ≤ t.heap.size ∧ ∀ q : Nat, q < st.heap.size → ¬ inW wd q → t.heap[q]? = st.heap[q]?
theorem inW_D {wd : va_W} {A : Nat → Prop} (h : va_D A wd) : va_D (inW wd) wd := ⟨h.1, fun k q hk => List.mem_map.mpr ⟨q, List.mem_of_getElem? hk, rfl⟩⟩
theorem inW_A {wd : va_W} {A : Nat → Prop} (h : va_D A wd) : ∀ q, inW wd q → A q := by
  intro q hq
  obtain ⟨x, hx, rfl⟩ := List.mem_map.mp hq
  obtain ⟨k, hk⟩ := List.getElem?_of_mem hx
  exact h.2 k x hk
theorem met_R {l : Launch} {y : MethodName} {ws ws' : List Cond} {rm : Room} {cc : ByteArray} {maxL : Nat} {ret : Option FieldType} {D : va_G} {cy : Nat → ClassId} {wd : va_W} {av : List Value} {Qc : Array Value → State → Outcome → State → Prop} (own : String) (hy : plainName y.cls = true) (ho : y.cls = own) (hw : ws = Cond.code y cc maxL ret :: ws') (hlen : (lg_sl av).length ≤ maxL)
    (body : ∀ (p : Program) (e : Env) (s : State) (m : MethodId) (args : Array Value) (below : List Frame) (meth : Method) (c : Code) (ls : Array Slot) (Q : State → Prop), p.tables.exec = Jvm.exec → c.code = cc → meth.sig.returnType = ret → c.maxLocals = maxL → (∀ w ∈ ws, w.before args s = true) → s.vm.findClass own = some m.cls → meth.locks = false → Q = MQ below Qc args s 0 0 (fun _ => False) → va_P D vwCl wd s.heap → va_K D vwCl (TYL cy) s → lv_has ls maxL (lv_args 0 av) →
      W p l e rm s m args below meth c s.heap [] 0 0 Q (F0 m 0 ls [])) : Met l y ws rm (pR D cy wd av) Qc 0 0 (fun _ => False) := by
  refine Met.ofW hy hw ?_
  intro p e s m args below meth c s₁ B hml hv
  obtain ⟨rfl, hP, hK⟩ := hv
  have hx := B.exec
  have hb := B.bytes
  have hr := B.returns
  have hts := atoms_spec (ws := ws) B.pre
  have hown : s.vm.findClass own = some m.cls := by rw [← ho]; exact findClass_of_methodNamed B.named
  have hlocks := B.notSynchronized
  have hl := lv_entry av (n := maxL) hlen
  rw [lg_entry_eq]
  exact body p e s m _ below meth c _ _ hx hb hr hml hts hown hlocks rfl hP hK hl
theorem met_M {l : Launch} {y : MethodName} {ws ws' : List Cond} {rm : Room} {cc : ByteArray} {maxL : Nat} {ret : Option FieldType} {D : va_G} {cy : Nat → ClassId} {wd : va_W} {av : List Value} {Qc : Array Value → State → Outcome → State → Prop} (own : String) (hy : plainName y.cls = true) (ho : y.cls = own) (hw : ws = Cond.code y cc maxL ret :: ws') (hlen : (lg_sl av).length ≤ maxL)
    (body : ∀ (p : Program) (e : Env) (s : State) (m : MethodId) (args : Array Value) (below : List Frame) (meth : Method) (c : Code) (ls : Array Slot) (Q : State → Prop) (A0 : Nat → Prop), p.tables.exec = Jvm.exec → c.code = cc → meth.sig.returnType = ret → c.maxLocals = maxL → (∀ w ∈ ws, w.before args s = true) → s.vm.findClass own = some m.cls → meth.locks = false → Q = MQ below Qc args s 0 0 (inW wd) → A0 = inW wd → va_P D vwCl wd s.heap → va_K D vwCl (TYL cy) s → va_D A0 wd → va_S A0 s.heap s.heap [] → lv_has ls maxL (lv_args 0 av) →
      W p l e rm s m args below meth c s.heap [] 0 0 Q (F0 m 0 ls [])) : Met l y ws rm (pM D cy wd av) Qc 0 0 (inW wd) := by
  refine Met.ofW hy hw ?_
  intro p e s m args below meth c s₁ B hml hv
  obtain ⟨rfl, hP, hK, hD⟩ := hv
  have hx := B.exec
  have hb := B.bytes
  have hr := B.returns
  have hts := atoms_spec (ws := ws) B.pre
  have hown : s.vm.findClass own = some m.cls := by rw [← ho]; exact findClass_of_methodNamed B.named
  have hlocks := B.notSynchronized
  have hl := lv_entry av (n := maxL) hlen
  rw [lg_entry_eq]
  exact body p e s m _ below meth c _ _ _ hx hb hr hml hts hown hlocks rfl rfl hP hK (inW_D hD) va_S.rf hl
theorem cmpI_facts (a b : Int) : (cmpI a b = 1 ∧ b < a) ∨ (cmpI a b = 0 ∧ a = b) ∨ (cmpI a b = -1 ∧ a < b) := by
  unfold cmpI
  by_cases h : b < a
  · exact Or.inl ⟨if_pos h, h⟩
  · rw [if_neg h]
    by_cases h2 : a = b
    · exact Or.inr (Or.inl ⟨if_pos h2, h2⟩)
    · exact Or.inr (Or.inr ⟨if_neg h2, by omega⟩)
theorem cmpI_r (a b : Int) : inR (cmpI a b) := by
  have := cmpI_facts a b
  exact ⟨by omega, by omega⟩
theorem bo_t {P : Prop} [Decidable P] (h : ¬ (if P then (1 : Int) else 0) = 0) : P := by
  by_cases hp : P
  · exact hp
  · rw [if_neg hp] at h
    exact absurd rfl h
theorem bo_f {P : Prop} [Decidable P] (h : (if P then (1 : Int) else 0) = 0) : ¬ P := by
  intro hp
  rw [if_pos hp] at h
  exact absurd h (by decide)
theorem bo_r {P : Prop} [Decidable P] : inR (if P then (1 : Int) else 0) := by
  by_cases hp : P
  · rw [if_pos hp]; exact ⟨by decide, by decide⟩
  · rw [if_neg hp]; exact ⟨by decide, by decide⟩
theorem pow_le64 (k : Nat) (h : k ≤ 6) : 1 ≤ 2 ^ k ∧ 2 ^ k ≤ 64 := by
  have : ∀ k : Nat, k < 7 → 1 ≤ 2 ^ k ∧ 2 ^ k ≤ 64 := by decide
  exact this k (by omega)
theorem pow_le32 (k : Nat) (h : k < 6) : 1 ≤ 2 ^ k ∧ 2 ^ k ≤ 32 := by
  have : ∀ k : Nat, k < 6 → 1 ≤ 2 ^ k ∧ 2 ^ k ≤ 32 := by decide
  exact this k (by omega)
theorem or_lt64 {a b : Nat} (ha : a < 64) (hb : b < 64) : a ||| b < 64 := Nat.or_lt_two_pow (n := 6) ha hb
theorem xor_lt64 {a b : Nat} (ha : a < 64) (hb : b < 64) : a ^^^ b < 64 := Nat.xor_lt_two_pow (n := 6) ha hb
theorem shr_le (a k : Nat) : a >>> k ≤ a := by
  rw [Nat.shiftRight_eq_div_pow]
  exact Nat.div_le_self _ _
theorem ndiff_le (a b : Nat) (ha : a < 64) : ndiff a b < 64 := Nat.xor_lt_two_pow (n := 6) ha (Nat.lt_of_le_of_lt Nat.and_le_left ha)
section ZR
variable {p : Program} {l : Launch} {e : Env} {R : Room} {s : State} {m : MethodId} {args : Array Value} {below : List Frame} {meth : Method} {c : Code} {H : Heap} {locs : List Loc} {cells slots : Nat} {Q : State → Prop}
variable {cc : ByteArray} {pc : Nat} {ls : Array Slot} {rest : List Value}
theorem z_iadd (hx : p.tables.exec = Jvm.exec) (hb : c.code = cc) {a b r : Int} (he : a + b = r) (hdg : decode cc pc = .ok (.iadd, 1)) (k : W p l e R s m args below meth c H locs cells slots Q (F0 m (pc + 1) ls (.int (zI r) :: rest))) : W p l e R s m args below meth c H locs cells slots Q (F0 m pc ls (.int (zI b) :: .int (zI a) :: rest)) := lv_iadd hx hb hdg (by rw [zI_add, he]; exact k)
theorem z_isub (hx : p.tables.exec = Jvm.exec) (hb : c.code = cc) {a b r : Int} (he : a - b = r) (hdg : decode cc pc = .ok (.isub, 1)) (k : W p l e R s m args below meth c H locs cells slots Q (F0 m (pc + 1) ls (.int (zI r) :: rest))) : W p l e R s m args below meth c H locs cells slots Q (F0 m pc ls (.int (zI b) :: .int (zI a) :: rest)) := lv_isub hx hb hdg (by rw [zI_sub, he]; exact k)
theorem z_imul (hx : p.tables.exec = Jvm.exec) (hb : c.code = cc) {a b r : Int} (he : a * b = r) (hdg : decode cc pc = .ok (.imul, 1)) (k : W p l e R s m args below meth c H locs cells slots Q (F0 m (pc + 1) ls (.int (zI r) :: rest))) : W p l e R s m args below meth c H locs cells slots Q (F0 m pc ls (.int (zI b) :: .int (zI a) :: rest)) := lv_imul hx hb hdg (by rw [zI_mul, he]; exact k)
theorem z_ineg (hx : p.tables.exec = Jvm.exec) (hb : c.code = cc) {a r : Int} (he : -a = r) (hdg : decode cc pc = .ok (.ineg, 1)) (k : W p l e R s m args below meth c H locs cells slots Q (F0 m (pc + 1) ls (.int (zI r) :: rest))) : W p l e R s m args below meth c H locs cells slots Q (F0 m pc ls (.int (zI a) :: rest)) := lv_ineg hx hb hdg (by rw [zI_neg, he]; exact k)
theorem z_iand (hx : p.tables.exec = Jvm.exec) (hb : c.code = cc) {a b r : Int} (h : zI a &&& zI b = zI r) (hdg : decode cc pc = .ok (.iand, 1)) (k : W p l e R s m args below meth c H locs cells slots Q (F0 m (pc + 1) ls (.int (zI r) :: rest))) : W p l e R s m args below meth c H locs cells slots Q (F0 m pc ls (.int (zI b) :: .int (zI a) :: rest)) := lv_iand hx hb hdg (by rw [h]; exact k)
theorem z_ior (hx : p.tables.exec = Jvm.exec) (hb : c.code = cc) {a b r : Int} (h : zI a ||| zI b = zI r) (hdg : decode cc pc = .ok (.ior, 1)) (k : W p l e R s m args below meth c H locs cells slots Q (F0 m (pc + 1) ls (.int (zI r) :: rest))) : W p l e R s m args below meth c H locs cells slots Q (F0 m pc ls (.int (zI b) :: .int (zI a) :: rest)) := lv_ior hx hb hdg (by rw [h]; exact k)
theorem z_ixor (hx : p.tables.exec = Jvm.exec) (hb : c.code = cc) {a b r : Int} (h : zI a ^^^ zI b = zI r) (hdg : decode cc pc = .ok (.ixor, 1)) (k : W p l e R s m args below meth c H locs cells slots Q (F0 m (pc + 1) ls (.int (zI r) :: rest))) : W p l e R s m args below meth c H locs cells slots Q (F0 m pc ls (.int (zI b) :: .int (zI a) :: rest)) := lv_ixor hx hb hdg (by rw [h]; exact k)
theorem z_ishl (hx : p.tables.exec = Jvm.exec) (hb : c.code = cc) {a b r : Int} (h : zI a <<< (zI b &&& 31) = zI r) (hdg : decode cc pc = .ok (.ishl, 1)) (k : W p l e R s m args below meth c H locs cells slots Q (F0 m (pc + 1) ls (.int (zI r) :: rest))) : W p l e R s m args below meth c H locs cells slots Q (F0 m pc ls (.int (zI b) :: .int (zI a) :: rest)) := lv_ishl hx hb hdg (by rw [h]; exact k)
theorem z_ishr (hx : p.tables.exec = Jvm.exec) (hb : c.code = cc) {a b r : Int} (h : zI a >>> (zI b &&& 31) = zI r) (hdg : decode cc pc = .ok (.ishr, 1)) (k : W p l e R s m args below meth c H locs cells slots Q (F0 m (pc + 1) ls (.int (zI r) :: rest))) : W p l e R s m args below meth c H locs cells slots Q (F0 m pc ls (.int (zI b) :: .int (zI a) :: rest)) := lv_ishr hx hb hdg (by rw [h]; exact k)
theorem z_idiv (hx : p.tables.exec = Jvm.exec) (hb : c.code = cc) {a b r : Int} (ha : 0 ≤ a ∧ a < 2147483648) (hb0 : 0 < b ∧ b < 2147483648) (he : a / b = r) (hdg : decode cc pc = .ok (.idiv, 1)) (k : W p l e R s m args below meth c H locs cells slots Q (F0 m (pc + 1) ls (.int (zI r) :: rest))) : W p l e R s m args below meth c H locs cells slots Q (F0 m pc ls (.int (zI b) :: .int (zI a) :: rest)) :=
  lv_idiv hx hb hdg (by rw [zI_0, zI_inj ⟨by omega, by omega⟩ ⟨by omega, by omega⟩]; omega) (by rw [zI_div ha.1 ha.2 hb0.1 hb0.2, he]; exact k)
theorem z_irem (hx : p.tables.exec = Jvm.exec) (hb : c.code = cc) {a b r : Int} (ha : 0 ≤ a ∧ a < 2147483648) (hb0 : 0 < b ∧ b < 2147483648) (he : a % b = r) (hdg : decode cc pc = .ok (.irem, 1)) (k : W p l e R s m args below meth c H locs cells slots Q (F0 m (pc + 1) ls (.int (zI r) :: rest))) : W p l e R s m args below meth c H locs cells slots Q (F0 m pc ls (.int (zI b) :: .int (zI a) :: rest)) :=
  lv_irem hx hb hdg (by rw [zI_0, zI_inj ⟨by omega, by omega⟩ ⟨by omega, by omega⟩]; omega) (by rw [zI_rem ha.1 ha.2 hb0.1 hb0.2, he]; exact k)
theorem z_ladd (hx : p.tables.exec = Jvm.exec) (hb : c.code = cc) {a b r : Int} (he : a + b = r) (hdg : decode cc pc = .ok (.ladd, 1)) (k : W p l e R s m args below meth c H locs cells slots Q (F0 m (pc + 1) ls (.long (zL r) :: rest))) : W p l e R s m args below meth c H locs cells slots Q (F0 m pc ls (.long (zL b) :: .long (zL a) :: rest)) := lv_ladd hx hb hdg (by rw [zL_add, he]; exact k)
theorem z_lsub (hx : p.tables.exec = Jvm.exec) (hb : c.code = cc) {a b r : Int} (he : a - b = r) (hdg : decode cc pc = .ok (.lsub, 1)) (k : W p l e R s m args below meth c H locs cells slots Q (F0 m (pc + 1) ls (.long (zL r) :: rest))) : W p l e R s m args below meth c H locs cells slots Q (F0 m pc ls (.long (zL b) :: .long (zL a) :: rest)) := lv_lsub hx hb hdg (by rw [zL_sub, he]; exact k)
theorem z_lmul (hx : p.tables.exec = Jvm.exec) (hb : c.code = cc) {a b r : Int} (he : a * b = r) (hdg : decode cc pc = .ok (.lmul, 1)) (k : W p l e R s m args below meth c H locs cells slots Q (F0 m (pc + 1) ls (.long (zL r) :: rest))) : W p l e R s m args below meth c H locs cells slots Q (F0 m pc ls (.long (zL b) :: .long (zL a) :: rest)) := lv_lmul hx hb hdg (by rw [zL_mul, he]; exact k)
theorem z_i2l (hx : p.tables.exec = Jvm.exec) (hb : c.code = cc) {a : Int} (ha : inR a) (hdg : decode cc pc = .ok (.i2l, 1)) (k : W p l e R s m args below meth c H locs cells slots Q (F0 m (pc + 1) ls (.long (zL a) :: rest))) : W p l e R s m args below meth c H locs cells slots Q (F0 m pc ls (.int (zI a) :: rest)) := lv_i2l hx hb hdg (zI_l ha) k
theorem z_lcmp (hx : p.tables.exec = Jvm.exec) (hb : c.code = cc) {a b : Int} (ha : inL a) (hb0 : inL b) (hdg : decode cc pc = .ok (.lcmp, 1)) (k : W p l e R s m args below meth c H locs cells slots Q (F0 m (pc + 1) ls (.int (zI (cmpI a b)) :: rest))) : W p l e R s m args below meth c H locs cells slots Q (F0 m pc ls (.long (zL b) :: .long (zL a) :: rest)) := W.lcmp hx hb hdg (by rw [zL_cmp ha hb0]; exact k)
theorem z_icmp_eq (hx : p.tables.exec = Jvm.exec) (hb : c.code = cc) {a b : Int} {off : Int} {tgt : Nat} (ha : inR a) (hb0 : inR b) (hdg : decode cc pc = .ok (.if_icmp .eq off, 3)) (ht : (pc : Int) + off = (tgt : Int)) (kt : (a = b) → W p l e R s m args below meth c H locs cells slots Q (F0 m tgt ls rest)) (kf : (¬ (a = b)) → W p l e R s m args below meth c H locs cells slots Q (F0 m (pc + 3) ls rest)) : W p l e R s m args below meth c H locs cells slots Q (F0 m pc ls (.int (zI b) :: .int (zI a) :: rest)) := lv_icmp_eq hx hb hdg ht (fun q => kt ((zI_inj ha hb0).mp q)) (fun q => kf (fun z => q ((zI_inj ha hb0).mpr z)))
theorem z_if_eq (hx : p.tables.exec = Jvm.exec) (hb : c.code = cc) {a : Int} {off : Int} {tgt : Nat} (ha : inR a) (hdg : decode cc pc = .ok (.ifCond .eq off, 3)) (ht : (pc : Int) + off = (tgt : Int)) (kt : (a = 0) → W p l e R s m args below meth c H locs cells slots Q (F0 m tgt ls rest)) (kf : (¬ (a = 0)) → W p l e R s m args below meth c H locs cells slots Q (F0 m (pc + 3) ls rest)) : W p l e R s m args below meth c H locs cells slots Q (F0 m pc ls (.int (zI a) :: rest)) := lv_if_eq hx hb hdg ht (fun q => kt ((zI_inj ha ⟨by decide, by decide⟩).mp (by rw [zI_0] at q; exact q))) (fun q => kf (fun w => q (by rw [zI_0]; exact (zI_inj ha ⟨by decide, by decide⟩).mpr w)))
theorem z_icmp_ne (hx : p.tables.exec = Jvm.exec) (hb : c.code = cc) {a b : Int} {off : Int} {tgt : Nat} (ha : inR a) (hb0 : inR b) (hdg : decode cc pc = .ok (.if_icmp .ne off, 3)) (ht : (pc : Int) + off = (tgt : Int)) (kt : (¬ a = b) → W p l e R s m args below meth c H locs cells slots Q (F0 m tgt ls rest)) (kf : (a = b) → W p l e R s m args below meth c H locs cells slots Q (F0 m (pc + 3) ls rest)) : W p l e R s m args below meth c H locs cells slots Q (F0 m pc ls (.int (zI b) :: .int (zI a) :: rest)) := lv_icmp_ne hx hb hdg ht (fun q => kt (fun z => q ((zI_inj ha hb0).mpr z))) (fun q => kf ((zI_inj ha hb0).mp q))
theorem z_if_ne (hx : p.tables.exec = Jvm.exec) (hb : c.code = cc) {a : Int} {off : Int} {tgt : Nat} (ha : inR a) (hdg : decode cc pc = .ok (.ifCond .ne off, 3)) (ht : (pc : Int) + off = (tgt : Int)) (kt : (¬ a = 0) → W p l e R s m args below meth c H locs cells slots Q (F0 m tgt ls rest)) (kf : (a = 0) → W p l e R s m args below meth c H locs cells slots Q (F0 m (pc + 3) ls rest)) : W p l e R s m args below meth c H locs cells slots Q (F0 m pc ls (.int (zI a) :: rest)) := lv_if_ne hx hb hdg ht (fun q => kt (fun w => q (by rw [zI_0]; exact (zI_inj ha ⟨by decide, by decide⟩).mpr w))) (fun q => kf ((zI_inj ha ⟨by decide, by decide⟩).mp (by rw [zI_0] at q; exact q)))
theorem z_icmp_lt (hx : p.tables.exec = Jvm.exec) (hb : c.code = cc) {a b : Int} {off : Int} {tgt : Nat} (ha : inR a) (hb0 : inR b) (hdg : decode cc pc = .ok (.if_icmp .lt off, 3)) (ht : (pc : Int) + off = (tgt : Int)) (kt : (a < b) → W p l e R s m args below meth c H locs cells slots Q (F0 m tgt ls rest)) (kf : (¬ (a < b)) → W p l e R s m args below meth c H locs cells slots Q (F0 m (pc + 3) ls rest)) : W p l e R s m args below meth c H locs cells slots Q (F0 m pc ls (.int (zI b) :: .int (zI a) :: rest)) := lv_icmp_lt hx hb hdg ht (fun q => kt ((zI_lt ha hb0).mp q)) (fun q => kf (fun z => q ((zI_lt ha hb0).mpr z)))
theorem z_if_lt (hx : p.tables.exec = Jvm.exec) (hb : c.code = cc) {a : Int} {off : Int} {tgt : Nat} (ha : inR a) (hdg : decode cc pc = .ok (.ifCond .lt off, 3)) (ht : (pc : Int) + off = (tgt : Int)) (kt : (a < 0) → W p l e R s m args below meth c H locs cells slots Q (F0 m tgt ls rest)) (kf : (¬ (a < 0)) → W p l e R s m args below meth c H locs cells slots Q (F0 m (pc + 3) ls rest)) : W p l e R s m args below meth c H locs cells slots Q (F0 m pc ls (.int (zI a) :: rest)) := lv_if_lt hx hb hdg ht (fun q => kt ((zI_lt ha ⟨by decide, by decide⟩).mp (by rw [zI_0] at q; exact q))) (fun q => kf (fun w => q (by rw [zI_0]; exact (zI_lt ha ⟨by decide, by decide⟩).mpr w)))
theorem z_icmp_ge (hx : p.tables.exec = Jvm.exec) (hb : c.code = cc) {a b : Int} {off : Int} {tgt : Nat} (ha : inR a) (hb0 : inR b) (hdg : decode cc pc = .ok (.if_icmp .ge off, 3)) (ht : (pc : Int) + off = (tgt : Int)) (kt : (b ≤ a) → W p l e R s m args below meth c H locs cells slots Q (F0 m tgt ls rest)) (kf : (¬ (b ≤ a)) → W p l e R s m args below meth c H locs cells slots Q (F0 m (pc + 3) ls rest)) : W p l e R s m args below meth c H locs cells slots Q (F0 m pc ls (.int (zI b) :: .int (zI a) :: rest)) := lv_icmp_ge hx hb hdg ht (fun q => kt ((zI_le hb0 ha).mp q)) (fun q => kf (fun z => q ((zI_le hb0 ha).mpr z)))
theorem z_if_ge (hx : p.tables.exec = Jvm.exec) (hb : c.code = cc) {a : Int} {off : Int} {tgt : Nat} (ha : inR a) (hdg : decode cc pc = .ok (.ifCond .ge off, 3)) (ht : (pc : Int) + off = (tgt : Int)) (kt : (0 ≤ a) → W p l e R s m args below meth c H locs cells slots Q (F0 m tgt ls rest)) (kf : (¬ (0 ≤ a)) → W p l e R s m args below meth c H locs cells slots Q (F0 m (pc + 3) ls rest)) : W p l e R s m args below meth c H locs cells slots Q (F0 m pc ls (.int (zI a) :: rest)) := lv_if_ge hx hb hdg ht (fun q => kt ((zI_le ⟨by decide, by decide⟩ ha).mp (by rw [zI_0] at q; exact q))) (fun q => kf (fun w => q (by rw [zI_0]; exact (zI_le ⟨by decide, by decide⟩ ha).mpr w)))
theorem z_icmp_gt (hx : p.tables.exec = Jvm.exec) (hb : c.code = cc) {a b : Int} {off : Int} {tgt : Nat} (ha : inR a) (hb0 : inR b) (hdg : decode cc pc = .ok (.if_icmp .gt off, 3)) (ht : (pc : Int) + off = (tgt : Int)) (kt : (b < a) → W p l e R s m args below meth c H locs cells slots Q (F0 m tgt ls rest)) (kf : (¬ (b < a)) → W p l e R s m args below meth c H locs cells slots Q (F0 m (pc + 3) ls rest)) : W p l e R s m args below meth c H locs cells slots Q (F0 m pc ls (.int (zI b) :: .int (zI a) :: rest)) := lv_icmp_gt hx hb hdg ht (fun q => kt ((zI_lt hb0 ha).mp q)) (fun q => kf (fun z => q ((zI_lt hb0 ha).mpr z)))
theorem z_if_gt (hx : p.tables.exec = Jvm.exec) (hb : c.code = cc) {a : Int} {off : Int} {tgt : Nat} (ha : inR a) (hdg : decode cc pc = .ok (.ifCond .gt off, 3)) (ht : (pc : Int) + off = (tgt : Int)) (kt : (0 < a) → W p l e R s m args below meth c H locs cells slots Q (F0 m tgt ls rest)) (kf : (¬ (0 < a)) → W p l e R s m args below meth c H locs cells slots Q (F0 m (pc + 3) ls rest)) : W p l e R s m args below meth c H locs cells slots Q (F0 m pc ls (.int (zI a) :: rest)) := lv_if_gt hx hb hdg ht (fun q => kt ((zI_lt ⟨by decide, by decide⟩ ha).mp (by rw [zI_0] at q; exact q))) (fun q => kf (fun w => q (by rw [zI_0]; exact (zI_lt ⟨by decide, by decide⟩ ha).mpr w)))
theorem z_icmp_le (hx : p.tables.exec = Jvm.exec) (hb : c.code = cc) {a b : Int} {off : Int} {tgt : Nat} (ha : inR a) (hb0 : inR b) (hdg : decode cc pc = .ok (.if_icmp .le off, 3)) (ht : (pc : Int) + off = (tgt : Int)) (kt : (a ≤ b) → W p l e R s m args below meth c H locs cells slots Q (F0 m tgt ls rest)) (kf : (¬ (a ≤ b)) → W p l e R s m args below meth c H locs cells slots Q (F0 m (pc + 3) ls rest)) : W p l e R s m args below meth c H locs cells slots Q (F0 m pc ls (.int (zI b) :: .int (zI a) :: rest)) := lv_icmp_le hx hb hdg ht (fun q => kt ((zI_le ha hb0).mp q)) (fun q => kf (fun z => q ((zI_le ha hb0).mpr z)))
theorem z_if_le (hx : p.tables.exec = Jvm.exec) (hb : c.code = cc) {a : Int} {off : Int} {tgt : Nat} (ha : inR a) (hdg : decode cc pc = .ok (.ifCond .le off, 3)) (ht : (pc : Int) + off = (tgt : Int)) (kt : (a ≤ 0) → W p l e R s m args below meth c H locs cells slots Q (F0 m tgt ls rest)) (kf : (¬ (a ≤ 0)) → W p l e R s m args below meth c H locs cells slots Q (F0 m (pc + 3) ls rest)) : W p l e R s m args below meth c H locs cells slots Q (F0 m pc ls (.int (zI a) :: rest)) := lv_if_le hx hb hdg ht (fun q => kt ((zI_le ha ⟨by decide, by decide⟩).mp (by rw [zI_0] at q; exact q))) (fun q => kf (fun w => q (by rw [zI_0]; exact (zI_le ha ⟨by decide, by decide⟩).mpr w)))
theorem z_tableOut (hx : p.tables.exec = Jvm.exec) (hb : c.code = cc) {dflt lo hi : Int} {offs : Array Int} {len : Nat} {a : Int} {tgt : Nat} (ha : inR a) (hdg : decode cc pc = .ok (.tableswitch dflt lo hi offs, len)) (h : a < lo ∨ hi < a) (ht : (pc : Int) + dflt = (tgt : Int)) (k : W p l e R s m args below meth c H locs cells slots Q (F0 m tgt ls rest)) : W p l e R s m args below meth c H locs cells slots Q (F0 m pc ls (.int (zI a) :: rest)) := lv_tableOut hx hb hdg (by rw [zI_toInt ha]; exact h) ht k
theorem z_tableIn (hx : p.tables.exec = Jvm.exec) (hb : c.code = cc) {dflt lo hi : Int} {offs : Array Int} {len : Nat} {a : Int} {off : Int} {tgt : Nat} (v : Int) (hv : a = v) (hvr : inR v) (hdg : decode cc pc = .ok (.tableswitch dflt lo hi offs, len)) (h1 : ¬ v < lo) (h2 : ¬ hi < v) (ho : offs[(v - lo).toNat]? = some off) (ht : (pc : Int) + off = (tgt : Int)) (k : W p l e R s m args below meth c H locs cells slots Q (F0 m tgt ls rest)) : W p l e R s m args below meth c H locs cells slots Q (F0 m pc ls (.int (zI a) :: rest)) := by
  subst hv
  exact lv_tableIn hx hb hdg (by rw [zI_toInt hvr]; exact h1) (by rw [zI_toInt hvr]; exact h2) (by rw [zI_toInt hvr]; exact ho) ht k
theorem z_lookup (hx : p.tables.exec = Jvm.exec) (hb : c.code = cc) {dflt : Int} {ps : Array (Int × Int)} {len : Nat} {a : Int} {off : Int} {tgt : Nat} (ha : inR a) (hdg : decode cc pc = .ok (.lookupswitch dflt ps, len)) (hp : (ps.toList.zip (ps.toList.drop 1)).all (fun (a, next) => a.1 < next.1) = true) (ho : Op.lookupswitch.offset ps.toList dflt a = off) (ht : (pc : Int) + off = (tgt : Int)) (k : W p l e R s m args below meth c H locs cells slots Q (F0 m tgt ls rest)) : W p l e R s m args below meth c H locs cells slots Q (F0 m pc ls (.int (zI a) :: rest)) := lv_lookup hx hb hdg hp (by rw [zI_toInt ha]; exact ho) ht k
theorem z_iinc (hx : p.tables.exec = Jvm.exec) (hb : c.code = cc) {i nL k : Nat} {n : Int} {x r : Int} {lv lv' : List (Nat × Value)} (he : x + n = r) (hdg : decode cc pc = .ok (.iinc i n, 3)) (h : lv_has ls nL lv) (hk : lv[k]? = some (i, .int (zI x))) (hn : i < nL) (hl : (i, Value.int (zI r)) :: lv.filter (fun q => !(q.1 == i) && !(q.1 + 1 == i && q.2.category == 2)) = lv')
    (kk : ∀ ls' : Array Slot, lv_has ls' nL lv' → W p l e R s m args below meth c H locs cells slots Q (F0 m (pc + 3) ls' rest)) : W p l e R s m args below meth c H locs cells slots Q (F0 m pc ls rest) :=
  lv_iinc (v := zI r) hx hb hdg h hk (by rw [← he]; exact zI_add x n) hn hl kk
theorem z_mmax (hx : p.tables.exec = Jvm.exec) (hb : c.code = cc) (hml : c.maxLocals = ls.size) {own : String} {index : Nat} (hown : s.vm.findClass own = some m.cls) (hlink : (Cond.methodLink own index Lib.Math.max.name).before args s = true) (hstat : (Cond.static Lib.Math.max.name).before args s = true) (hini : (Cond.initialized "java/lang/Math").before args s = true) (hcode : (Cond.code Lib.Math.max.name Lib.Math.max.code 2 (some .int)).before args s = true) (hframes : 1 ≤ R.frames) (hlocals : (rest.map fun v => v.category).sum + 13 ≤ R.locals) (hc : cells ≤ R.cells) (hs : slots ≤ R.slots) {a b r : Int} (ha : inR a) (hb0 : inR b) (he : max a b = r) (hdg : decode cc pc = .ok (.invokestatic index, 3)) (k : W p l e R s m args below meth c H locs cells slots Q (F0 m (pc + 3) ls (.int (zI r) :: rest))) : W p l e R s m args below meth c H locs cells slots Q (F0 m pc ls (.int (zI b) :: .int (zI a) :: rest)) :=
  va_mmax hx hb hml hown hlink hstat hini hcode hframes hlocals hc hs hdg (by
    have e : (if zI a < zI b then zI b else zI a) = zI r := by
      rw [← he]
      by_cases h : a < b
      · rw [if_pos ((zI_lt ha hb0).mpr h), Int.max_eq_right (by omega)]
      · rw [if_neg (fun q => h ((zI_lt ha hb0).mp q)), Int.max_eq_left (by omega)]
    rw [e]; exact k)
theorem z_mmin (hx : p.tables.exec = Jvm.exec) (hb : c.code = cc) (hml : c.maxLocals = ls.size) {own : String} {index : Nat} (hown : s.vm.findClass own = some m.cls) (hlink : (Cond.methodLink own index Lib.Math.min.name).before args s = true) (hstat : (Cond.static Lib.Math.min.name).before args s = true) (hini : (Cond.initialized "java/lang/Math").before args s = true) (hcode : (Cond.code Lib.Math.min.name Lib.Math.min.code 2 (some .int)).before args s = true) (hframes : 1 ≤ R.frames) (hlocals : (rest.map fun v => v.category).sum + 13 ≤ R.locals) (hc : cells ≤ R.cells) (hs : slots ≤ R.slots) {a b r : Int} (ha : inR a) (hb0 : inR b) (he : min a b = r) (hdg : decode cc pc = .ok (.invokestatic index, 3)) (k : W p l e R s m args below meth c H locs cells slots Q (F0 m (pc + 3) ls (.int (zI r) :: rest))) : W p l e R s m args below meth c H locs cells slots Q (F0 m pc ls (.int (zI b) :: .int (zI a) :: rest)) :=
  va_mmin hx hb hml hown hlink hstat hini hcode hframes hlocals hc hs hdg (by
    have e : (if zI b < zI a then zI b else zI a) = zI r := by
      rw [← he]
      by_cases h : b < a
      · rw [if_pos ((zI_lt hb0 ha).mpr h), Int.min_eq_right (by omega)]
      · rw [if_neg (fun q => h ((zI_lt hb0 ha).mp q)), Int.min_eq_left (by omega)]
    rw [e]; exact k)
variable {D : va_G} {cl : List vw_C} {A : Nat → Prop} {a : Nat} {tys : List (ClassId × FieldType)} {ws : va_W} {H0 : Heap}
theorem z_iald (hx : p.tables.exec = Jvm.exec) (hb : c.code = cc) (hK : va_K D cl tys s) (hP : va_P D cl ws H) (q0 t0 : Nat) {cA : ClassId} {n : Nat} {f : Nat → Int} (ha : ws[q0]? = some (a, .inl (cA, n, .inl (zA f)))) (ht : tys[t0]? = some (cA, .int)) {i : Int} (k : Nat) (hk : i = (k : Int)) (hlt : k < n) (hn : n ≤ 65536) (hdg : decode cc pc = .ok (.iaload, 1))
    (kk : W p l e R s m args below meth c H locs cells slots Q (F0 m (pc + 1) ls (.int (zI (f k)) :: rest))) : W p l e R s m args below meth c H locs cells slots Q (F0 m pc ls (.int (zI i) :: .ref a :: rest)) := by
  subst hk
  refine va_iald hx hb hK hP q0 t0 ha ht (zI_in (by omega) (by omega) hn) hdg ?_
  rw [zI_cl ⟨by omega, by omega⟩, Int.toNat_natCast]
  exact kk
theorem z_zald (hx : p.tables.exec = Jvm.exec) (hb : c.code = cc) (hK : va_K D cl tys s) (hP : va_P D cl ws H) (q0 t0 : Nat) {cA : ClassId} {n : Nat} {f : Nat → Int} (ha : ws[q0]? = some (a, .inl (cA, n, .inl (zA f)))) (ht : tys[t0]? = some (cA, .boolean)) {i : Int} (k : Nat) (hk : i = (k : Int)) (hlt : k < n) (hn : n ≤ 65536) (hdg : decode cc pc = .ok (.baload, 1))
    (kk : W p l e R s m args below meth c H locs cells slots Q (F0 m (pc + 1) ls (.int (zI (f k)) :: rest))) : W p l e R s m args below meth c H locs cells slots Q (F0 m pc ls (.int (zI i) :: .ref a :: rest)) := by
  subst hk
  refine va_zald hx hb hK hP q0 t0 ha ht (zI_in (by omega) (by omega) hn) hdg ?_
  rw [zI_cl ⟨by omega, by omega⟩, Int.toNat_natCast]
  exact kk
theorem z_iast (hx : p.tables.exec = Jvm.exec) (hb : c.code = cc) (hK : va_K D cl tys s) (hP : va_P D cl ws H) (hD : va_D A ws) (hS : va_S A H0 H locs) (q0 t0 : Nat) {cA : ClassId} {n : Nat} {f : Nat → Int} (ha : ws[q0]? = some (a, .inl (cA, n, .inl (zA f)))) (ht : tys[t0]? = some (cA, .int)) {i x : Int} (k : Nat) (hk : i = (k : Int)) (hlt : k < n) (hn : n ≤ 65536) (hdg : decode cc pc = .ok (.iastore, 1))
    (kk : ∀ (H1 : Heap) (locs1 : List Loc), va_P D cl (ws.set q0 (a, .inl (cA, n, .inl (zA (va_up f k x))))) H1 → va_D A (ws.set q0 (a, .inl (cA, n, .inl (zA (va_up f k x))))) → va_S A H0 H1 locs1 → W p l e R s m args below meth c H1 locs1 cells slots Q (F0 m (pc + 1) ls rest)) : W p l e R s m args below meth c H locs cells slots Q (F0 m pc ls (.int (zI x) :: .int (zI i) :: .ref a :: rest)) := by
  subst hk
  refine va_iast hx hb hK hP hD hS q0 t0 ha ht (zI_in (by omega) (by omega) hn) hdg ?_
  rw [zI_cl ⟨by omega, by omega⟩, Int.toNat_natCast, zA_up]
  exact kk
theorem z_zast (hx : p.tables.exec = Jvm.exec) (hb : c.code = cc) (hK : va_K D cl tys s) (hP : va_P D cl ws H) (hD : va_D A ws) (hS : va_S A H0 H locs) (q0 t0 : Nat) {cA : ClassId} {n : Nat} {f : Nat → Int} (ha : ws[q0]? = some (a, .inl (cA, n, .inl (zA f)))) (ht : tys[t0]? = some (cA, .boolean)) {i x : Int} (k : Nat) (hk : i = (k : Int)) (hlt : k < n) (hn : n ≤ 65536) (hx01 : x = 0 ∨ x = 1) (hdg : decode cc pc = .ok (.bastore, 1))
    (kk : ∀ (H1 : Heap) (locs1 : List Loc), va_P D cl (ws.set q0 (a, .inl (cA, n, .inl (zA (va_up f k x))))) H1 → va_D A (ws.set q0 (a, .inl (cA, n, .inl (zA (va_up f k x))))) → va_S A H0 H1 locs1 → W p l e R s m args below meth c H1 locs1 cells slots Q (F0 m (pc + 1) ls rest)) : W p l e R s m args below meth c H locs cells slots Q (F0 m pc ls (.int (zI x) :: .int (zI i) :: .ref a :: rest)) := by
  subst hk
  refine va_zast hx hb hK hP hD hS q0 t0 ha ht (zI_in (by omega) (by omega) hn) hdg ?_
  have e : vp_nar .boolean (zI x) = zI x := by rcases hx01 with rfl | rfl <;> rfl
  rw [zI_cl ⟨by omega, by omega⟩, Int.toNat_natCast, e, zA_up]
  exact kk
/-! ends -/
theorem zr_iret (hx : p.tables.exec = Jvm.exec) (hb : c.code = cc) (hr : meth.sig.returnType = some .int) (hlocks : meth.locks = false) {x v : Int} (hQ : Q = MQ below (qR v) args s cells slots (fun _ => False)) (he : x = v) (hdg : decode cc pc = .ok (.ireturn, 1)) : W p l e R s m args below meth c s.heap [] cells slots Q (F0 m pc ls [.int (zI x)]) := by
  subst hQ
  exact W.iret hx hb hr (fun t ht hW => ⟨zI x, rfl, by rw [he], ht⟩) (fun q h => by cases h) hdg hlocks
theorem zr_zret (hx : p.tables.exec = Jvm.exec) (hb : c.code = cc) (hr : meth.sig.returnType = some .boolean) (hlocks : meth.locks = false) {x v : Int} (hQ : Q = MQ below (qR v) args s cells slots (fun _ => False)) (he : x = v) (h01 : x = 0 ∨ x = 1) (hdg : decode cc pc = .ok (.ireturn, 1)) : W p l e R s m args below meth c s.heap [] cells slots Q (F0 m pc ls [.int (zI x)]) := by
  subst hQ
  exact W.zret hx hb hr (by rcases h01 with rfl | rfl <;> rfl) (fun t ht hW => ⟨zI x, rfl, by rw [he], ht⟩) (fun q h => by cases h) hdg hlocks
theorem zr_lret (hx : p.tables.exec = Jvm.exec) (hb : c.code = cc) (hr : meth.sig.returnType = some .long) (hlocks : meth.locks = false) {x v : Int} (hQ : Q = MQ below (qRl v) args s cells slots (fun _ => False)) (he : x = v) (hdg : decode cc pc = .ok (.lreturn, 1)) : W p l e R s m args below meth c s.heap [] cells slots Q (F0 m pc ls [.long (zL x)]) := by
  subst hQ
  exact W.lret hx hb hr (fun t ht hW => ⟨zL x, rfl, by rw [he], ht⟩) (fun q h => by cases h) hdg hlocks
theorem zm_iret {wd wd' : va_W} {A0 : Nat → Prop} (hx : p.tables.exec = Jvm.exec) (hb : c.code = cc) (hr : meth.sig.returnType = some .int) (hlocks : meth.locks = false) {x v : Int} (hQ : Q = MQ below (qM D (some (.int (zI v))) wd wd') args s cells slots (inW wd)) (hA0 : A0 = inW wd) (hP : va_P D vwCl wd' H) (hS : va_S A0 s.heap H locs) (he : x = v) (hdg : decode cc pc = .ok (.ireturn, 1)) : W p l e R s m args below meth c H locs cells slots Q (F0 m pc ls [.int (zI x)]) := by
  subst hQ; subst hA0
  exact W.iret hx hb hr (fun t ht hW => ⟨by rw [he], by rw [ht]; exact hP, by rw [ht]; exact hS.1, fun q h1 h2 => by rw [ht]; exact hS.2.1 q h1 h2⟩) hS.2.2 hdg hlocks
theorem zm_zret {wd wd' : va_W} {A0 : Nat → Prop} (hx : p.tables.exec = Jvm.exec) (hb : c.code = cc) (hr : meth.sig.returnType = some .boolean) (hlocks : meth.locks = false) {x v : Int} (hQ : Q = MQ below (qM D (some (.int (zI v))) wd wd') args s cells slots (inW wd)) (hA0 : A0 = inW wd) (hP : va_P D vwCl wd' H) (hS : va_S A0 s.heap H locs) (he : x = v) (h01 : x = 0 ∨ x = 1) (hdg : decode cc pc = .ok (.ireturn, 1)) : W p l e R s m args below meth c H locs cells slots Q (F0 m pc ls [.int (zI x)]) := by
  subst hQ; subst hA0
  exact W.zret hx hb hr (by rcases h01 with rfl | rfl <;> rfl) (fun t ht hW => ⟨by rw [he], by rw [ht]; exact hP, by rw [ht]; exact hS.1, fun q h1 h2 => by rw [ht]; exact hS.2.1 q h1 h2⟩) hS.2.2 hdg hlocks
theorem zm_vret {wd wd' : va_W} {A0 : Nat → Prop} (hx : p.tables.exec = Jvm.exec) (hb : c.code = cc) (hr : meth.sig.returnType = none) (hlocks : meth.locks = false) (hQ : Q = MQ below (qM D none wd wd') args s cells slots (inW wd)) (hA0 : A0 = inW wd) (hP : va_P D vwCl wd' H) (hS : va_S A0 s.heap H locs) (hdg : decode cc pc = .ok (.return_, 1)) : W p l e R s m args below meth c H locs cells slots Q (F0 m pc ls []) := by
  subst hQ; subst hA0
  exact W.vret hx hb hr (fun t ht hW => ⟨rfl, by rw [ht]; exact hP, by rw [ht]; exact hS.1, fun q h1 h2 => by rw [ht]; exact hS.2.1 q h1 h2⟩) hS.2.2 hdg hlocks
/-! calls -/
variable {y : MethodName} {bytes : ByteArray} {maxL nL n index : Nat} {ret : Option FieldType} {wsY : List Cond} {rm : Room} {Ts : List Cond} {own C : String} {b : Nat} {As st : List Value} {cy : Nat → ClassId} {wd wd' : va_W} {v : Int}
theorem pR_blind {av : List Value} : FrameBlind (pR D cy wd av) := fun a U g mk q => ⟨q.1, q.2.1, va_K.moved (u := U) (U := U.calling g mk a) (Vm.Alike.refl U.vm) q.2.2⟩
theorem pM_blind {av : List Value} : FrameBlind (pM D cy wd av) := fun a U g mk q => ⟨q.1, q.2.1, va_K.moved (u := U) (U := U.calling g mk a) (Vm.Alike.refl U.vm) q.2.2.1, q.2.2.2⟩
theorem zr_callV (S : CallFix p m c cc nL s args Ts own) (hM : Met l y wsY rm (pR D cy wd (.ref b :: As)) (qR v) 0 0 (fun _ => False)) (cw : CallW R s args own C index y bytes maxL ret wsY rm 0 0 n) (hK : va_K D vwCl (TYL cy) s) (hP : va_P D vwCl wd H) (q0 ci : Nat) {fs : List Value} {T : u_T} {N : Nat} (he : wd[q0]? = some (b, .inr (ci, fs))) (hc : vwCl[ci]? = some (C, T, N)) (hn : As.length = n) (hsz : ls.size = nL) (hst : st = As.reverse ++ .ref b :: rest) (hW : (rest.map fun v => v.category).sum ≤ 8) (hdg : decode cc pc = .ok (.invokevirtual index, 3)) (hf : cells + 0 ≤ R.cells ∧ slots + 0 ≤ R.slots)
    (k : W p l e R s m args below meth c H locs cells slots Q (F0 m (pc + 3) ls (.int (zI v) :: rest))) : W p l e R s m args below meth c H locs cells slots Q (F0 m pc ls st) :=
  vp_callSi (W.runV (rest := rest) S hM cw ⟨pR_blind, va_recv hK hP hc he, fun U hU hW' => ⟨rfl, by rw [hU]; exact hP, va_K.moved hW'.alike hK⟩⟩ rfl hn hsz hst (lv_room hW) hdg hf) (fun r hr => by subst hr; exact k)
theorem zr_callVl (S : CallFix p m c cc nL s args Ts own) (hM : Met l y wsY rm (pR D cy wd (.ref b :: As)) (qRl v) 0 0 (fun _ => False)) (cw : CallW R s args own C index y bytes maxL ret wsY rm 0 0 n) (hK : va_K D vwCl (TYL cy) s) (hP : va_P D vwCl wd H) (q0 ci : Nat) {fs : List Value} {T : u_T} {N : Nat} (he : wd[q0]? = some (b, .inr (ci, fs))) (hc : vwCl[ci]? = some (C, T, N)) (hn : As.length = n) (hsz : ls.size = nL) (hst : st = As.reverse ++ .ref b :: rest) (hW : (rest.map fun v => v.category).sum ≤ 8) (hdg : decode cc pc = .ok (.invokevirtual index, 3)) (hf : cells + 0 ≤ R.cells ∧ slots + 0 ≤ R.slots)
    (k : W p l e R s m args below meth c H locs cells slots Q (F0 m (pc + 3) ls (.long (zL v) :: rest))) : W p l e R s m args below meth c H locs cells slots Q (F0 m pc ls st) :=
  vp_callSl (W.runV (rest := rest) S hM cw ⟨pR_blind, va_recv hK hP hc he, fun U hU hW' => ⟨rfl, by rw [hU]; exact hP, va_K.moved hW'.alike hK⟩⟩ rfl hn hsz hst (lv_room hW) hdg hf) (fun r hr => by subst hr; exact k)
theorem zr_callS (S : CallFix p m c cc nL s args Ts own) (hM : Met l y wsY rm (pR D cy wd As) (qR v) 0 0 (fun _ => False)) (cw : CallB R s args own index y bytes maxL ret wsY rm 0 0 n ∧ (Cond.static y).before args s = true) (hK : va_K D vwCl (TYL cy) s) (hP : va_P D vwCl wd H) (hn : As.length = n) (hsz : ls.size = nL) (hst : st = As.reverse ++ rest) (hW : (rest.map fun v => v.category).sum ≤ 8) (hdg : decode cc pc = .ok (.invokestatic index, 3)) (hf : cells + 0 ≤ R.cells ∧ slots + 0 ≤ R.slots)
    (k : W p l e R s m args below meth c H locs cells slots Q (F0 m (pc + 3) ls (.int (zI v) :: rest))) : W p l e R s m args below meth c H locs cells slots Q (F0 m pc ls st) :=
  vp_callSi (W.runS (rest := rest) S hM cw ⟨pR_blind, fun U hU hW' => ⟨rfl, by rw [hU]; exact hP, va_K.moved hW'.alike hK⟩⟩ rfl hn hsz hst (lv_room hW) hdg hf) (fun r hr => by subst hr; exact k)
theorem zr_callSl (S : CallFix p m c cc nL s args Ts own) (hM : Met l y wsY rm (pR D cy wd As) (qRl v) 0 0 (fun _ => False)) (cw : CallB R s args own index y bytes maxL ret wsY rm 0 0 n ∧ (Cond.static y).before args s = true) (hK : va_K D vwCl (TYL cy) s) (hP : va_P D vwCl wd H) (hn : As.length = n) (hsz : ls.size = nL) (hst : st = As.reverse ++ rest) (hW : (rest.map fun v => v.category).sum ≤ 8) (hdg : decode cc pc = .ok (.invokestatic index, 3)) (hf : cells + 0 ≤ R.cells ∧ slots + 0 ≤ R.slots)
    (k : W p l e R s m args below meth c H locs cells slots Q (F0 m (pc + 3) ls (.long (zL v) :: rest))) : W p l e R s m args below meth c H locs cells slots Q (F0 m pc ls st) :=
  vp_callSl (W.runS (rest := rest) S hM cw ⟨pR_blind, fun U hU hW' => ⟨rfl, by rw [hU]; exact hP, va_K.moved hW'.alike hK⟩⟩ rfl hn hsz hst (lv_room hW) hdg hf) (fun r hr => by subst hr; exact k)
/-- behind a call that writes: the callee's world as it is now, the caller's other cells -/
theorem fm_new {ws ws' wc w1 : va_W} {H1 : Heap} (hP : va_P D vwCl ws H) (hnew : ∀ q, q ∈ ws' → q ∈ w1 ∨ (q ∈ ws ∧ ¬ inW wc q.1)) (hk : ∀ q : Nat, q < H.size → ¬ inW wc q → H1[q]? = H[q]?) (hP1 : va_P D vwCl w1 H1) : va_P D vwCl ws' H1 := by
  intro k q hq
  rcases hnew q (List.mem_of_getElem? hq) with h | ⟨h, h2⟩
  · obtain ⟨j, hj⟩ := List.getElem?_of_mem h
    exact hP1 j q hj
  · obtain ⟨j, hj⟩ := List.getElem?_of_mem h
    exact (hP j q hj).kept (hk q.1 (hP j q hj).lt h2)
theorem fm_addr {ws ws' : va_W} (hD : va_D A ws) (h : ws'.map Prod.fst = ws.map Prod.fst) : va_D A ws' := by
  have key : ∀ (k : Nat) (q : Nat × va_E), ws'[k]? = some q → ∃ q0, ws[k]? = some q0 ∧ q0.1 = q.1 := by
    intro k q hq
    have h1 : (ws'.map Prod.fst)[k]? = some q.1 := by rw [List.getElem?_map, hq]; rfl
    rw [h, List.getElem?_map] at h1
    cases e : ws[k]? with
    | none => rw [e] at h1; cases h1
    | some x => rw [e] at h1; exact ⟨x, rfl, Option.some.inj h1⟩
  refine ⟨fun i j x z hi hj hxz => ?_, fun k q hk => ?_⟩
  · obtain ⟨x0, h1, h2⟩ := key i x hi
    obtain ⟨z0, h3, h4⟩ := key j z hj
    exact hD.1 i j x0 z0 h1 h3 (by rw [h2, h4]; exact hxz)
  · obtain ⟨q0, h1, h2⟩ := key k q hk
    rw [← h2]
    exact hD.2 k q0 h1
/-- by places: cell k of the caller's world behind the call is cell j of the callee's (some j), or as it was (none) -/
theorem fm_places {ws ws' wc w1 : va_W} (hD : va_D A ws) (isC : List Nat) (src : List (Option Nat)) (hC : isC.map (fun i => ws[i]?) = wc.map some) (hsrc : (List.range src.length).map (fun k => match src.getD k none with | some j => w1[j]? | none => ws[k]?) = ws'.map some) (hdis : ∀ k, k < src.length → src.getD k none = none → k ∉ isC) : ∀ q, q ∈ ws' → q ∈ w1 ∨ (q ∈ ws ∧ ¬ inW wc q.1) := by
  intro q hq
  have hm : some q ∈ ws'.map some := List.mem_map.mpr ⟨q, hq, rfl⟩
  rw [← hsrc] at hm
  obtain ⟨k, hk, he⟩ := List.mem_map.mp hm
  have hk := List.mem_range.mp hk
  cases hs : src.getD k none with
  | some j =>
    rw [hs] at he
    exact Or.inl (List.mem_of_getElem? he)
  | none =>
    rw [hs] at he
    refine Or.inr ⟨List.mem_of_getElem? he, fun hin => ?_⟩
    obtain ⟨x, hx, hxq⟩ := List.mem_map.mp hin
    have hx2 : some x ∈ wc.map some := List.mem_map.mpr ⟨x, hx, rfl⟩
    rw [← hC] at hx2
    obtain ⟨i, hi, hix⟩ := List.mem_map.mp hx2
    have : k = i := hD.1 k i q x he hix hxq.symm
    subst this
    exact hdis k hk hs hi
theorem fm_sub {ws wc : va_W} (isC : List Nat) (hC : isC.map (fun i => ws[i]?) = wc.map some) : ∀ q, q ∈ wc → q ∈ ws := by
  intro q hq
  have hx2 : some q ∈ wc.map some := List.mem_map.mpr ⟨q, hq, rfl⟩
  rw [← hC] at hx2
  obtain ⟨i, hi, hix⟩ := List.mem_map.mp hx2
  exact List.mem_of_getElem? hix
theorem va_P.mem {ws wc : va_W} (hP : va_P D cl ws H) (h : ∀ q, q ∈ wc → q ∈ ws) : va_P D cl wc H := by
  intro k q hq
  obtain ⟨j, hj⟩ := List.getElem?_of_mem (h q (List.mem_of_getElem? hq))
  exact hP j q hj
theorem inW_sub {ws wc : va_W} (hD : va_D A ws) (h : ∀ q, q ∈ wc → q ∈ ws) : ∀ q, inW wc q → A q := by
  intro q hq
  obtain ⟨x, hx, rfl⟩ := List.mem_map.mp hq
  obtain ⟨k, hk⟩ := List.getElem?_of_mem (h x hx)
  exact hD.2 k x hk
/-- a call of a method that writes: raw -/
theorem zm_go {wc w1 : va_W} {r : Option Value} {a9 : Array Value} (hr : CallRun p l e R s m args below meth c H locs cells slots 0 0 (F0 m pc ls st) rest (qM D r wc w1 a9) (inW wc)) (hS : va_S A H0 H locs) (hA : ∀ q, inW wc q → A q)
    (kk : ∀ (H1 : Heap) (locs1 : List Loc), va_P D vwCl w1 H1 → (∀ q : Nat, q < H.size → ¬ inW wc q → H1[q]? = H[q]?) → va_S A H0 H1 locs1 → W p l e R s m args below meth c H1 locs1 cells slots Q (F0 m (pc + 3) ls (r.toList ++ rest))) : W p l e R s m args below meth c H locs cells slots Q (F0 m pc ls st) := by
  intro T hT X
  obtain ⟨v9, st₀, t, T', L, h0, X', hL, e1, ⟨hv, hP1, hz, hk⟩, stp⟩ := hr T hT X
  cases hv
  rw [h0] at hz hk
  obtain ⟨t2, a1, b1⟩ := kk t.heap (locs ++ L) hP1 hk ⟨Nat.le_trans hS.1 hz, fun q h1 h2 => (hk q (Nat.lt_of_lt_of_le h1 hS.1) (fun h => h2 (hA q h))).trans (hS.2.1 q h1 h2), fun q hq => by
    rcases List.mem_append.mp hq with h | h
    · exact hS.2.2 q h
    · exact hA q.base (hL q h)⟩ T' e1 X'
  exact ⟨t2, stp t2 a1, b1⟩
theorem zm_callV {ws ws' wc w1 : va_W} {r : Option Value} (S : CallFix p m c cc nL s args Ts own) (hM : Met l y wsY rm (pM D cy wc (.ref b :: As)) (qM D r wc w1) 0 0 (inW wc)) (cw : CallW R s args own C index y bytes maxL ret wsY rm 0 0 n) (hK : va_K D vwCl (TYL cy) s) (hP : va_P D vwCl ws H) (hD : va_D A ws) (hS : va_S A H0 H locs) (isC : List Nat) (src : List (Option Nat)) (hC : isC.map (fun i => ws[i]?) = wc.map some) (hnd : va_nd isC = true) (hsrc : (List.range src.length).map (fun k => match src.getD k none with | some j => w1[j]? | none => ws[k]?) = ws'.map some) (hdis : ∀ k, k < src.length → src.getD k none = none → k ∉ isC) (hfst : ws'.map Prod.fst = ws.map Prod.fst) (q0 ci : Nat) {fs : List Value} {T : u_T} {N : Nat} (he : wc[q0]? = some (b, .inr (ci, fs))) (hc : vwCl[ci]? = some (C, T, N)) (hn : As.length = n) (hsz : ls.size = nL) (hst : st = As.reverse ++ .ref b :: rest) (hW : (rest.map fun v => v.category).sum ≤ 8) (hdg : decode cc pc = .ok (.invokevirtual index, 3)) (hf : cells + 0 ≤ R.cells ∧ slots + 0 ≤ R.slots)
    (kk : ∀ (H1 : Heap) (locs1 : List Loc), va_P D vwCl ws' H1 → va_D A ws' → va_S A H0 H1 locs1 → W p l e R s m args below meth c H1 locs1 cells slots Q (F0 m (pc + 3) ls (r.toList ++ rest))) : W p l e R s m args below meth c H locs cells slots Q (F0 m pc ls st) := by
  have hsub := fm_sub isC hC
  have hPc : va_P D vwCl wc H := hP.mem hsub
  have hDc : va_D (fun _ => True) wc := (hD.sub isC hnd hC).weaken (fun _ _ _ _ => trivial)
  exact zm_go (W.runV (rest := rest) S hM cw ⟨pM_blind, va_recv hK hPc hc he, fun U hU hW' => ⟨rfl, by rw [hU]; exact hPc, va_K.moved hW'.alike hK, hDc⟩⟩ rfl hn hsz hst (lv_room hW) hdg hf) hS (inW_sub hD hsub)
    (fun H1 locs1 hP1 hk hS1 => kk H1 locs1 (fm_new hP (fm_places hD isC src hC hsrc hdis) hk hP1) (fm_addr hD hfst) hS1)
theorem zm_callS {ws ws' wc w1 : va_W} {r : Option Value} (S : CallFix p m c cc nL s args Ts own) (hM : Met l y wsY rm (pM D cy wc As) (qM D r wc w1) 0 0 (inW wc)) (cw : CallB R s args own index y bytes maxL ret wsY rm 0 0 n ∧ (Cond.static y).before args s = true) (hK : va_K D vwCl (TYL cy) s) (hP : va_P D vwCl ws H) (hD : va_D A ws) (hS : va_S A H0 H locs) (isC : List Nat) (src : List (Option Nat)) (hC : isC.map (fun i => ws[i]?) = wc.map some) (hnd : va_nd isC = true) (hsrc : (List.range src.length).map (fun k => match src.getD k none with | some j => w1[j]? | none => ws[k]?) = ws'.map some) (hdis : ∀ k, k < src.length → src.getD k none = none → k ∉ isC) (hfst : ws'.map Prod.fst = ws.map Prod.fst) (hn : As.length = n) (hsz : ls.size = nL) (hst : st = As.reverse ++ rest) (hW : (rest.map fun v => v.category).sum ≤ 8) (hdg : decode cc pc = .ok (.invokestatic index, 3)) (hf : cells + 0 ≤ R.cells ∧ slots + 0 ≤ R.slots)
    (kk : ∀ (H1 : Heap) (locs1 : List Loc), va_P D vwCl ws' H1 → va_D A ws' → va_S A H0 H1 locs1 → W p l e R s m args below meth c H1 locs1 cells slots Q (F0 m (pc + 3) ls (r.toList ++ rest))) : W p l e R s m args below meth c H locs cells slots Q (F0 m pc ls st) := by
  have hsub := fm_sub isC hC
  have hPc : va_P D vwCl wc H := hP.mem hsub
  have hDc : va_D (fun _ => True) wc := (hD.sub isC hnd hC).weaken (fun _ _ _ _ => trivial)
  exact zm_go (W.runS (rest := rest) S hM cw ⟨pM_blind, fun U hU hW' => ⟨rfl, by rw [hU]; exact hPc, va_K.moved hW'.alike hK, hDc⟩⟩ rfl hn hsz hst (lv_room hW) hdg hf) hS (inW_sub hD hsub)
    (fun H1 locs1 hP1 hk hS1 => kk H1 locs1 (fm_new hP (fm_places hD isC src hC hsrc hdis) hk hP1) (fm_addr hD hfst) hS1)
end ZR
