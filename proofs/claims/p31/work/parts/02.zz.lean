/-! ===== the world of both systems as a list of shapes and a memory of numbers ===== -/
abbrev zI : Type := (Nat → Nat → Int32) × (Nat → Nat → Int64)
/-- a shape: an object (number of its cls, its fields: none a number, some r a reference), an array of numbers (0 ints, 1 longs; how long), an array of references (which, what it holds) -/
abbrev zC : Type := (Nat × List (Option (Option Nat))) ⊕ ((Nat × Nat) ⊕ (Nat × List (Option Nat)))
/-- one number of the memory is set -/
def zu (I : zI) (k j : Nat) (v : Int32) : zI := (fun a b => if a = k ∧ b = j then v else I.1 a b, I.2)
def zul (I : zI) (k j : Nat) (v : Int64) : zI := (I.1, fun a b => if a = k ∧ b = j then v else I.2 a b)
theorem zu_ne {I : zI} {k j a : Nat} {v : Int32} (h : a ≠ k) : (zu I k j v).1 a = I.1 a ∧ (zu I k j v).2 a = I.2 a := by
  refine ⟨?_, rfl⟩
  funext b
  simp [zu, h]
theorem zul_ne {I : zI} {k j a : Nat} {v : Int64} (h : a ≠ k) : (zul I k j v).1 a = I.1 a ∧ (zul I k j v).2 a = I.2 a := by
  refine ⟨rfl, ?_⟩
  funext b
  simp [zul, h]
/-- a run of numbers is copied -/
def zcp (I : zI) (k k0 sp dp n : Nat) : zI := (fun a b => if a = k then va_cpy (I.1 k0) (I.1 k) sp dp n b else I.1 a b, I.2)
theorem zcp_ne {I : zI} {k k0 sp dp n a : Nat} (h : a ≠ k) : (zcp I k k0 sp dp n).1 a = I.1 a ∧ (zcp I k k0 sp dp n).2 a = I.2 a := by
  refine ⟨?_, rfl⟩
  funext b
  simp [zcp, h]
def zv (B : Nat) (r : Option Nat) : Value := va_rf (r.map (fun k => B + k))
def z1 (B : Nat) (f : Nat → Int32) (j : Nat) (x : Option (Option Nat)) : Value := match x with
  | none => .int (f j)
  | some r => zv B r
def zF (B : Nat) (f : Nat → Int32) : Nat → List (Option (Option Nat)) → List Value
  | _, [] => []
  | j, x :: t => z1 B f j x :: zF B f (j + 1) t
theorem zF_get (B : Nat) (f : Nat → Int32) : ∀ (fs : List (Option (Option Nat))) (j i : Nat), (zF B f j fs)[i]? = (fs[i]?).map (z1 B f (j + i))
  | [], j, i => by simp [zF]
  | x :: t, j, 0 => by simp [zF]
  | x :: t, j, i + 1 => by
    simp only [zF, List.getElem?_cons_succ]
    rw [zF_get B f t (j + 1) i, show j + 1 + i = j + (i + 1) by omega]
theorem zF_len (B : Nat) (f : Nat → Int32) : ∀ (fs : List (Option (Option Nat))) (j : Nat), (zF B f j fs).length = fs.length
  | [], j => rfl
  | x :: t, j => by simp [zF, zF_len B f t (j + 1)]
theorem zF_put (B : Nat) (f : Nat → Int32) (fs : List (Option (Option Nat))) (i : Nat) (v : Int32) (h : fs[i]? = some none) : (zF B f 0 fs).set i (.int v) = zF B (fun b => if b = i then v else f b) 0 fs := by
  apply List.ext_getElem?
  intro n
  have hl : i < fs.length := (List.getElem?_eq_some_iff.mp h).1
  rw [zF_get, List.getElem?_set, zF_len, zF_get]
  by_cases hn : i = n
  · subst hn
    rw [if_pos rfl, if_pos hl, h]
    simp [z1]
  · rw [if_neg hn]
    cases hx : fs[n]? with
    | none => rfl
    | some x =>
      have hn' : n ≠ i := fun q => hn q.symm
      cases x with
      | none => simp [z1, hn']
      | some r => simp [z1]
theorem zF_putR (B : Nat) (f : Nat → Int32) (fs : List (Option (Option Nat))) (i : Nat) (r0 r : Option Nat) (h : fs[i]? = some (some r0)) : (zF B f 0 fs).set i (zv B r) = zF B f 0 (fs.set i (some r)) := by
  apply List.ext_getElem?
  intro n
  have hl : i < fs.length := (List.getElem?_eq_some_iff.mp h).1
  rw [zF_get, List.getElem?_set, zF_len, zF_get, List.getElem?_set]
  by_cases hn : i = n
  · subst hn
    rw [if_pos rfl, if_pos hl, if_pos rfl, if_pos hl]
    simp [z1]
  · rw [if_neg hn, if_neg hn]
def zB (B : Nat) (cA : Nat → ClassId) (c : zC) (f : Nat → Int32) (g : Nat → Int64) : va_E := match c with
  | .inl o => .inr (o.1, zF B f 0 o.2)
  | .inr (.inl (0, n)) => .inl (cA 0, n, .inl f)
  | .inr (.inl (_, n)) => .inl (cA 1, n, .inr (.inl g))
  | .inr (.inr q) => .inl (cA q.1, q.2.length, .inr (.inr (.inr (.inr (fun j => (q.2.getD j none).map (fun r => B + r))))))
def zE (B : Nat) (cA : Nat → ClassId) (k : Nat) (c : zC) (f : Nat → Int32) (g : Nat → Int64) : Nat × va_E := (B + k, zB B cA c f g)
def zWg (B : Nat) (cA : Nat → ClassId) (I : zI) : Nat → List zC → va_W
  | _, [] => []
  | k, c :: t => zE B cA k c (I.1 k) (I.2 k) :: zWg B cA I (k + 1) t
theorem zWg_get (B : Nat) (cA : Nat → ClassId) (I : zI) : ∀ (S : List zC) (k i : Nat), (zWg B cA I k S)[i]? = (S[i]?).map (fun c => zE B cA (k + i) c (I.1 (k + i)) (I.2 (k + i)))
  | [], k, i => by simp [zWg]
  | x :: t, k, 0 => by simp [zWg]
  | x :: t, k, i + 1 => by
    simp only [zWg, List.getElem?_cons_succ]
    rw [zWg_get B cA I t (k + 1) i, show k + 1 + i = k + (i + 1) by omega]
theorem zWg_len (B : Nat) (cA : Nat → ClassId) (I : zI) : ∀ (S : List zC) (k : Nat), (zWg B cA I k S).length = S.length
  | [], k => rfl
  | x :: t, k => by simp [zWg, zWg_len B cA I t (k + 1)]
def zW (B : Nat) (cA : Nat → ClassId) (S : List zC) (I : zI) : va_W := zWg B cA I 0 S
theorem zW_get {B : Nat} {cA : Nat → ClassId} {S : List zC} {I : zI} {k : Nat} {x : zC} (h : S[k]? = some x) : (zW B cA S I)[k]? = some (B + k, zB B cA x (I.1 k) (I.2 k)) := by
  unfold zW
  rw [zWg_get, h]
  simp [zE]
theorem zW_at {B : Nat} {cA : Nat → ClassId} {S : List zC} {I : zI} {k : Nat} {q : Nat × va_E} (h : (zW B cA S I)[k]? = some q) : q.1 = B + k := by
  unfold zW at h
  rw [zWg_get] at h
  cases hx : S[k]? with
  | none => rw [hx] at h; cases h
  | some x =>
    rw [hx] at h
    cases h
    simp [zE]
theorem zD (B : Nat) (cA : Nat → ClassId) (S : List zC) (I : zI) : va_D (fun q => B ≤ q) (zW B cA S I) := by
  refine ⟨fun i j p q hi hj h => ?_, fun k q h => ?_⟩
  · have h1 := zW_at hi
    have h2 := zW_at hj
    omega
  · have h1 := zW_at h
    show B ≤ q.1
    omega
theorem zW_set {B : Nat} {cA : Nat → ClassId} {S : List zC} {I I2 : zI} {k : Nat} {x : zC} {y : va_E} (h : S[k]? = some x) (hI : ∀ a, a ≠ k → I2.1 a = I.1 a ∧ I2.2 a = I.2 a) (hy : zB B cA x (I2.1 k) (I2.2 k) = y) : (zW B cA S I).set k (B + k, y) = zW B cA S I2 := by
  subst hy
  have hl : k < S.length := (List.getElem?_eq_some_iff.mp h).1
  apply List.ext_getElem?
  intro n
  unfold zW
  rw [List.getElem?_set, zWg_len, zWg_get, zWg_get]
  by_cases hn : k = n
  · subst hn
    rw [if_pos rfl, if_pos hl, h]
    simp [zE]
  · rw [if_neg hn]
    obtain ⟨e1, e2⟩ := hI (0 + n) (by omega)
    rw [e1, e2]
theorem zW_setS {B : Nat} {cA : Nat → ClassId} {S : List zC} {I : zI} {k : Nat} {x x2 : zC} {y : va_E} (h : S[k]? = some x) (hy : zB B cA x2 (I.1 k) (I.2 k) = y) : (zW B cA S I).set k (B + k, y) = zW B cA (S.set k x2) I := by
  subst hy
  have hl : k < S.length := (List.getElem?_eq_some_iff.mp h).1
  apply List.ext_getElem?
  intro n
  unfold zW
  rw [List.getElem?_set, zWg_len, zWg_get, zWg_get, List.getElem?_set]
  by_cases hn : k = n
  · subst hn
    rw [if_pos rfl, if_pos hl, if_pos rfl, if_pos hl]
    simp [zE]
  · rw [if_neg hn, if_neg hn]
theorem zW_push {B : Nat} {cA : Nat → ClassId} {S : List zC} {I I2 : zI} {x : zC} {y : va_E} (hI : ∀ a, a ≠ S.length → I2.1 a = I.1 a ∧ I2.2 a = I.2 a) (hy : zB B cA x (I2.1 S.length) (I2.2 S.length) = y) : zW B cA S I ++ [(B + S.length, y)] = zW B cA (S ++ [x]) I2 := by
  subst hy
  apply List.ext_getElem?
  intro n
  unfold zW
  rw [List.getElem?_append, zWg_len, zWg_get, zWg_get, List.getElem?_append]
  by_cases hn : n < S.length
  · rw [if_pos hn, if_pos hn]
    obtain ⟨e1, e2⟩ := hI (0 + n) (by omega)
    rw [e1, e2]
  · rw [if_neg hn, if_neg hn]
    by_cases h2 : n = S.length
    · subst h2
      simp [zE]
    · have h3 : n - S.length ≠ 0 := by omega
      cases hq : n - S.length with
      | zero => exact absurd hq h3
      | succ r => simp
/-! ===== what stands at a method's start, and the judgement ===== -/
/-- an array of numbers that is a cell of the statics: name of its cls, its name, how long, what it holds -/
def zSt (ad : Nat → Nat) (B : Nat) (U : State) (H : Heap) : Prop := ∀ (i : Nat) (q : String × String × List Int32), zTab[i]? = some q → va_Z q.1 q.2.1 "[I" (.ref (ad i)) (fun a => B ≤ a) U H ∧ va_T .int (ad i) q.2.2.length (fun j => .int (q.2.2.getD j 0)) (fun a => B ≤ a) U H
theorem zSt.moved {ad : Nat → Nat} {B : Nat} {u U : State} {H : Heap} (hvm : u.vm.Alike U.vm) (h : zSt ad B u H) : zSt ad B U H := fun i q hq => ⟨(h i q hq).1.moved hvm, (h i q hq).2.moved hvm⟩
theorem zSt.kept {ad : Nat → Nat} {B : Nat} {U : State} {H H1 : Heap} (h : zSt ad B U H) (hq : ∀ a : Nat, a < H.size → ¬ B ≤ a → H1[a]? = H[a]?) : zSt ad B U H1 := fun i q hi => ⟨(h i q hi).1.kept hq, (h i q hi).2.kept hq⟩
def zCx (p : Program) (s : State) (m : MethodId) (args : Array Value) (meth : Method) (c : Code) (cc : ByteArray) (nL : Nat) (own : String) (ret : Option FieldType) (D : va_G) (B : Nat) (cA : Nat → ClassId) (ad : Nat → Nat) : Prop :=
  p.tables.exec = Jvm.exec ∧ c.code = cc ∧ c.maxLocals = nL ∧ s.vm.findClass own = some m.cls ∧ (∀ w ∈ zTb, w.before args s = true) ∧ meth.sig.returnType = ret ∧ meth.locks = false ∧ va_K D classes (zT cA) s ∧ zSt ad B s s.heap ∧ B ≤ s.heap.size ∧ zNest s
def zX (p : Program) (l : Launch) (e : Env) (R : Room) (s : State) (m : MethodId) (args : Array Value) (below : List Frame) (meth : Method) (c : Code) (Q : State → Prop) (D : va_G) (B : Nat) (cA : Nat → ClassId) (nL cells slots : Nat) (S : List zC) (I : zI) (lv : List (Nat × Value)) (st : List Value) (pc : Nat) : Prop :=
  ∀ (H : Heap) (locs : List Loc) (ls : Array Slot), va_P D classes (zW B cA S I) H → H.size = B + S.length → va_S (fun q => B ≤ q) s.heap H locs → lv_has ls nL lv → W p l e R s m args below meth c H locs cells slots Q (F0 m pc ls st)
def zIn (D : va_G) (B : Nat) (cA : Nat → ClassId) (ad : Nat → Nat) (S : List zC) (I : zI) (U : State) : Prop :=
  va_P D classes (zW B cA S I) U.heap ∧ U.heap.size = B + S.length ∧ va_K D classes (zT cA) U ∧ zSt ad B U U.heap ∧ zNest U
def zPc (D : va_G) (B : Nat) (cA : Nat → ClassId) (ad : Nat → Nat) (As : List Value) (S : List zC) (I : zI) : Array Value → State → Prop := va_Pc As (zIn D B cA ad S I)
def zQc (D : va_G) (B : Nat) (cA : Nat → ClassId) (Qr : Option Value → List zC → zI → Prop) : Array Value → State → Outcome → State → Prop := fun _ u oc t =>
  (∃ (r : Option Value) (S2 : List zC) (I2 : zI), oc = .returned r ∧ Qr r S2 I2 ∧ va_P D classes (zW B cA S2 I2) t.heap ∧ t.heap.size = B + S2.length) ∧ va_F (fun q => B ≤ q) u t
/-- the words of a method: its own code, and the tables' -/
def zws (y : MethodName) (b : ByteArray) (n : Nat) (r : Option FieldType) : List Cond := .code y b n r :: zTb
section ZR
variable {p : Program} {l : Launch} {e : Env} {R : Room} {s : State} {m : MethodId} {args : Array Value} {below : List Frame} {meth : Method} {c : Code} {Q : State → Prop} {D : va_G} {B : Nat} {cA : Nat → ClassId} {ad : Nat → Nat} {cc : ByteArray} {nL : Nat} {own : String} {ret : Option FieldType} {cells slots : Nat} {S : List zC} {I : zI} {lv : List (Nat × Value)} {st : List Value} {pc : Nat}
theorem zIn.blind {As : List Value} : FrameBlind (zPc D B cA ad As S I) := fun a U g mk h => ⟨h.1, h.2.1, h.2.2.1, va_K.moved (u := U) (U := U.calling g mk a) (Vm.Alike.refl U.vm) h.2.2.2.1, fun i q hq => ⟨(h.2.2.2.2.1 i q hq).1.moved (u := U) (U := U.calling g mk a) (Vm.Alike.refl U.vm), (h.2.2.2.2.1 i q hq).2.moved (u := U) (U := U.calling g mk a) (Vm.Alike.refl U.vm)⟩, ⟨fun q hq => va_Nw.same (u := U) (U := U.calling g mk a) rfl rfl (h.2.2.2.2.2.1 q hq), va_AO.moved (u := U) (U := U.calling g mk a) (Vm.Alike.refl U.vm) h.2.2.2.2.2.2⟩⟩
theorem zm_of {y : MethodName} {w : List Cond} {rm : Room} {mc ms : Nat} {maxL : Nat} {As : List Value} {Qr : Option Value → List zC → zI → Prop} (hy : plainName y.cls = true) (hw : w = zws y cc maxL ret) (hle : (lg_sl As).length ≤ maxL) (hB : True)
    (body : ∀ (p : Program) (e : Env) (s : State) (m : MethodId) (args : Array Value) (below : List Frame) (meth : Method) (c : Code), zCx p s m args meth c cc maxL y.cls ret D B cA ad → meth.name = y.name → zX p l e rm s m args below meth c (MQ below (zQc D B cA Qr) args s mc ms (fun q => B ≤ q)) D B cA maxL 0 0 S I (lv_args 0 As) [] 0) :
    Met l y w rm (zPc D B cA ad As S I) (zQc D B cA Qr) mc ms (fun q => B ≤ q) := by
  subst hw
  refine Met.ofW (cc := cc) (maxL := maxL) (ret := ret) hy rfl ?_
  intro p e s m args below meth c s₁ Bd hml hv
  obtain ⟨rfl, hP, hsz, hK, hT, hNs⟩ := hv
  have hts := atoms_spec (ws := zws y cc maxL ret) Bd.pre
  have hC : zCx p s m As.toArray meth c cc maxL y.cls ret D B cA ad := ⟨Bd.exec, Bd.bytes, hml, findClass_of_methodNamed Bd.named, fun w hw => hts w (List.mem_cons_of_mem _ hw), Bd.returns, Bd.notSynchronized, hK, hT, by omega, hNs⟩
  have h0 := body p e s m As.toArray below meth c hC (name_of_methodNamed Bd.named Bd.method).1
  rw [lg_entry_eq]
  exact h0 s.heap [] _ hP hsz va_S.rf (lv_entry As hle)
theorem zr_widen {k n : Nat} (h1 : cells ≤ k) (h2 : slots ≤ n) (kk : zX p l e R s m args below meth c Q D B cA nL k n S I lv st pc) : zX p l e R s m args below meth c Q D B cA nL cells slots S I lv st pc :=
  fun H locs ls a1 a2 a3 a4 => W.widen h1 h2 (kk H locs ls a1 a2 a3 a4)
theorem zr_sub {lv2 : List (Nat × Value)} (ks : List Nat) (hl : lv_pick lv ks = lv2) (kk : zX p l e R s m args below meth c Q D B cA nL cells slots S I lv2 st pc) : zX p l e R s m args below meth c Q D B cA nL cells slots S I lv st pc :=
  fun H locs ls a1 a2 a3 a4 => kk H locs ls a1 a2 a3 (lv_sub a4 ks hl)
theorem zr_iconst (C : zCx p s m args meth c cc nL own ret D B cA ad) {n : Int} {v : Int32} (hd : decode cc pc = .ok (.iconst n, 1)) (hv : Int32.ofInt n = v) (kk : zX p l e R s m args below meth c Q D B cA nL cells slots S I lv (.int v :: st) (pc + 1)) : zX p l e R s m args below meth c Q D B cA nL cells slots S I lv st pc :=
  fun H locs ls a1 a2 a3 a4 => lv_iconst C.1 C.2.1 hd hv (kk H locs ls a1 a2 a3 a4)
theorem zr_bipush (C : zCx p s m args meth c cc nL own ret D B cA ad) {n : Int} {v : Int32} (hd : decode cc pc = .ok (.bipush n, 2)) (hv : (Int8.ofInt n).toInt32 = v) (kk : zX p l e R s m args below meth c Q D B cA nL cells slots S I lv (.int v :: st) (pc + 2)) : zX p l e R s m args below meth c Q D B cA nL cells slots S I lv st pc :=
  fun H locs ls a1 a2 a3 a4 => lv_bipush C.1 C.2.1 hd hv (kk H locs ls a1 a2 a3 a4)
theorem zr_sipush (C : zCx p s m args meth c cc nL own ret D B cA ad) {n : Int} {v : Int32} (hd : decode cc pc = .ok (.sipush n, 3)) (hv : (Int16.ofInt n).toInt32 = v) (kk : zX p l e R s m args below meth c Q D B cA nL cells slots S I lv (.int v :: st) (pc + 3)) : zX p l e R s m args below meth c Q D B cA nL cells slots S I lv st pc :=
  fun H locs ls a1 a2 a3 a4 => lv_sipush C.1 C.2.1 hd hv (kk H locs ls a1 a2 a3 a4)
theorem zr_ldc (C : zCx p s m args meth c cc nL own ret D B cA ad) {index : Nat} {v : Int32} (hw : Cond.constant own index v ∈ zTb) (hd : decode cc pc = .ok (.ldc index, 2)) (kk : zX p l e R s m args below meth c Q D B cA nL cells slots S I lv (.int v :: st) (pc + 2)) : zX p l e R s m args below meth c Q D B cA nL cells slots S I lv st pc :=
  fun H locs ls a1 a2 a3 a4 => lv_ldc C.1 C.2.1 C.2.2.2.1 (C.2.2.2.2.1 _ hw) hd (kk H locs ls a1 a2 a3 a4)
theorem zr_iload_n (C : zCx p s m args meth c cc nL own ret D B cA ad) {k : Fin 4} {i : Nat} {x : Int32} (hd : decode cc pc = .ok (.iload_n k, 1)) (hi : (k : Nat) = i) (j : Nat) (hj : lv[j]? = some (i, .int x)) (kk : zX p l e R s m args below meth c Q D B cA nL cells slots S I lv (.int x :: st) (pc + 1)) : zX p l e R s m args below meth c Q D B cA nL cells slots S I lv st pc :=
  fun H locs ls a1 a2 a3 a4 => lv_iload_n C.1 C.2.1 hd hi (lv_at a4 j hj) (kk H locs ls a1 a2 a3 a4)
theorem zr_iload (C : zCx p s m args meth c cc nL own ret D B cA ad) {i : Nat} {x : Int32} (hd : decode cc pc = .ok (.iload i, 2)) (j : Nat) (hj : lv[j]? = some (i, .int x)) (kk : zX p l e R s m args below meth c Q D B cA nL cells slots S I lv (.int x :: st) (pc + 2)) : zX p l e R s m args below meth c Q D B cA nL cells slots S I lv st pc :=
  fun H locs ls a1 a2 a3 a4 => lv_iload C.1 C.2.1 hd (lv_at a4 j hj) (kk H locs ls a1 a2 a3 a4)
theorem zr_aload_n (C : zCx p s m args meth c cc nL own ret D B cA ad) {k : Fin 4} {i : Nat} {x : Nat} (hd : decode cc pc = .ok (.aload_n k, 1)) (hi : (k : Nat) = i) (j : Nat) (hj : lv[j]? = some (i, .ref x)) (kk : zX p l e R s m args below meth c Q D B cA nL cells slots S I lv (.ref x :: st) (pc + 1)) : zX p l e R s m args below meth c Q D B cA nL cells slots S I lv st pc :=
  fun H locs ls a1 a2 a3 a4 => lv_aload_n C.1 C.2.1 hd hi (lv_at a4 j hj) (kk H locs ls a1 a2 a3 a4)
theorem zr_aload (C : zCx p s m args meth c cc nL own ret D B cA ad) {i : Nat} {x : Nat} (hd : decode cc pc = .ok (.aload i, 2)) (j : Nat) (hj : lv[j]? = some (i, .ref x)) (kk : zX p l e R s m args below meth c Q D B cA nL cells slots S I lv (.ref x :: st) (pc + 2)) : zX p l e R s m args below meth c Q D B cA nL cells slots S I lv st pc :=
  fun H locs ls a1 a2 a3 a4 => lv_aload C.1 C.2.1 hd (lv_at a4 j hj) (kk H locs ls a1 a2 a3 a4)
theorem zr_istore_n (C : zCx p s m args meth c cc nL own ret D B cA ad) {k : Fin 4} {i : Nat} {x : Int32} {lv2 : List (Nat × Value)} (hd : decode cc pc = .ok (.istore_n k, 1)) (hi : (k : Nat) = i) (hn : i < nL) (hl : (i, (Value.int x)) :: lv.filter (fun q => !(q.1 == i) && !(q.1 + 1 == i && q.2.category == 2)) = lv2) (kk : zX p l e R s m args below meth c Q D B cA nL cells slots S I lv2 st (pc + 1)) : zX p l e R s m args below meth c Q D B cA nL cells slots S I lv (.int x :: st) pc :=
  fun H locs ls a1 a2 a3 a4 => lv_istore_n C.1 C.2.1 hd hi a4 hn hl (fun ls2 h2 => kk H locs ls2 a1 a2 a3 h2)
theorem zr_istore (C : zCx p s m args meth c cc nL own ret D B cA ad) {i : Nat} {x : Int32} {lv2 : List (Nat × Value)} (hd : decode cc pc = .ok (.istore i, 2)) (hn : i < nL) (hl : (i, (Value.int x)) :: lv.filter (fun q => !(q.1 == i) && !(q.1 + 1 == i && q.2.category == 2)) = lv2) (kk : zX p l e R s m args below meth c Q D B cA nL cells slots S I lv2 st (pc + 2)) : zX p l e R s m args below meth c Q D B cA nL cells slots S I lv (.int x :: st) pc :=
  fun H locs ls a1 a2 a3 a4 => lv_istore C.1 C.2.1 hd a4 hn hl (fun ls2 h2 => kk H locs ls2 a1 a2 a3 h2)
theorem zr_astore_n (C : zCx p s m args meth c cc nL own ret D B cA ad) {k : Fin 4} {i : Nat} {x : Nat} {lv2 : List (Nat × Value)} (hd : decode cc pc = .ok (.astore_n k, 1)) (hi : (k : Nat) = i) (hn : i < nL) (hl : (i, (Value.ref x)) :: lv.filter (fun q => !(q.1 == i) && !(q.1 + 1 == i && q.2.category == 2)) = lv2) (kk : zX p l e R s m args below meth c Q D B cA nL cells slots S I lv2 st (pc + 1)) : zX p l e R s m args below meth c Q D B cA nL cells slots S I lv (.ref x :: st) pc :=
  fun H locs ls a1 a2 a3 a4 => lv_astore_n C.1 C.2.1 hd hi a4 hn hl (fun ls2 h2 => kk H locs ls2 a1 a2 a3 h2)
theorem zr_astore (C : zCx p s m args meth c cc nL own ret D B cA ad) {i : Nat} {x : Nat} {lv2 : List (Nat × Value)} (hd : decode cc pc = .ok (.astore i, 2)) (hn : i < nL) (hl : (i, (Value.ref x)) :: lv.filter (fun q => !(q.1 == i) && !(q.1 + 1 == i && q.2.category == 2)) = lv2) (kk : zX p l e R s m args below meth c Q D B cA nL cells slots S I lv2 st (pc + 2)) : zX p l e R s m args below meth c Q D B cA nL cells slots S I lv (.ref x :: st) pc :=
  fun H locs ls a1 a2 a3 a4 => lv_astore C.1 C.2.1 hd a4 hn hl (fun ls2 h2 => kk H locs ls2 a1 a2 a3 h2)
theorem zr_iinc (C : zCx p s m args meth c cc nL own ret D B cA ad) {i : Nat} {n : Int} {x v : Int32} {lv2 : List (Nat × Value)} (hd : decode cc pc = .ok (.iinc i n, 3)) (j : Nat) (hj : lv[j]? = some (i, .int x)) (hv : x + Int32.ofInt n = v) (hn : i < nL) (hl : (i, (Value.int v)) :: lv.filter (fun q => !(q.1 == i) && !(q.1 + 1 == i && q.2.category == 2)) = lv2) (kk : zX p l e R s m args below meth c Q D B cA nL cells slots S I lv2 st (pc + 3)) : zX p l e R s m args below meth c Q D B cA nL cells slots S I lv st pc :=
  fun H locs ls a1 a2 a3 a4 => lv_iinc C.1 C.2.1 hd a4 hj hv hn hl (fun ls2 h2 => kk H locs ls2 a1 a2 a3 h2)
theorem zr_iincW (C : zCx p s m args meth c cc nL own ret D B cA ad) {i : Nat} {n : Int} {x v : Int32} {lv2 : List (Nat × Value)} (hd : decode cc pc = .ok (.iinc i n, 6)) (j : Nat) (hj : lv[j]? = some (i, .int x)) (hv : x + Int32.ofInt n = v) (hn : i < nL) (hl : (i, (Value.int v)) :: lv.filter (fun q => !(q.1 == i) && !(q.1 + 1 == i && q.2.category == 2)) = lv2) (kk : zX p l e R s m args below meth c Q D B cA nL cells slots S I lv2 st (pc + 6)) : zX p l e R s m args below meth c Q D B cA nL cells slots S I lv st pc :=
  fun H locs ls a1 a2 a3 a4 => lv_iincW C.1 C.2.1 hd a4 hj hv hn hl (fun ls2 h2 => kk H locs ls2 a1 a2 a3 h2)
theorem zr_iadd (C : zCx p s m args meth c cc nL own ret D B cA ad) {x y : Int32} (hd : decode cc pc = .ok (.iadd, 1)) (kk : zX p l e R s m args below meth c Q D B cA nL cells slots S I lv (.int (x + y) :: st) (pc + 1)) : zX p l e R s m args below meth c Q D B cA nL cells slots S I lv (.int y :: .int x :: st) pc :=
  fun H locs ls a1 a2 a3 a4 => lv_iadd C.1 C.2.1 hd (kk H locs ls a1 a2 a3 a4)
theorem zr_isub (C : zCx p s m args meth c cc nL own ret D B cA ad) {x y : Int32} (hd : decode cc pc = .ok (.isub, 1)) (kk : zX p l e R s m args below meth c Q D B cA nL cells slots S I lv (.int (x - y) :: st) (pc + 1)) : zX p l e R s m args below meth c Q D B cA nL cells slots S I lv (.int y :: .int x :: st) pc :=
  fun H locs ls a1 a2 a3 a4 => lv_isub C.1 C.2.1 hd (kk H locs ls a1 a2 a3 a4)
theorem zr_imul (C : zCx p s m args meth c cc nL own ret D B cA ad) {x y : Int32} (hd : decode cc pc = .ok (.imul, 1)) (kk : zX p l e R s m args below meth c Q D B cA nL cells slots S I lv (.int (x * y) :: st) (pc + 1)) : zX p l e R s m args below meth c Q D B cA nL cells slots S I lv (.int y :: .int x :: st) pc :=
  fun H locs ls a1 a2 a3 a4 => lv_imul C.1 C.2.1 hd (kk H locs ls a1 a2 a3 a4)
theorem zr_iand (C : zCx p s m args meth c cc nL own ret D B cA ad) {x y : Int32} (hd : decode cc pc = .ok (.iand, 1)) (kk : zX p l e R s m args below meth c Q D B cA nL cells slots S I lv (.int (x &&& y) :: st) (pc + 1)) : zX p l e R s m args below meth c Q D B cA nL cells slots S I lv (.int y :: .int x :: st) pc :=
  fun H locs ls a1 a2 a3 a4 => lv_iand C.1 C.2.1 hd (kk H locs ls a1 a2 a3 a4)
theorem zr_ior (C : zCx p s m args meth c cc nL own ret D B cA ad) {x y : Int32} (hd : decode cc pc = .ok (.ior, 1)) (kk : zX p l e R s m args below meth c Q D B cA nL cells slots S I lv (.int (x ||| y) :: st) (pc + 1)) : zX p l e R s m args below meth c Q D B cA nL cells slots S I lv (.int y :: .int x :: st) pc :=
  fun H locs ls a1 a2 a3 a4 => lv_ior C.1 C.2.1 hd (kk H locs ls a1 a2 a3 a4)
theorem zr_ishl (C : zCx p s m args meth c cc nL own ret D B cA ad) {x y : Int32} (hd : decode cc pc = .ok (.ishl, 1)) (kk : zX p l e R s m args below meth c Q D B cA nL cells slots S I lv (.int (x <<< (y &&& 31)) :: st) (pc + 1)) : zX p l e R s m args below meth c Q D B cA nL cells slots S I lv (.int y :: .int x :: st) pc :=
  fun H locs ls a1 a2 a3 a4 => lv_ishl C.1 C.2.1 hd (kk H locs ls a1 a2 a3 a4)
theorem zr_ishr (C : zCx p s m args meth c cc nL own ret D B cA ad) {x y : Int32} (hd : decode cc pc = .ok (.ishr, 1)) (kk : zX p l e R s m args below meth c Q D B cA nL cells slots S I lv (.int (x >>> (y &&& 31)) :: st) (pc + 1)) : zX p l e R s m args below meth c Q D B cA nL cells slots S I lv (.int y :: .int x :: st) pc :=
  fun H locs ls a1 a2 a3 a4 => lv_ishr C.1 C.2.1 hd (kk H locs ls a1 a2 a3 a4)
theorem zr_iushr (C : zCx p s m args meth c cc nL own ret D B cA ad) {x y : Int32} (hd : decode cc pc = .ok (.iushr, 1)) (kk : zX p l e R s m args below meth c Q D B cA nL cells slots S I lv (.int ((x.toUInt32 >>> (y.toUInt32 &&& Int32.toUInt32 31)).toInt32) :: st) (pc + 1)) : zX p l e R s m args below meth c Q D B cA nL cells slots S I lv (.int y :: .int x :: st) pc :=
  fun H locs ls a1 a2 a3 a4 => lv_iushr C.1 C.2.1 hd rfl (kk H locs ls a1 a2 a3 a4)
theorem zr_idiv (C : zCx p s m args meth c cc nL own ret D B cA ad) {x y : Int32} (hd : decode cc pc = .ok (.idiv, 1)) (hne : ¬ y = 0) (kk : zX p l e R s m args below meth c Q D B cA nL cells slots S I lv (.int (x / y) :: st) (pc + 1)) : zX p l e R s m args below meth c Q D B cA nL cells slots S I lv (.int y :: .int x :: st) pc :=
  fun H locs ls a1 a2 a3 a4 => lv_idiv C.1 C.2.1 hd hne (kk H locs ls a1 a2 a3 a4)
theorem zr_dup (C : zCx p s m args meth c cc nL own ret D B cA ad) {v : Value} (hd : decode cc pc = .ok (.dup, 1)) (h1 : v.category = 1) (kk : zX p l e R s m args below meth c Q D B cA nL cells slots S I lv (v :: v :: st) (pc + 1)) : zX p l e R s m args below meth c Q D B cA nL cells slots S I lv (v :: st) pc :=
  fun H locs ls a1 a2 a3 a4 => lv_dup C.1 C.2.1 hd h1 (kk H locs ls a1 a2 a3 a4)
theorem zr_pop (C : zCx p s m args meth c cc nL own ret D B cA ad) {v : Value} (hd : decode cc pc = .ok (.pop, 1)) (h1 : v.category = 1) (kk : zX p l e R s m args below meth c Q D B cA nL cells slots S I lv st (pc + 1)) : zX p l e R s m args below meth c Q D B cA nL cells slots S I lv (v :: st) pc :=
  fun H locs ls a1 a2 a3 a4 => lv_pop C.1 C.2.1 hd h1 (kk H locs ls a1 a2 a3 a4)
theorem zr_dup2 (C : zCx p s m args meth c cc nL own ret D B cA ad) {v w : Value} (hd : decode cc pc = .ok (.dup2, 1)) (h1 : v.category = 1) (h2 : w.category = 1) (kk : zX p l e R s m args below meth c Q D B cA nL cells slots S I lv (v :: w :: v :: w :: st) (pc + 1)) : zX p l e R s m args below meth c Q D B cA nL cells slots S I lv (v :: w :: st) pc :=
  fun H locs ls a1 a2 a3 a4 => lv_dup2_11 C.1 C.2.1 hd h1 h2 (kk H locs ls a1 a2 a3 a4)
theorem zr_goto (C : zCx p s m args meth c cc nL own ret D B cA ad) {off : Int} {tgt : Nat} (hd : decode cc pc = .ok (.goto off, 3)) (ht : (pc : Int) + off = (tgt : Int)) (kk : zX p l e R s m args below meth c Q D B cA nL cells slots S I lv st tgt) : zX p l e R s m args below meth c Q D B cA nL cells slots S I lv st pc :=
  fun H locs ls a1 a2 a3 a4 => lv_goto C.1 C.2.1 hd ht (kk H locs ls a1 a2 a3 a4)
theorem zr_ifnonnull (C : zCx p s m args meth c cc nL own ret D B cA ad) {x : Nat} {off : Int} {tgt : Nat} (hd : decode cc pc = .ok (.ifnonnull off, 3)) (ht : (pc : Int) + off = (tgt : Int)) (kk : zX p l e R s m args below meth c Q D B cA nL cells slots S I lv st tgt) : zX p l e R s m args below meth c Q D B cA nL cells slots S I lv (.ref x :: st) pc :=
  fun H locs ls a1 a2 a3 a4 => lv_ifnonnull C.1 C.2.1 hd ht (kk H locs ls a1 a2 a3 a4)
theorem zr_if_eq (C : zCx p s m args meth c cc nL own ret D B cA ad) {x : Int32} {off : Int} {tgt : Nat} (hd : decode cc pc = .ok (.ifCond .eq off, 3)) (ht : (pc : Int) + off = (tgt : Int)) (kt : x = 0 → zX p l e R s m args below meth c Q D B cA nL cells slots S I lv st tgt) (kf : ¬ x = 0 → zX p l e R s m args below meth c Q D B cA nL cells slots S I lv st (pc + 3)) : zX p l e R s m args below meth c Q D B cA nL cells slots S I lv (.int x :: st) pc :=
  fun H locs ls a1 a2 a3 a4 => lv_if_eq C.1 C.2.1 hd ht (fun z => kt z H locs ls a1 a2 a3 a4) (fun z => kf z H locs ls a1 a2 a3 a4)
theorem zr_icmp_eq (C : zCx p s m args meth c cc nL own ret D B cA ad) {x y : Int32} {off : Int} {tgt : Nat} (hd : decode cc pc = .ok (.if_icmp .eq off, 3)) (ht : (pc : Int) + off = (tgt : Int)) (kt : x = y → zX p l e R s m args below meth c Q D B cA nL cells slots S I lv st tgt) (kf : ¬ x = y → zX p l e R s m args below meth c Q D B cA nL cells slots S I lv st (pc + 3)) : zX p l e R s m args below meth c Q D B cA nL cells slots S I lv (.int y :: .int x :: st) pc :=
  fun H locs ls a1 a2 a3 a4 => lv_icmp_eq C.1 C.2.1 hd ht (fun z => kt z H locs ls a1 a2 a3 a4) (fun z => kf z H locs ls a1 a2 a3 a4)
theorem zr_if_ne (C : zCx p s m args meth c cc nL own ret D B cA ad) {x : Int32} {off : Int} {tgt : Nat} (hd : decode cc pc = .ok (.ifCond .ne off, 3)) (ht : (pc : Int) + off = (tgt : Int)) (kt : ¬ x = 0 → zX p l e R s m args below meth c Q D B cA nL cells slots S I lv st tgt) (kf : x = 0 → zX p l e R s m args below meth c Q D B cA nL cells slots S I lv st (pc + 3)) : zX p l e R s m args below meth c Q D B cA nL cells slots S I lv (.int x :: st) pc :=
  fun H locs ls a1 a2 a3 a4 => lv_if_ne C.1 C.2.1 hd ht (fun z => kt z H locs ls a1 a2 a3 a4) (fun z => kf z H locs ls a1 a2 a3 a4)
theorem zr_icmp_ne (C : zCx p s m args meth c cc nL own ret D B cA ad) {x y : Int32} {off : Int} {tgt : Nat} (hd : decode cc pc = .ok (.if_icmp .ne off, 3)) (ht : (pc : Int) + off = (tgt : Int)) (kt : ¬ x = y → zX p l e R s m args below meth c Q D B cA nL cells slots S I lv st tgt) (kf : x = y → zX p l e R s m args below meth c Q D B cA nL cells slots S I lv st (pc + 3)) : zX p l e R s m args below meth c Q D B cA nL cells slots S I lv (.int y :: .int x :: st) pc :=
  fun H locs ls a1 a2 a3 a4 => lv_icmp_ne C.1 C.2.1 hd ht (fun z => kt z H locs ls a1 a2 a3 a4) (fun z => kf z H locs ls a1 a2 a3 a4)
theorem zr_if_lt (C : zCx p s m args meth c cc nL own ret D B cA ad) {x : Int32} {off : Int} {tgt : Nat} (hd : decode cc pc = .ok (.ifCond .lt off, 3)) (ht : (pc : Int) + off = (tgt : Int)) (kt : x < 0 → zX p l e R s m args below meth c Q D B cA nL cells slots S I lv st tgt) (kf : ¬ x < 0 → zX p l e R s m args below meth c Q D B cA nL cells slots S I lv st (pc + 3)) : zX p l e R s m args below meth c Q D B cA nL cells slots S I lv (.int x :: st) pc :=
  fun H locs ls a1 a2 a3 a4 => lv_if_lt C.1 C.2.1 hd ht (fun z => kt z H locs ls a1 a2 a3 a4) (fun z => kf z H locs ls a1 a2 a3 a4)
theorem zr_icmp_lt (C : zCx p s m args meth c cc nL own ret D B cA ad) {x y : Int32} {off : Int} {tgt : Nat} (hd : decode cc pc = .ok (.if_icmp .lt off, 3)) (ht : (pc : Int) + off = (tgt : Int)) (kt : x < y → zX p l e R s m args below meth c Q D B cA nL cells slots S I lv st tgt) (kf : ¬ x < y → zX p l e R s m args below meth c Q D B cA nL cells slots S I lv st (pc + 3)) : zX p l e R s m args below meth c Q D B cA nL cells slots S I lv (.int y :: .int x :: st) pc :=
  fun H locs ls a1 a2 a3 a4 => lv_icmp_lt C.1 C.2.1 hd ht (fun z => kt z H locs ls a1 a2 a3 a4) (fun z => kf z H locs ls a1 a2 a3 a4)
theorem zr_if_ge (C : zCx p s m args meth c cc nL own ret D B cA ad) {x : Int32} {off : Int} {tgt : Nat} (hd : decode cc pc = .ok (.ifCond .ge off, 3)) (ht : (pc : Int) + off = (tgt : Int)) (kt : 0 ≤ x → zX p l e R s m args below meth c Q D B cA nL cells slots S I lv st tgt) (kf : ¬ 0 ≤ x → zX p l e R s m args below meth c Q D B cA nL cells slots S I lv st (pc + 3)) : zX p l e R s m args below meth c Q D B cA nL cells slots S I lv (.int x :: st) pc :=
  fun H locs ls a1 a2 a3 a4 => lv_if_ge C.1 C.2.1 hd ht (fun z => kt z H locs ls a1 a2 a3 a4) (fun z => kf z H locs ls a1 a2 a3 a4)
theorem zr_icmp_ge (C : zCx p s m args meth c cc nL own ret D B cA ad) {x y : Int32} {off : Int} {tgt : Nat} (hd : decode cc pc = .ok (.if_icmp .ge off, 3)) (ht : (pc : Int) + off = (tgt : Int)) (kt : y ≤ x → zX p l e R s m args below meth c Q D B cA nL cells slots S I lv st tgt) (kf : ¬ y ≤ x → zX p l e R s m args below meth c Q D B cA nL cells slots S I lv st (pc + 3)) : zX p l e R s m args below meth c Q D B cA nL cells slots S I lv (.int y :: .int x :: st) pc :=
  fun H locs ls a1 a2 a3 a4 => lv_icmp_ge C.1 C.2.1 hd ht (fun z => kt z H locs ls a1 a2 a3 a4) (fun z => kf z H locs ls a1 a2 a3 a4)
theorem zr_icmp_gt (C : zCx p s m args meth c cc nL own ret D B cA ad) {x y : Int32} {off : Int} {tgt : Nat} (hd : decode cc pc = .ok (.if_icmp .gt off, 3)) (ht : (pc : Int) + off = (tgt : Int)) (kt : y < x → zX p l e R s m args below meth c Q D B cA nL cells slots S I lv st tgt) (kf : ¬ y < x → zX p l e R s m args below meth c Q D B cA nL cells slots S I lv st (pc + 3)) : zX p l e R s m args below meth c Q D B cA nL cells slots S I lv (.int y :: .int x :: st) pc :=
  fun H locs ls a1 a2 a3 a4 => lv_icmp_gt C.1 C.2.1 hd ht (fun z => kt z H locs ls a1 a2 a3 a4) (fun z => kf z H locs ls a1 a2 a3 a4)
theorem zr_if_le (C : zCx p s m args meth c cc nL own ret D B cA ad) {x : Int32} {off : Int} {tgt : Nat} (hd : decode cc pc = .ok (.ifCond .le off, 3)) (ht : (pc : Int) + off = (tgt : Int)) (kt : x ≤ 0 → zX p l e R s m args below meth c Q D B cA nL cells slots S I lv st tgt) (kf : ¬ x ≤ 0 → zX p l e R s m args below meth c Q D B cA nL cells slots S I lv st (pc + 3)) : zX p l e R s m args below meth c Q D B cA nL cells slots S I lv (.int x :: st) pc :=
  fun H locs ls a1 a2 a3 a4 => lv_if_le C.1 C.2.1 hd ht (fun z => kt z H locs ls a1 a2 a3 a4) (fun z => kf z H locs ls a1 a2 a3 a4)
theorem zr_icmp_le (C : zCx p s m args meth c cc nL own ret D B cA ad) {x y : Int32} {off : Int} {tgt : Nat} (hd : decode cc pc = .ok (.if_icmp .le off, 3)) (ht : (pc : Int) + off = (tgt : Int)) (kt : x ≤ y → zX p l e R s m args below meth c Q D B cA nL cells slots S I lv st tgt) (kf : ¬ x ≤ y → zX p l e R s m args below meth c Q D B cA nL cells slots S I lv st (pc + 3)) : zX p l e R s m args below meth c Q D B cA nL cells slots S I lv (.int y :: .int x :: st) pc :=
  fun H locs ls a1 a2 a3 a4 => lv_icmp_le C.1 C.2.1 hd ht (fun z => kt z H locs ls a1 a2 a3 a4) (fun z => kf z H locs ls a1 a2 a3 a4)
theorem zr_tableOut (C : zCx p s m args meth c cc nL own ret D B cA ad) {dflt lo hi : Int} {offs : Array Int} {len : Nat} {x : Int32} {tgt : Nat} (hd : decode cc pc = .ok (.tableswitch dflt lo hi offs, len)) (h : x.toInt < lo ∨ hi < x.toInt) (ht : (pc : Int) + dflt = (tgt : Int)) (kk : zX p l e R s m args below meth c Q D B cA nL cells slots S I lv st tgt) : zX p l e R s m args below meth c Q D B cA nL cells slots S I lv (.int x :: st) pc :=
  fun H locs ls a1 a2 a3 a4 => lv_tableOut C.1 C.2.1 hd h ht (kk H locs ls a1 a2 a3 a4)
theorem zr_tableIn (C : zCx p s m args meth c cc nL own ret D B cA ad) {dflt lo hi : Int} {offs : Array Int} {len : Nat} {x : Int32} {off : Int} {tgt : Nat} (hd : decode cc pc = .ok (.tableswitch dflt lo hi offs, len)) (h1 : ¬ x.toInt < lo) (h2 : ¬ hi < x.toInt) (ho : offs[(x.toInt - lo).toNat]? = some off) (ht : (pc : Int) + off = (tgt : Int)) (kk : zX p l e R s m args below meth c Q D B cA nL cells slots S I lv st tgt) : zX p l e R s m args below meth c Q D B cA nL cells slots S I lv (.int x :: st) pc :=
  fun H locs ls a1 a2 a3 a4 => lv_tableIn C.1 C.2.1 hd h1 h2 ho ht (kk H locs ls a1 a2 a3 a4)
theorem zr_lookup (C : zCx p s m args meth c cc nL own ret D B cA ad) {dflt : Int} {ps : Array (Int × Int)} {len : Nat} {x : Int32} {off : Int} {tgt : Nat} (hd : decode cc pc = .ok (.lookupswitch dflt ps, len)) (hp : (ps.toList.zip (ps.toList.drop 1)).all (fun (a, next) => a.1 < next.1) = true) (ho : Op.lookupswitch.offset ps.toList dflt x.toInt = off) (ht : (pc : Int) + off = (tgt : Int)) (kk : zX p l e R s m args below meth c Q D B cA nL cells slots S I lv st tgt) : zX p l e R s m args below meth c Q D B cA nL cells slots S I lv (.int x :: st) pc :=
  fun H locs ls a1 a2 a3 a4 => lv_lookup C.1 C.2.1 hd hp ho ht (kk H locs ls a1 a2 a3 a4)

theorem zr_geti (C : zCx p s m args meth c cc nL own ret D B cA ad) {ci : Nat} {Cn ref : String} {T : u_T} {N index : Nat} {k j : Nat} {fs : List (Option (Option Nat))} (hc : classes[ci]? = some (Cn, T, N)) (hin : ∀ w ∈ u_ws Cn T N, w ∈ zTb) (hj : j < N) (hsame : (T j).1 = ref) (hk : S[k]? = some (.inl (ci, fs))) (hf : fs[j]? = some none) (hw : Cond.fieldLink own index ref (T j).2.1 (T j).2.2.1 ∈ zTb) (hd : decode cc pc = .ok (.getfield index, 3)) (kk : zX p l e R s m args below meth c Q D B cA nL cells slots S I lv (.int (I.1 k j) :: st) (pc + 3)) : zX p l e R s m args below meth c Q D B cA nL cells slots S I lv (.ref (B + k) :: st) pc :=
  fun H locs ls a1 a2 a3 a4 => va_get C.1 C.2.1 C.2.2.2.2.1 hin C.2.2.2.1 C.2.2.2.2.2.2.2.1 a1 k (zW_get hk) hc j hj (C.2.2.2.2.1 _ hw) (fun x h => hsame ▸ h) (v := .int (I.1 k j)) (by rw [zF_get, hf]; simp [z1]) hd (kk H locs ls a1 a2 a3 a4)
theorem zr_getr (C : zCx p s m args meth c cc nL own ret D B cA ad) {ci : Nat} {Cn ref : String} {T : u_T} {N index : Nat} {k j : Nat} {fs : List (Option (Option Nat))} (hc : classes[ci]? = some (Cn, T, N)) (hin : ∀ w ∈ u_ws Cn T N, w ∈ zTb) (hj : j < N) (hsame : (T j).1 = ref) (hk : S[k]? = some (.inl (ci, fs))) {r : Nat} (hf : fs[j]? = some (some (some r))) (hw : Cond.fieldLink own index ref (T j).2.1 (T j).2.2.1 ∈ zTb) (hd : decode cc pc = .ok (.getfield index, 3)) (kk : zX p l e R s m args below meth c Q D B cA nL cells slots S I lv (.ref (B + r) :: st) (pc + 3)) : zX p l e R s m args below meth c Q D B cA nL cells slots S I lv (.ref (B + k) :: st) pc :=
  fun H locs ls a1 a2 a3 a4 => va_get C.1 C.2.1 C.2.2.2.2.1 hin C.2.2.2.1 C.2.2.2.2.2.2.2.1 a1 k (zW_get hk) hc j hj (C.2.2.2.2.1 _ hw) (fun x h => hsame ▸ h) (v := .ref (B + r)) (by rw [zF_get, hf]; rfl) hd (kk H locs ls a1 a2 a3 a4)

theorem zr_puti (C : zCx p s m args meth c cc nL own ret D B cA ad) {ci : Nat} {Cn ref : String} {T : u_T} {N index : Nat} {k j : Nat} {fs : List (Option (Option Nat))} (hc : classes[ci]? = some (Cn, T, N)) (hin : ∀ w ∈ u_ws Cn T N, w ∈ zTb) (hj : j < N) (hsame : (T j).1 = ref) (hk : S[k]? = some (.inl (ci, fs))) {v : Int32} (hf : fs[j]? = some none) (ty0 : Nat → FieldType) (hty : ∀ k, k < N → parseFieldDescriptor (T k).2.2.1 = some (ty0 k)) (hnm : ∀ a, a < N → ∀ b, b < N → a ≠ b → (T a).2.1 ≠ (T b).2.1) {ty : FieldType} (hd0 : parseFieldDescriptor (T j).2.2.1 = some ty) (hn : narrow ty (.int v) = .int v) (hfit : fits ty (.int v) = true) (hfin : (T j).2.2.2 = false) (hw : Cond.fieldLink own index ref (T j).2.1 (T j).2.2.1 ∈ zTb) (hd : decode cc pc = .ok (.putfield index, 3)) (kk : zX p l e R s m args below meth c Q D B cA nL cells slots S (zu I k j v) lv st (pc + 3)) : zX p l e R s m args below meth c Q D B cA nL cells slots S I lv (.int v :: .ref (B + k) :: st) pc :=
  fun H locs ls a1 a2 a3 a4 => by
    have hap := va_apart (own := own) C.2.2.2.2.1 hin ty0 hty hnm C.2.2.2.2.2.2.2.1 hc
    have hg := zW_get (B := B) (cA := cA) (I := I) hk
    obtain ⟨r', h1, cell, q1, q2, q3, q4⟩ := a1 k _ hg
    have hr : r' = (Cn, T, N) := Option.some.inj (h1.symm.trans hc)
    subst hr
    obtain ⟨hSl, hfc, kC, hkC, hkind⟩ := C.2.2.2.2.2.2.2.1.1 ci _ hc
    obtain ⟨cf, kf, fi, f, hi, hsl⟩ := hSl j hj
    have hlay := C.2.2.2.2.1 _ (hin _ (u_in_lay hj))
    unfold u_lay at hlay
    rw [if_neg (by rw [hfin]; decide)] at hlay
    have hst := (u_facts hfc hkC (u_lays C.2.2.2.2.1 hin hj) hi).1
    have h6 := u_store hfc hkC hkind hlay hi hd0 hn hfit
    refine W.putK C.1 C.2.1 (f := f) ⟨C.2.2.2.1, C.2.2.2.2.1 _ hw, ⟨_, _, _, hsame ▸ hi⟩, hst⟩ (by rw [q2]; exact h6) q1 q3 (by rw [hsl]; exact k2_hasslot (q4 j hj)) rfl rfl hd fun H2 z1' z2 z3 => ?_
    rw [hsl] at z1' ⊢
    have hlen : j < (zF B (I.1 k) 0 fs).length := by rw [zF_len]; exact (List.getElem?_eq_some_iff.mp hf).1
    have hP2 := va_P.set a1 (zD B cA S I) hg (e := .inr (ci, (zF B (I.1 k) 0 fs).set j (.int v))) ⟨_, hc, t_OB.to (V := updV (vp_V (zF B (I.1 k) 0 fs)) j (.int v)) ⟨_, z1', q2, q3, t_set q4 hap hj (.int v)⟩ (fun j' _ => vp_updV_set hlen (.int v) j')⟩ z3
    have e : (zW B cA S I).set k (B + k, .inr (ci, (zF B (I.1 k) 0 fs).set j (.int v))) = zW B cA S (zu I k j v) := zW_set hk (fun a ha => zu_ne ha) (by
      show Sum.inr (ci, _) = _
      rw [zF_put _ _ _ _ _ hf]
      have e0 : (zu I k j v).1 k = fun b => if b = j then v else I.1 k b := by
        funext b
        simp [zu]
      rw [e0])
    rw [e] at hP2
    exact kk H2 _ ls hP2 (by rw [z2, a2]) (a3.put z2 z3 ((zD B cA S I).2 k _ hg)) a4

theorem zr_putrF (C : zCx p s m args meth c cc nL own ret D B cA ad) {ci : Nat} {Cn ref : String} {T : u_T} {N index : Nat} {k j : Nat} {fs : List (Option (Option Nat))} (hc : classes[ci]? = some (Cn, T, N)) (hin : ∀ w ∈ u_ws Cn T N, w ∈ zTb) (hj : j < N) (hsame : (T j).1 = ref) (hk : S[k]? = some (.inl (ci, fs))) {r0 r : Option Nat} (hf : fs[j]? = some (some r0)) (ty0 : Nat → FieldType) (hty : ∀ k, k < N → parseFieldDescriptor (T k).2.2.1 = some (ty0 k)) (hnm : ∀ a, a < N → ∀ b, b < N → a ≠ b → (T a).2.1 ≠ (T b).2.1) {ty : FieldType} (hd0 : parseFieldDescriptor (T j).2.2.1 = some ty) (hn : narrow ty (zv B r) = zv B r) (hfit : fits ty (zv B r) = true) (hdecl : (T j).1 = own) (hinit : meth.name = "<init>") (hfin : (T j).2.2.2 = true) (hw : Cond.fieldLink own index ref (T j).2.1 (T j).2.2.1 ∈ zTb) (hd : decode cc pc = .ok (.putfield index, 3)) (kk : zX p l e R s m args below meth c Q D B cA nL cells slots (S.set k (.inl (ci, fs.set j (some r)))) I lv st (pc + 3)) : zX p l e R s m args below meth c Q D B cA nL cells slots S I lv (zv B r :: .ref (B + k) :: st) pc :=
  fun H locs ls a1 a2 a3 a4 => by
    have hap := va_apart (own := own) C.2.2.2.2.1 hin ty0 hty hnm C.2.2.2.2.2.2.2.1 hc
    have hg := zW_get (B := B) (cA := cA) (I := I) hk
    obtain ⟨r', h1, cell, q1, q2, q3, q4⟩ := a1 k _ hg
    have hr : r' = (Cn, T, N) := Option.some.inj (h1.symm.trans hc)
    subst hr
    obtain ⟨hSl, hfc, kC, hkC, hkind⟩ := C.2.2.2.2.2.2.2.1.1 ci _ hc
    obtain ⟨cf, kf, fi, f, hi, hsl⟩ := hSl j hj
    have hlay := C.2.2.2.2.1 _ (hin _ (u_in_lay hj))
    unfold u_lay at hlay
    rw [if_pos hfin] at hlay
    have hst := (u_facts hfc hkC (u_lays C.2.2.2.2.1 hin hj) hi).1
    have hcf : m.cls = cf := by
      obtain ⟨_, _, c', _, _, _, -, -, hf', -, -, -, hown2, -⟩ := Cond.laysFinal_spec hlay
      have e1 : c' = cf := by have := hi.symm.trans hf'; simp at this; exact this.1.symm
      rw [hdecl] at hown2
      rw [← e1]; exact Option.some.inj (C.2.2.2.1.symm.trans hown2)
    have h6 := u_fits hfc hkC hkind (Or.inr hlay) hi hd0 hn hfit
    refine W.putFinK C.1 C.2.1 C.2.2.2.1 (C.2.2.2.2.1 _ hw) (hsame ▸ hi) hst hcf hinit (by rw [q2]; exact h6) q1 q3 (by rw [hsl]; exact k2_hasslot (q4 j hj)) rfl rfl hd fun H2 z1' z2 z3 => ?_
    rw [hsl] at z1' ⊢
    have hlen : j < (zF B (I.1 k) 0 fs).length := by rw [zF_len]; exact (List.getElem?_eq_some_iff.mp hf).1
    have hP2 := va_P.set a1 (zD B cA S I) hg (e := .inr (ci, (zF B (I.1 k) 0 fs).set j (zv B r))) ⟨_, hc, t_OB.to (V := updV (vp_V (zF B (I.1 k) 0 fs)) j (zv B r)) ⟨_, z1', q2, q3, t_set q4 hap hj (zv B r)⟩ (fun j' _ => vp_updV_set hlen (zv B r) j')⟩ z3
    have e : (zW B cA S I).set k (B + k, .inr (ci, (zF B (I.1 k) 0 fs).set j (zv B r))) = zW B cA (S.set k (.inl (ci, fs.set j (some r)))) I := zW_setS hk (by
      show Sum.inr (ci, _) = _
      rw [zF_putR _ _ _ _ _ _ hf])
    rw [e] at hP2
    exact kk H2 _ ls hP2 (by rw [z2, a2, List.length_set]) (a3.put z2 z3 ((zD B cA S I).2 k _ hg)) a4

theorem zr_alen (C : zCx p s m args meth c cc nL own ret D B cA ad) {k n : Nat} (hk : S[k]? = some (.inr (.inl (0, n)))) (hd : decode cc pc = .ok (.arraylength, 1)) (kk : zX p l e R s m args below meth c Q D B cA nL cells slots S I lv (.int (Int32.ofNat n) :: st) (pc + 1)) : zX p l e R s m args below meth c Q D B cA nL cells slots S I lv (.ref (B + k) :: st) pc :=
  fun H locs ls a1 a2 a3 a4 => va_alen C.1 C.2.1 C.2.2.2.2.2.2.2.1 a1 k 0 (zW_get hk) rfl rfl hd (kk H locs ls a1 a2 a3 a4)
theorem zr_alenR (C : zCx p s m args meth c cc nL own ret D B cA ad) {k : Nat} {xs : List (Option Nat)} (hk : S[k]? = some (.inr (.inr (2, xs)))) (hd : decode cc pc = .ok (.arraylength, 1)) (kk : zX p l e R s m args below meth c Q D B cA nL cells slots S I lv (.int (Int32.ofNat xs.length) :: st) (pc + 1)) : zX p l e R s m args below meth c Q D B cA nL cells slots S I lv (.ref (B + k) :: st) pc :=
  fun H locs ls a1 a2 a3 a4 => va_alen C.1 C.2.1 C.2.2.2.2.2.2.2.1 a1 k 2 (zW_get hk) rfl rfl hd (kk H locs ls a1 a2 a3 a4)
theorem zr_aald (C : zCx p s m args meth c cc nL own ret D B cA ad) {k r : Nat} {xs : List (Option Nat)} {i : Int32} (hk : S[k]? = some (.inr (.inr (2, xs)))) (hin : vp_in i xs.length) (hr : xs[i.toNatClampNeg]? = some (some r)) (hd : decode cc pc = .ok (.aaload, 1)) (kk : zX p l e R s m args below meth c Q D B cA nL cells slots S I lv (.ref (B + r) :: st) (pc + 1)) : zX p l e R s m args below meth c Q D B cA nL cells slots S I lv (.int i :: .ref (B + k) :: st) pc :=
  fun H locs ls a1 a2 a3 a4 => by
    refine va_aldq C.1 C.2.1 C.2.2.2.2.2.2.2.1 a1 k 2 (zW_get hk) rfl hin hd ?_
    have e : (xs.getD i.toNatClampNeg none).map (fun r => B + r) = some (B + r) := by
      rw [List.getD_eq_getElem?_getD, hr]
      rfl
    rw [e]
    exact kk H locs ls a1 a2 a3 a4
theorem zr_lald (C : zCx p s m args meth c cc nL own ret D B cA ad) {k n : Nat} {i : Int32} (hk : S[k]? = some (.inr (.inl (1, n)))) (hin : vp_in i n) (hd : decode cc pc = .ok (.laload, 1)) (kk : zX p l e R s m args below meth c Q D B cA nL cells slots S I lv (.long (I.2 k i.toNatClampNeg) :: st) (pc + 1)) : zX p l e R s m args below meth c Q D B cA nL cells slots S I lv (.int i :: .ref (B + k) :: st) pc :=
  fun H locs ls a1 a2 a3 a4 => va_lald C.1 C.2.1 C.2.2.2.2.2.2.2.1 a1 k 1 (zW_get hk) rfl hin hd (kk H locs ls a1 a2 a3 a4)
theorem zr_iald (C : zCx p s m args meth c cc nL own ret D B cA ad) {k n : Nat} {i : Int32} (hk : S[k]? = some (.inr (.inl (0, n)))) (hin : vp_in i n) (hd : decode cc pc = .ok (.iaload, 1)) (kk : zX p l e R s m args below meth c Q D B cA nL cells slots S I lv (.int (I.1 k i.toNatClampNeg) :: st) (pc + 1)) : zX p l e R s m args below meth c Q D B cA nL cells slots S I lv (.int i :: .ref (B + k) :: st) pc :=
  fun H locs ls a1 a2 a3 a4 => va_iald C.1 C.2.1 C.2.2.2.2.2.2.2.1 a1 k 0 (zW_get hk) rfl hin hd (kk H locs ls a1 a2 a3 a4)

theorem zr_iast (C : zCx p s m args meth c cc nL own ret D B cA ad) {k n : Nat} {i x : Int32} (hk : S[k]? = some (.inr (.inl (0, n)))) (hin : vp_in i n) (hd : decode cc pc = .ok (.iastore, 1)) (kk : zX p l e R s m args below meth c Q D B cA nL cells slots S (zu I k i.toNatClampNeg x) lv st (pc + 1)) : zX p l e R s m args below meth c Q D B cA nL cells slots S I lv (.int x :: .int i :: .ref (B + k) :: st) pc :=
  fun H locs ls a1 a2 a3 a4 => by
    have hg := zW_get (B := B) (cA := cA) (I := I) hk
    have hK := C.2.2.2.2.2.2.2.1
    refine W.iast C.1 C.2.1 (a1 k _ hg) ((hK.2 0 _ rfl).1 n (fun j => .int (I.1 k j))) (fun q => by cases q) (by show ¬ (i < 0 ∨ (arrV _ _ _).slots.size ≤ _); rw [arrV_size]; exact hin) rfl rfl hd fun H1 z1' z2 z3 => ?_
    have hP2 := va_P.set a1 (zD B cA S I) hg (e := .inl (cA 0, n, .inl (upd (I.1 k) i.toNatClampNeg x))) (by
      show H1[B + k]? = some (vp_cell _ _)
      rw [z1', vp_cell_i, vp_cell_i, arrV_store]
      · congr 2
        funext j
        by_cases hj : j = i.toNatClampNeg <;> simp [updV, upd, hj]) z3
    have e : (zW B cA S I).set k (B + k, .inl (cA 0, n, .inl (upd (I.1 k) i.toNatClampNeg x))) = zW B cA S (zu I k i.toNatClampNeg x) := zW_set hk (fun a ha => zu_ne ha) (by
      show Sum.inl (cA 0, n, Sum.inl _) = _
      have e0 : (zu I k i.toNatClampNeg x).1 k = upd (I.1 k) i.toNatClampNeg x := by
        funext b
        simp [zu, upd]
      rw [e0])
    rw [e] at hP2
    exact kk H1 _ ls hP2 (by rw [z2, a2]) (a3.put z2 z3 ((zD B cA S I).2 k _ hg)) a4
theorem zr_stat (C : zCx p s m args meth c cc nL own ret D B cA ad) {ref : String} {index i : Nat} {q : String × String × List Int32} (hq : zTab[i]? = some q) (hr : q.1 = ref) (hw : Cond.fieldLink own index ref q.2.1 "[I" ∈ zTb) (hd : decode cc pc = .ok (.getstatic index, 3)) (kk : zX p l e R s m args below meth c Q D B cA nL cells slots S I lv (.ref (ad i) :: st) (pc + 3)) : zX p l e R s m args below meth c Q D B cA nL cells slots S I lv st pc :=
  fun H locs ls a1 a2 a3 a4 => va_gets C.1 C.2.1 (C.2.2.2.2.2.2.2.2.1 i q hq).1 a3 C.2.2.2.1 (C.2.2.2.2.1 _ hw) (fun x h => hr ▸ h) hd (kk H locs ls a1 a2 a3 a4)
theorem zr_stld (C : zCx p s m args meth c cc nL own ret D B cA ad) {i : Nat} {q : String × String × List Int32} {x : Int32} (hq : zTab[i]? = some q) (hin : vp_in x q.2.2.length) (hd : decode cc pc = .ok (.iaload, 1)) (kk : zX p l e R s m args below meth c Q D B cA nL cells slots S I lv (.int (q.2.2.getD x.toNatClampNeg 0) :: st) (pc + 1)) : zX p l e R s m args below meth c Q D B cA nL cells slots S I lv (.int x :: .ref (ad i) :: st) pc :=
  fun H locs ls a1 a2 a3 a4 => va_ti C.1 C.2.1 (C.2.2.2.2.2.2.2.2.1 i q hq).2 a3 hin rfl hd (kk H locs ls a1 a2 a3 a4)
theorem zr_stlen (C : zCx p s m args meth c cc nL own ret D B cA ad) {i : Nat} {q : String × String × List Int32} {v : Int32} (hq : zTab[i]? = some q) (hv : Int32.ofNat q.2.2.length = v) (hd : decode cc pc = .ok (.arraylength, 1)) (kk : zX p l e R s m args below meth c Q D B cA nL cells slots S I lv (.int v :: st) (pc + 1)) : zX p l e R s m args below meth c Q D B cA nL cells slots S I lv (.ref (ad i) :: st) pc :=
  fun H locs ls a1 a2 a3 a4 => va_tlen C.1 C.2.1 (C.2.2.2.2.2.2.2.2.1 i q hq).2 a3 hv hd (kk H locs ls a1 a2 a3 a4)
theorem zr_iret (C : zCx p s m args meth c cc nL own ret D B cA ad) {Qr : Option Value → List zC → zI → Prop} (hr : ret = some .int) {v : Int32} (hd : decode cc pc = .ok (.ireturn, 1)) (hq : Qr (some (.int v)) S I) : zX p l e R s m args below meth c (MQ below (zQc D B cA Qr) args s cells slots (fun q => B ≤ q)) D B cA nL cells slots S I lv [.int v] pc :=
  fun H locs ls a1 a2 a3 a4 => W.iret C.1 C.2.1 (C.2.2.2.2.2.1.trans hr) (fun t ht hW => ⟨⟨_, S, I, rfl, hq, by rw [ht]; exact a1, by rw [ht]; exact a2⟩, a3.F ht⟩) a3.2.2 hd C.2.2.2.2.2.2.1
theorem zr_zret (C : zCx p s m args meth c cc nL own ret D B cA ad) {Qr : Option Value → List zC → zI → Prop} (hr : ret = some .boolean) {v : Int32} (hv : narrow .boolean (.int v) = .int v) (hd : decode cc pc = .ok (.ireturn, 1)) (hq : Qr (some (.int v)) S I) : zX p l e R s m args below meth c (MQ below (zQc D B cA Qr) args s cells slots (fun q => B ≤ q)) D B cA nL cells slots S I lv [.int v] pc :=
  fun H locs ls a1 a2 a3 a4 => W.zret C.1 C.2.1 (C.2.2.2.2.2.1.trans hr) hv (fun t ht hW => ⟨⟨_, S, I, rfl, hq, by rw [ht]; exact a1, by rw [ht]; exact a2⟩, a3.F ht⟩) a3.2.2 hd C.2.2.2.2.2.2.1
theorem zr_vret (C : zCx p s m args meth c cc nL own ret D B cA ad) {Qr : Option Value → List zC → zI → Prop} (hr : ret = none) (hd : decode cc pc = .ok (.return_, 1)) (hq : Qr none S I) : zX p l e R s m args below meth c (MQ below (zQc D B cA Qr) args s cells slots (fun q => B ≤ q)) D B cA nL cells slots S I lv [] pc :=
  fun H locs ls a1 a2 a3 a4 => W.vret C.1 C.2.1 (C.2.2.2.2.2.1.trans hr) (fun t ht hW => ⟨⟨_, S, I, rfl, hq, by rw [ht]; exact a1, by rw [ht]; exact a2⟩, a3.F ht⟩) a3.2.2 hd C.2.2.2.2.2.2.1
theorem zr_aret (C : zCx p s m args meth c cc nL own ret D B cA ad) {Qr : Option Value → List zC → zI → Prop} {nm : String} (hr : ret = some (.object nm)) {r : Nat} (hd : decode cc pc = .ok (.areturn, 1)) (hq : Qr (some (.ref (B + r))) S I) : zX p l e R s m args below meth c (MQ below (zQc D B cA Qr) args s cells slots (fun q => B ≤ q)) D B cA nL cells slots S I lv [.ref (B + r)] pc :=
  fun H locs ls a1 a2 a3 a4 => W.aret C.1 C.2.1 (C.2.2.2.2.2.1.trans hr) (Or.inl ⟨nm, rfl⟩) (Or.inr ⟨_, rfl⟩) (fun t ht hW => ⟨⟨_, S, I, rfl, hq, by rw [ht]; exact a1, by rw [ht]; exact a2⟩, a3.F ht⟩) a3.2.2 hd C.2.2.2.2.2.2.1

theorem zr_lconst (C : zCx p s m args meth c cc nL own ret D B cA ad) {n : Fin 2} {v : Int64} (hd : decode cc pc = .ok (.lconst n, 1)) (hv : Int64.ofNat (n : Nat) = v) (kk : zX p l e R s m args below meth c Q D B cA nL cells slots S I lv (.long v :: st) (pc + 1)) : zX p l e R s m args below meth c Q D B cA nL cells slots S I lv st pc :=
  fun H locs ls a1 a2 a3 a4 => lv_lconst C.1 C.2.1 hd hv (kk H locs ls a1 a2 a3 a4)
theorem zr_ldc2 (C : zCx p s m args meth c cc nL own ret D B cA ad) {index : Nat} {v : Int64} (hw : Cond.constantLong own index v ∈ zTb) (hd : decode cc pc = .ok (.ldc2_w index, 3)) (kk : zX p l e R s m args below meth c Q D B cA nL cells slots S I lv (.long v :: st) (pc + 3)) : zX p l e R s m args below meth c Q D B cA nL cells slots S I lv st pc :=
  fun H locs ls a1 a2 a3 a4 => lv_ldc2 C.1 C.2.1 C.2.2.2.1 (C.2.2.2.2.1 _ hw) hd (kk H locs ls a1 a2 a3 a4)
theorem zr_lload_n (C : zCx p s m args meth c cc nL own ret D B cA ad) {k : Fin 4} {i : Nat} {x : Int64} (hd : decode cc pc = .ok (.lload_n k, 1)) (hi : (k : Nat) = i) (j : Nat) (hj : lv[j]? = some (i, .long x)) (kk : zX p l e R s m args below meth c Q D B cA nL cells slots S I lv (.long x :: st) (pc + 1)) : zX p l e R s m args below meth c Q D B cA nL cells slots S I lv st pc :=
  fun H locs ls a1 a2 a3 a4 => lv_lload_n C.1 C.2.1 hd hi (lv_at a4 j hj) (kk H locs ls a1 a2 a3 a4)
theorem zr_lload (C : zCx p s m args meth c cc nL own ret D B cA ad) {i : Nat} {x : Int64} (hd : decode cc pc = .ok (.lload i, 2)) (j : Nat) (hj : lv[j]? = some (i, .long x)) (kk : zX p l e R s m args below meth c Q D B cA nL cells slots S I lv (.long x :: st) (pc + 2)) : zX p l e R s m args below meth c Q D B cA nL cells slots S I lv st pc :=
  fun H locs ls a1 a2 a3 a4 => lv_lload C.1 C.2.1 hd (lv_at a4 j hj) (kk H locs ls a1 a2 a3 a4)
theorem zr_lstore (C : zCx p s m args meth c cc nL own ret D B cA ad) {i : Nat} {x : Int64} {lv2 : List (Nat × Value)} (hd : decode cc pc = .ok (.lstore i, 2)) (hn : i + 1 < nL) (hl : (i, (Value.long x)) :: lv.filter (fun q => !(q.1 == i) && (!(q.1 == i + 1) && !(q.1 + 1 == i && q.2.category == 2))) = lv2) (kk : zX p l e R s m args below meth c Q D B cA nL cells slots S I lv2 st (pc + 2)) : zX p l e R s m args below meth c Q D B cA nL cells slots S I lv (.long x :: st) pc :=
  fun H locs ls a1 a2 a3 a4 => lv_lstore C.1 C.2.1 hd a4 hn hl (fun ls2 h2 => kk H locs ls2 a1 a2 a3 h2)
theorem zr_ladd (C : zCx p s m args meth c cc nL own ret D B cA ad) {x y : Int64} (hd : decode cc pc = .ok (.ladd, 1)) (kk : zX p l e R s m args below meth c Q D B cA nL cells slots S I lv (.long (x + y) :: st) (pc + 1)) : zX p l e R s m args below meth c Q D B cA nL cells slots S I lv (.long y :: .long x :: st) pc :=
  fun H locs ls a1 a2 a3 a4 => lv_ladd C.1 C.2.1 hd (kk H locs ls a1 a2 a3 a4)
theorem zr_lmul (C : zCx p s m args meth c cc nL own ret D B cA ad) {x y : Int64} (hd : decode cc pc = .ok (.lmul, 1)) (kk : zX p l e R s m args below meth c Q D B cA nL cells slots S I lv (.long (x * y) :: st) (pc + 1)) : zX p l e R s m args below meth c Q D B cA nL cells slots S I lv (.long y :: .long x :: st) pc :=
  fun H locs ls a1 a2 a3 a4 => lv_lmul C.1 C.2.1 hd (kk H locs ls a1 a2 a3 a4)
theorem zr_i2l (C : zCx p s m args meth c cc nL own ret D B cA ad) {x : Int32} (hd : decode cc pc = .ok (.i2l, 1)) (kk : zX p l e R s m args below meth c Q D B cA nL cells slots S I lv (.long x.toInt64 :: st) (pc + 1)) : zX p l e R s m args below meth c Q D B cA nL cells slots S I lv (.int x :: st) pc :=
  fun H locs ls a1 a2 a3 a4 => lv_i2l C.1 C.2.1 hd rfl (kk H locs ls a1 a2 a3 a4)
theorem zr_l2i (C : zCx p s m args meth c cc nL own ret D B cA ad) {x : Int64} (hd : decode cc pc = .ok (.l2i, 1)) (kk : zX p l e R s m args below meth c Q D B cA nL cells slots S I lv (.int x.toInt32 :: st) (pc + 1)) : zX p l e R s m args below meth c Q D B cA nL cells slots S I lv (.long x :: st) pc :=
  fun H locs ls a1 a2 a3 a4 => lv_l2i C.1 C.2.1 hd rfl (kk H locs ls a1 a2 a3 a4)
theorem zr_lcmp (C : zCx p s m args meth c cc nL own ret D B cA ad) {x y : Int64} (hd : decode cc pc = .ok (.lcmp, 1)) (kk : zX p l e R s m args below meth c Q D B cA nL cells slots S I lv (.int (lg_cmp x y) :: st) (pc + 1)) : zX p l e R s m args below meth c Q D B cA nL cells slots S I lv (.long y :: .long x :: st) pc :=
  fun H locs ls a1 a2 a3 a4 => W.lcmp C.1 C.2.1 hd (kk H locs ls a1 a2 a3 a4)
theorem zr_last (C : zCx p s m args meth c cc nL own ret D B cA ad) {k n : Nat} {i : Int32} {x : Int64} (hk : S[k]? = some (.inr (.inl (1, n)))) (hin : vp_in i n) (hd : decode cc pc = .ok (.lastore, 1)) (kk : zX p l e R s m args below meth c Q D B cA nL cells slots S (zul I k i.toNatClampNeg x) lv st (pc + 1)) : zX p l e R s m args below meth c Q D B cA nL cells slots S I lv (.long x :: .int i :: .ref (B + k) :: st) pc :=
  fun H locs ls a1 a2 a3 a4 => by
    have hg := zW_get (B := B) (cA := cA) (I := I) hk
    have hK := C.2.2.2.2.2.2.2.1
    refine W.last C.1 C.2.1 (a1 k _ hg) ((hK.2 1 _ rfl).1 n (fun j => .long (I.2 k j))) (fun q => by cases q) (by show ¬ (i < 0 ∨ (arrV _ _ _).slots.size ≤ _); rw [arrV_size]; exact hin) rfl rfl hd fun H1 z1' z2 z3 => ?_
    have hP2 := va_P.set a1 (zD B cA S I) hg (e := .inl (cA 1, n, .inr (.inl (vp_updL (I.2 k) i.toNatClampNeg x)))) (by
      show H1[B + k]? = some (vp_cell _ _)
      rw [z1', vp_cell_l, vp_cell_l, arrV_store]
      · congr 2
        funext j
        by_cases hj : j = i.toNatClampNeg <;> simp [updV, vp_updL, hj]) z3
    have e : (zW B cA S I).set k (B + k, .inl (cA 1, n, .inr (.inl (vp_updL (I.2 k) i.toNatClampNeg x)))) = zW B cA S (zul I k i.toNatClampNeg x) := zW_set hk (fun a ha => zul_ne ha) (by
      show Sum.inl (cA 1, n, Sum.inr (Sum.inl _)) = _
      have e0 : (zul I k i.toNatClampNeg x).2 k = vp_updL (I.2 k) i.toNatClampNeg x := by
        funext b
        simp [zul, vp_updL]
      rw [e0])
    rw [e] at hP2
    exact kk H1 _ ls hP2 (by rw [z2, a2]) (a3.put z2 z3 ((zD B cA S I).2 k _ hg)) a4
theorem zr_lret (C : zCx p s m args meth c cc nL own ret D B cA ad) {Qr : Option Value → List zC → zI → Prop} (hr : ret = some .long) {v : Int64} (hd : decode cc pc = .ok (.lreturn, 1)) (hq : Qr (some (.long v)) S I) : zX p l e R s m args below meth c (MQ below (zQc D B cA Qr) args s cells slots (fun q => B ≤ q)) D B cA nL cells slots S I lv [.long v] pc :=
  fun H locs ls a1 a2 a3 a4 => W.lret C.1 C.2.1 (C.2.2.2.2.2.1.trans hr) (fun t ht hW => ⟨⟨_, S, I, rfl, hq, by rw [ht]; exact a1, by rw [ht]; exact a2⟩, a3.F ht⟩) a3.2.2 hd C.2.2.2.2.2.2.1
theorem zr_mmin (C : zCx p s m args meth c cc nL own ret D B cA ad) {index : Nat} (hw : Cond.methodLink own index Lib.Math.min.name ∈ zTb) (hw2 : Cond.static Lib.Math.min.name ∈ zTb) (hw3 : Cond.initialized "java/lang/Math" ∈ zTb) (hw4 : Cond.code Lib.Math.min.name Lib.Math.min.code 2 (some .int) ∈ zTb) (hf : 1 ≤ R.frames) (hl : 21 ≤ R.locals) (hst : (st.map fun v => v.category).sum ≤ 8) (hc : cells ≤ R.cells) (hs : slots ≤ R.slots) {x y : Int32} (hd : decode cc pc = .ok (.invokestatic index, 3)) (kk : zX p l e R s m args below meth c Q D B cA nL cells slots S I lv (.int (if y < x then y else x) :: st) (pc + 3)) : zX p l e R s m args below meth c Q D B cA nL cells slots S I lv (.int y :: .int x :: st) pc :=
  fun H locs ls a1 a2 a3 a4 => va_mmin C.1 C.2.1 (C.2.2.1.trans a4.1.symm) C.2.2.2.1 (C.2.2.2.2.1 _ hw) (C.2.2.2.2.1 _ hw2) (C.2.2.2.2.1 _ hw3) (C.2.2.2.2.1 _ hw4) hf (by omega) hc hs hd (kk H locs ls a1 a2 a3 a4)
theorem zr_mmax (C : zCx p s m args meth c cc nL own ret D B cA ad) {index : Nat} (hw : Cond.methodLink own index Lib.Math.max.name ∈ zTb) (hw2 : Cond.static Lib.Math.max.name ∈ zTb) (hw3 : Cond.initialized "java/lang/Math" ∈ zTb) (hw4 : Cond.code Lib.Math.max.name Lib.Math.max.code 2 (some .int) ∈ zTb) (hf : 1 ≤ R.frames) (hl : 21 ≤ R.locals) (hst : (st.map fun v => v.category).sum ≤ 8) (hc : cells ≤ R.cells) (hs : slots ≤ R.slots) {x y : Int32} (hd : decode cc pc = .ok (.invokestatic index, 3)) (kk : zX p l e R s m args below meth c Q D B cA nL cells slots S I lv (.int (if x < y then y else x) :: st) (pc + 3)) : zX p l e R s m args below meth c Q D B cA nL cells slots S I lv (.int y :: .int x :: st) pc :=
  fun H locs ls a1 a2 a3 a4 => va_mmax C.1 C.2.1 (C.2.2.1.trans a4.1.symm) C.2.2.2.1 (C.2.2.2.2.1 _ hw) (C.2.2.2.2.1 _ hw2) (C.2.2.2.2.1 _ hw3) (C.2.2.2.2.1 _ hw4) hf (by omega) hc hs hd (kk H locs ls a1 a2 a3 a4)
/-- a call, by what its run says -/
theorem zr_go (C : zCx p s m args meth c cc nL own ret D B cA ad) {st0 : List Value} {a : Array Value} {mc ms : Nat} {Qr : Option Value → List zC → zI → Prop}
    (hr : ∀ (H : Heap) (locs : List Loc) (ls : Array Slot), va_P D classes (zW B cA S I) H → H.size = B + S.length → va_S (fun q => B ≤ q) s.heap H locs → lv_has ls nL lv → va_Run p l e R s m args below meth c H locs cells slots mc ms (F0 m pc ls st0) st (zQc D B cA Qr a) (fun q => B ≤ q))
    (kk : ∀ (r : Option Value) (S2 : List zC) (I2 : zI), Qr r S2 I2 → zX p l e R s m args below meth c Q D B cA nL (cells + mc) (slots + ms) S2 I2 lv (r.toList ++ st) (pc + 3)) : zX p l e R s m args below meth c Q D B cA nL cells slots S I lv st0 pc := by
  intro H locs ls a1 a2 a3 a4 T hT X
  obtain ⟨v, u, t, T2, L, h0, X2, hL, e1, e2, ⟨⟨r, S2, I2, hv, hq, hP, hz⟩, hF⟩, stp⟩ := hr H locs ls a1 a2 a3 a4 T hT X
  cases hv
  have hF1 := hF.1
  have hF2 := hF.2
  rw [h0] at hF1 hF2
  obtain ⟨t2, b1, b2⟩ := kk v S2 I2 hq T2.heap (locs ++ L) ls (by rw [e1]; exact hP) (by rw [e1]; exact hz) ⟨by rw [e1]; exact Nat.le_trans a3.1 hF1, fun q h1 h2 => by
      rw [e1, hF2 q (Nat.lt_of_lt_of_le h1 a3.1) h2]
      exact a3.2.1 q h1 h2, fun q hq' => by
      rcases List.mem_append.mp hq' with h | h
      · exact a3.2.2 q h
      · exact hL q h⟩ a4 T2 rfl X2
  exact ⟨t2, stp t2 b1, b2⟩
theorem zIn_of (C : zCx p s m args meth c cc nL own ret D B cA ad) {H : Heap} {locs : List Loc} (a1 : va_P D classes (zW B cA S I) H) (a2 : H.size = B + S.length) (a3 : va_S (fun q => B ≤ q) s.heap H locs) {U : State} (hU : U.heap = H) (hW : s.WarmedH U.vm) : zIn D B cA ad S I U := by
  refine ⟨by rw [hU]; exact a1, by rw [hU]; exact a2, C.2.2.2.2.2.2.2.1.moved hW.alike, ?_, fun q hq => va_Nw.warmM hW (C.2.2.2.2.2.2.2.2.2.2.1 q hq), va_AO.moved hW.alike C.2.2.2.2.2.2.2.2.2.2.2⟩
  rw [hU]
  exact (C.2.2.2.2.2.2.2.2.1.moved hW.alike).kept (fun q h1 h2 => a3.2.1 q h1 h2)
/-- the words of a callee, out of the tables' -/
theorem zgood {w : List Cond} (h : ∀ x ∈ w, x ∈ zTb) : GoodIn zTb w := fun x hx => ⟨h x hx, zTb_good x (h x hx)⟩
theorem zgV {idx : Nat} {Cn : String} {y : MethodName} {b : ByteArray} {n : Nat} {r : Option FieldType} (h1 : Cond.methodLink own idx y ∈ zTb) (h2 : Cond.instanceMethod y ∈ zTb) (h3 : Cond.selects Cn y y ∈ zTb) (h4 : Cond.initialized Cn ∈ zTb) (h5 : Cond.code y b n r ∈ zTb) : GoodIn zTb (wsV own idx Cn y (zws y b n r)) := zgood (by
  intro x hx
  simp only [wsV, zws, List.mem_append, List.mem_cons, List.not_mem_nil, or_false] at hx
  rcases hx with (rfl | rfl | rfl | rfl) | rfl | hx
  · exact h1
  · exact h2
  · exact h3
  · exact h4
  · exact h5
  · exact hx)
theorem zr_callV (C : zCx p s m args meth c cc nL own ret D B cA ad) {ci k : Nat} {q : vw_C} {fs : List (Option (Option Nat))} {index maxL n mc ms : Nat} {y : MethodName} {bytes : ByteArray} {ret2 : Option FieldType} {rm : Room} {As st0 : List Value} {Qr : Option Value → List zC → zI → Prop} (hc : classes[ci]? = some q) (hk : S[k]? = some (.inl (ci, fs)))
    (hM : Met l y (zws y bytes maxL ret2) rm (zPc D B cA ad (.ref (B + k) :: As) S I) (zQc D B cA Qr) mc ms (fun x => B ≤ x)) (hG : GoodIn zTb (wsV own index q.1 y (zws y bytes maxL ret2))) (hrc : rm.cells = mc) (hrs : rm.slots = ms)
    (hy : y.cls = q.1 ∧ y.cls ≠ "java/lang/invoke/MethodHandle" ∧ y.cls ≠ "java/lang/invoke/VarHandle" ∧ (parseMethodDescriptor y.desc).map (fun d => d.parameters.length) = some n) (hR : rm.frames + 1 ≤ R.frames ∧ 8 + (maxL + 11) + rm.locals ≤ R.locals)
    (hn : As.length = n) (hst : st0 = As.reverse ++ .ref (B + k) :: st) (hw : (st.map fun v => v.category).sum ≤ 8) (hd : decode cc pc = .ok (.invokevirtual index, 3)) (hf : cells + mc ≤ R.cells ∧ slots + ms ≤ R.slots)
    (kk : ∀ (r : Option Value) (S2 : List zC) (I2 : zI), Qr r S2 I2 → zX p l e R s m args below meth c Q D B cA nL (cells + mc) (slots + ms) S2 I2 lv (r.toList ++ st) (pc + 3)) : zX p l e R s m args below meth c Q D B cA nL cells slots S I lv st0 pc :=
  zr_go C (a := (Value.ref (B + k) :: As).toArray) (fun H locs ls a1 a2 a3 a4 => va_runV (As := As) (rest := st) ⟨C.1, C.2.1, C.2.2.1, C.2.2.2.1, C.2.2.2.2.1⟩ hM (cwV n C.2.2.2.2.1 hG rfl hrc hrs hy hR) ⟨zIn.blind, va_recv C.2.2.2.2.2.2.2.1 a1 hc (zW_get hk), fun U hU hW => ⟨rfl, zIn_of C a1 a2 a3 hU hW⟩⟩ rfl hn a4.1 hst (lv_room hw) hd hf) kk
theorem zr_callS (C : zCx p s m args meth c cc nL own ret D B cA ad) {index maxL n mc ms : Nat} {y : MethodName} {bytes : ByteArray} {ret2 : Option FieldType} {rm : Room} {As st0 : List Value} {Qr : Option Value → List zC → zI → Prop}
    (hM : Met l y (zws y bytes maxL ret2) rm (zPc D B cA ad As S I) (zQc D B cA Qr) mc ms (fun x => B ≤ x)) (hG : GoodIn zTb (zws y bytes maxL ret2)) (h1 : Cond.methodLink own index y ∈ zTb) (h2 : Cond.static y ∈ zTb) (h3 : Cond.initialized y.cls ∈ zTb) (hrc : rm.cells = mc) (hrs : rm.slots = ms)
    (hy : y.cls ≠ "java/lang/invoke/MethodHandle" ∧ y.cls ≠ "java/lang/invoke/VarHandle" ∧ (parseMethodDescriptor y.desc).map (fun d => d.parameters.length) = some n) (hR : rm.frames + 1 ≤ R.frames ∧ 8 + (maxL + 11) + rm.locals ≤ R.locals)
    (hn : As.length = n) (hst : st0 = As.reverse ++ st) (hw : (st.map fun v => v.category).sum ≤ 8) (hd : decode cc pc = .ok (.invokestatic index, 3)) (hf : cells + mc ≤ R.cells ∧ slots + ms ≤ R.slots)
    (kk : ∀ (r : Option Value) (S2 : List zC) (I2 : zI), Qr r S2 I2 → zX p l e R s m args below meth c Q D B cA nL (cells + mc) (slots + ms) S2 I2 lv (r.toList ++ st) (pc + 3)) : zX p l e R s m args below meth c Q D B cA nL cells slots S I lv st0 pc :=
  zr_go C (a := As.toArray) (fun H locs ls a1 a2 a3 a4 => va_runS (As := As) (rest := st) ⟨C.1, C.2.1, C.2.2.1, C.2.2.2.1, C.2.2.2.2.1⟩ hM ⟨callB_of n C.2.2.2.2.1 hG rfl hrc hrs (C.2.2.2.2.1 _ h3) (C.2.2.2.2.1 _ h1) hy hR, C.2.2.2.2.1 _ h2⟩ ⟨zIn.blind, fun U hU hW => ⟨rfl, zIn_of C a1 a2 a3 hU hW⟩⟩ rfl hn a4.1 hst (lv_room hw) hd hf) kk

theorem zr_callSN (C : zCx p s m args meth c cc nL own ret D B cA ad) {index maxL n mc ms : Nat} {host : String} {y : MethodName} {bytes : ByteArray} {ret2 : Option FieldType} {rm : Room} {As st0 : List Value} {Qr : Option Value → List zC → zI → Prop}
    (hM : Met l y (zws y bytes maxL ret2) rm (zPc D B cA ad As S I) (zQc D B cA Qr) mc ms (fun x => B ≤ x)) (hG : GoodIn zTb (zws y bytes maxL ret2)) (h1 : (own, index, y, host) ∈ zNsT) (h2 : Cond.static y ∈ zTb) (h3 : Cond.initialized y.cls ∈ zTb) (hrc : rm.cells = mc) (hrs : rm.slots = ms)
    (hy : y.cls ≠ "java/lang/invoke/MethodHandle" ∧ y.cls ≠ "java/lang/invoke/VarHandle" ∧ (parseMethodDescriptor y.desc).map (fun d => d.parameters.length) = some n) (hR : rm.frames + 1 ≤ R.frames ∧ 8 + (maxL + 11) + rm.locals ≤ R.locals)
    (hn : As.length = n) (hst : st0 = As.reverse ++ st) (hw : (st.map fun v => v.category).sum ≤ 8) (hd : decode cc pc = .ok (.invokestatic index, 3)) (hf : cells + mc ≤ R.cells ∧ slots + ms ≤ R.slots)
    (kk : ∀ (r : Option Value) (S2 : List zC) (I2 : zI), Qr r S2 I2 → zX p l e R s m args below meth c Q D B cA nL (cells + mc) (slots + ms) S2 I2 lv (r.toList ++ st) (pc + 3)) : zX p l e R s m args below meth c Q D B cA nL cells slots S I lv st0 pc :=
  zr_go C (a := As.toArray) (fun H locs ls a1 a2 a3 a4 => va_runSN (As := As) (rest := st) ⟨C.1, C.2.1, C.2.2.1, C.2.2.2.1, C.2.2.2.2.1⟩ hM ⟨va_cnB n C.2.2.2.2.1 hG rfl hrc hrs (C.2.2.2.2.2.2.2.2.2.2.1 _ h1) (C.2.2.2.2.1 _ h3) hy hR, C.2.2.2.2.1 _ h2, trivial⟩ ⟨zIn.blind, fun U hU hW => ⟨rfl, zIn_of C a1 a2 a3 hU hW⟩⟩ rfl hn a4.1 hst (lv_room hw) hd hf) kk
theorem zin_lt {i : Int32} {n : Nat} (h : vp_in i n) : i.toNatClampNeg < n := by
  unfold vp_in at h
  omega

end ZR
