-- ===== end of PART A; then your names; then what follows =====
/-! THE CLAIM OUT OF ONE WALK OF THE LAW'S BODY. Your part is whole_start (and what it stands on); all else here is the same for every law, but numbers. -/
def R_law : String := "RegrowDeskLaw"
def lw_P (b : Addr) (xs : List Int32) (args : Array Value) (s : State) : Prop := args = #[.ref b] ∧ s.IntsAt b xs ∧ xs.length ≤ 260 ∧ (Jvm.Cond.and given_1 narrow_1).before args s = true
def lw_Q (_ : Array Value) (s : State) (o : Outcome) (t : State) : Prop := o = .returned (some (.int 1)) ∧ Framed s o t [] 600000 7302250
def lw_Z (below : List Frame) (a : Array Value) (s : State) : State → Prop := fun t => ∃ o, t.status = .running ∧ Ended t below o ∧ lw_Q a s o t
/-- the law's own end, with 1 on the stack, nothing written that was there before, its room as the claim has it -/
theorem lw_ret {p : Program} {l : Launch} {e : Env} {s : State} {m : MethodId} {below : List Frame} {meth : Method} {c : Code} {b : Nat} (hx : p.tables.exec = Jvm.exec) (hb : c.code = code) (hr : meth.sig.returnType = ret) (hlocks : meth.locks = false) {pc : Nat} {H : Heap} {ls : Array Slot} (hdg : decode code pc = .ok (.ireturn, 1)) : W p l e room_1 s m #[Value.ref b] below meth c H [] 600000 7302250 (lw_Z below #[Value.ref b] s) (F0 m pc ls [.int 1]) := by
  intro T hT X
  obtain ⟨fs, hret, hrun, hended, hW, hframe⟩ := X.leave (v := some (.int 1)) (hlocks := hlocks) (fun h => by rw [hr] at h; cases h)
  have hmeth' : T.vm.method? m = some meth := X.method'
  refine ⟨T.setFrames fs, ?_, .returned (some (.int 1)), hrun, hended, rfl, ⟨_, rfl⟩, hW, hframe⟩
  jvm_step X.here [X.here.top, hx, hb, hdg, hmeth', hr, ret, narrow_b1]
  (try refine ⟨rfl, ?_⟩); (try refine ⟨rfl, ?_⟩)
  first | (intro acts; rw [hret _ acts rfl rfl rfl]) | rw [hret _ _ rfl rfl rfl]
  exact Steps.refl _
/-- what holds at the law's entry: the machine, the code, the tables' words (any of lw_tbl by 'hts w (by decide +kernel)'), the script of L ints xs at the cell b, what the Statement gives of the start (any of its parts by flat_of_before) -/
def lw_At (p : Program) (s : State) (m : MethodId) (meth : Method) (c : Code) (b L : Nat) (xs : Nat → Int32) : Prop :=
  p.tables.exec = Jvm.exec ∧ c.code = code ∧ meth.sig.returnType = ret ∧ c.maxLocals = 25 ∧ s.vm.findClass R_law = some m.cls ∧ (∀ w ∈ lw_tbl, w.before #[Value.ref b] s = true) ∧ va_X b L xs s s.heap ∧ b < s.heap.size ∧ meth.locks = false ∧ (Jvm.Cond.and given_1 narrow_1).before #[Value.ref b] s = true
section ZL45
variable {p : Program} {l : Launch} {e : Env} {R : Room} {s : State} {m : MethodId} {args : Array Value} {below : List Frame} {meth : Method} {c : Code} {Q : State → Prop} {D : va_G} {cA : Nat → ClassId} {ad : Nat → Nat} {cc : ByteArray} {nL : Nat} {own : String} {ret : Option FieldType} {cells slots : Nat} {S : List zC} {I : zI} {lv : List (Nat × Value)} {st : List Value} {pc : Nat}
theorem zr_slen {B b L : Nat} {xs : Nat → Int32} (C : zCx p s m args meth c cc nL own ret D B cA ad) (hX : va_X b L xs s s.heap) (hbl : b < s.heap.size) (hbA : ¬ B ≤ b) (hd : decode cc pc = .ok (.arraylength, 1)) (kk : zX p l e R s m args below meth c Q D B cA nL cells slots S I lv (.int (Int32.ofNat L) :: st) (pc + 1)) : zX p l e R s m args below meth c Q D B cA nL cells slots S I lv (.ref b :: st) pc :=
  fun H locs ls a1 a2 a3 a4 => va_slen C.1 C.2.1 hX hbl hbA a3.1 hd (kk H locs ls a1 a2 a3 a4)
theorem zr_sld {B b L : Nat} {xs : Nat → Int32} {i : Int32} (C : zCx p s m args meth c cc nL own ret D B cA ad) (hX : va_X b L xs s s.heap) (hbl : b < s.heap.size) (hbA : ¬ B ≤ b) (hin : vp_in i L) (hd : decode cc pc = .ok (.iaload, 1)) (kk : zX p l e R s m args below meth c Q D B cA nL cells slots S I lv (.int (xs i.toNatClampNeg) :: st) (pc + 1)) : zX p l e R s m args below meth c Q D B cA nL cells slots S I lv (.int i :: .ref b :: st) pc :=
  fun H locs ls a1 a2 a3 a4 => va_sld C.1 C.2.1 hX hbl hbA a3.1 hin hd (kk H locs ls a1 a2 a3 a4)
theorem zr_fin {S0 : List zC} {c0 u0 : Nat} (g : zGo S0 600000 7302250 S c0 u0) : c0 ≤ 600000 ∧ u0 ≤ 7302250 := g.2.2
theorem zr_lend44 {b B : Nat} {v : Int32} (C : zCx p s m #[Value.ref b] meth c code nL own _root_.Jvm.Pilot.@@N@@.ret D B cA ad) (hB : B = s.heap.size + 1) (hg : cells ≤ 600000 ∧ slots ≤ 7302250) (hv : v = 1) (hd : decode code pc = .ok (.ireturn, 1)) : zX p l e room_1 s m #[Value.ref b] below meth c (lw_Z below #[Value.ref b] s) D B cA nL cells slots S I lv [.int v] pc := by
  subst hv
  exact fun H locs ls a1 a2 a3 a4 => va_forget (fun q hq => by have h0 : B ≤ q.base := a3.1.2.2 q hq; omega) (W.widen (k := 600000) (n := 7302250) hg.1 hg.2 (lw_ret C.1 C.2.1 C.2.2.2.2.2.1 C.2.2.2.2.2.2.1 hd))
theorem zl_callD {B index maxL n mc ms k : Nat} {y : MethodName} {bytes : ByteArray} {rm : Room} {st0 : List Value} {S2 : List zC} {K : zI → Prop} (C : zCx p s m args meth c cc nL own ret D B cA ad)
    (hM : Met l y (zws y bytes maxL none) rm (zPc D B cA ad [.ref (B + k)] S I) (zQc D B cA (zqV S2 K)) mc ms (fun x => B ≤ x)) (hG : GoodIn zTb (zws y bytes maxL none)) (h1 : Cond.methodLink own index y ∈ zTb) (h2 : Cond.instanceMethod y ∈ zTb) (h3 : Cond.initialized y.cls ∈ zTb) (hy1 : y.name = "<init>") (hrc : rm.cells = mc) (hrs : rm.slots = ms)
    (hy : y.cls ≠ "java/lang/invoke/MethodHandle" ∧ y.cls ≠ "java/lang/invoke/VarHandle" ∧ (parseMethodDescriptor y.desc).map (fun d => d.parameters.length) = some n) (hR : rm.frames + 1 ≤ R.frames ∧ 8 + (maxL + 11) + rm.locals ≤ R.locals)
    (hn : ([] : List Value).length = n) (hst : st0 = .ref (B + k) :: st) (hw : (st.map fun v => v.category).sum ≤ 8) (hd : decode cc pc = .ok (.invokespecial index, 3)) (hf : cells + mc ≤ R.cells ∧ slots + ms ≤ R.slots)
    (kk : ∀ I2, K I2 → zX p l e R s m args below meth c Q D B cA nL (cells + mc) (slots + ms) S2 I2 lv st (pc + 3)) : zX p l e R s m args below meth c Q D B cA nL cells slots S I lv st0 pc :=
  zr_go C (a := ([Value.ref (B + k)] : List Value).toArray) (fun H locs ls a1 a2 a3 a4 => va_runI (As := []) (rest := st) ⟨C.1, C.2.1, C.2.2.1, C.2.2.2.1, C.2.2.2.2.1⟩ hM (cwI n C.2.2.2.2.1 hG rfl hrc hrs (C.2.2.2.2.1 _ h3) (C.2.2.2.2.1 _ h1) (C.2.2.2.2.1 _ h2) hy1 hy hR) ⟨zIn.blind, fun U hU hW => ⟨rfl, zIn_of C a1 a2 a3 hU hW⟩⟩ rfl hn a4.1 hst (lv_room hw) hd hf) (fun r S' I' hq => by
    obtain ⟨rfl, rfl, hK⟩ := hq
    exact kk _ hK)
theorem zz_Z {C n d : String} {v : Value} {a0 B : Nat} {U : State} {H : Heap} (h : va_Z C n d v (fun a => a0 ≤ a) U H) (hB : a0 ≤ B) : va_Z C n d v (fun a => B ≤ a) U H := by
  obtain ⟨cf, kf, fi, f, a, cell, h1, h2, h3, h4, h5, h6, h7, h8⟩ := h
  exact ⟨cf, kf, fi, f, a, cell, h1, h2, h3, h4, h5, h6, h7, fun q => h8 (Nat.le_trans hB q)⟩
theorem zz_T {ty : FieldType} {t N : Nat} {f : Nat → Value} {a0 B : Nat} {U : State} {H : Heap} (h : va_T ty t N f (fun a => a0 ≤ a) U H) (hB : a0 ≤ B) : va_T ty t N f (fun a => B ≤ a) U H := by
  obtain ⟨cell, h1, h2, h3, h4, h5, h6, h7⟩ := h
  exact ⟨cell, h1, h2, h3, h4, h5, h6, fun q => h7 (Nat.le_trans hB q)⟩
/-- behind the law's own first array the desk's world begins -/
theorem zr_over {b : Nat} (Qx : State → Prop) (kk : zX p l e R s m #[Value.ref b] below meth c Qx D (s.heap.size + 1) cA nL cells slots [] (fun _ _ => 0, fun _ _ => 0) [(1, .ref s.heap.size), (0, .ref b)] [] 31) : zX p l e R s m #[Value.ref b] below meth c Qx D s.heap.size cA nL cells slots [.inr (.inl (0, 44))] I [(1, .ref (s.heap.size + 0)), (0, .ref b)] [] 31 :=
  fun H locs ls a1 a2 a3 a4 => va_forget (fun q hq => a3.1.2.2 q hq) (kk H [] ls (fun k q hq => by cases hq) (by rw [a2]; rfl) ⟨⟨a3.1.1, fun q h1 h2 => a3.1.2.1 q h1 (by show ¬ s.heap.size ≤ q; omega), fun q hq => by cases hq⟩, fun _ => ⟨I.1 0, by have h0 := a1 0 _ (zW_get (B := s.heap.size) (cA := cA) (S := [.inr (.inl (0, 44))]) (I := I) (k := 0) rfl); exact h0⟩⟩ a4)
end ZL45
