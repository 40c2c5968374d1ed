/-! ===== new cells ===== -/
/-- from so many on all is 0 -/
def zZ (I : zI) (n : Nat) : Prop := ∀ a, n ≤ a → (∀ j, I.1 a j = 0) ∧ ∀ j, I.2 a j = 0
theorem zZ.up {I : zI} {n k : Nat} (h : zZ I n) (hk : n ≤ k) : zZ I k := fun a ha => h a (Nat.le_trans hk ha)
section ZA
variable {p : Program} {l : Launch} {e : Env} {R : Room} {s : State} {m : MethodId} {args : Array Value} {below : List Frame} {meth : Method} {c : Code} {Q : State → Prop} {D : va_G} {B : Nat} {cA : Nat → ClassId} {ad : Nat → Nat} {cc : ByteArray} {nL : Nat} {own : String} {ret : Option FieldType} {cells slots : Nat} {S : List zC} {I : zI} {lv : List (Nat × Value)} {st : List Value} {pc : Nat}
theorem zr_S {S2 : List zC} (h : S = S2) (kk : zX p l e R s m args below meth c Q D B cA nL cells slots S2 I lv st pc) : zX p l e R s m args below meth c Q D B cA nL cells slots S I lv st pc := h ▸ kk
theorem za_new (C : zCx p s m args meth c cc nL own ret D B cA ad) {index ci N : Nat} {Cn : String} {T : u_T} {fs : List (Option (Option Nat))} (hc : classes[ci]? = some (Cn, T, N)) (hin : ∀ w ∈ u_ws Cn T N, w ∈ zTb) (ty0 : Nat → FieldType) (hty : ∀ k, k < N → parseFieldDescriptor (T k).2.2.1 = some (ty0 k)) (w1 : Cond.classLink own index Cn ∈ zTb) (w2 : Cond.instantiable Cn N ∈ zTb) (w3 : Cond.initialized Cn ∈ zTb) (hfs : ∀ j, j < N → defaultValue (ty0 j) = vp_V (zF B (fun _ => 0) 0 fs) j) (hz : zZ I S.length) (hcells : cells + 1 ≤ R.cells) (hslots : slots + N ≤ R.slots) (hd : decode cc pc = .ok (.new index, 3)) (kk : zX p l e R s m args below meth c Q D B cA nL (cells + 1) (slots + N) (S ++ [.inl (ci, fs)]) I lv (.ref (B + S.length) :: st) (pc + 3)) : zX p l e R s m args below meth c Q D B cA nL cells slots S I lv st pc :=
  fun H locs ls a1 a2 a3 a4 => by
    have hK := C.2.2.2.2.2.2.2.1
    have hKn := hK.1 ci _ hc
    have hW := C.2.2.2.2.1
    have hI : I.1 S.length = fun _ => 0 := funext (hz S.length (Nat.le_refl _)).1
    refine W.newcK C.1 C.2.1 C.2.2.2.1 (hW _ w1) (hW _ w2) (hW _ w3) rfl hd hcells hslots hKn.2.1 a2 fun H1 kC hkC e1 z1 o1 => ?_
    have hk : ∀ (k : Nat) (x : Nat × va_E), (zW B cA S I)[k]? = some x → H1[x.1]? = H[x.1]? := fun k x hx => o1 x.1 (by
      have := (a1 k x hx).lt
      omega)
    have hP2 : va_P D classes (zW B cA S I ++ [(B + S.length, .inr (ci, zF B (I.1 S.length) 0 fs))]) H1 := (a1.kept hk).app (fun k x hx => by
      have hz' : k < 1 := (List.getElem?_eq_some_iff.mp hx).1
      rw [show k = 0 by omega] at hx
      cases hx
      exact ⟨_, hc, (u_born ty0 hW hin hKn hkC e1 hty).to (by rw [hI]; exact hfs)⟩)
    have e : zW B cA S I ++ [(B + S.length, .inr (ci, zF B (I.1 S.length) 0 fs))] = zW B cA (S ++ [.inl (ci, fs)]) I := zW_push (x := .inl (ci, fs)) (I2 := I) (fun _ _ => ⟨rfl, rfl⟩) rfl
    rw [e] at hP2
    exact kk H1 locs ls hP2 (by rw [z1, List.length_append]; rfl) ⟨Nat.le_trans a3.1 (by omega), fun x h1 h2 => (o1 x (by have := a3.1; omega)).trans (a3.2.1 x h1 h2), a3.2.2⟩ a4
theorem za_newa (C : zCx p s m args meth c cc nL own ret D B cA ad) {n : Int32} {N : Nat} (w1 : Cond.arrayClass .int ∈ zTb) (hn : ¬ n < 0) (hN : n.toNatClampNeg = N) (hby : N * 4 ≤ 536870912) (hz : zZ I S.length) (hcells : cells + 1 ≤ R.cells) (hslots : slots + N ≤ R.slots) (hd : decode cc pc = .ok (.newarray .int, 2)) (kk : zX p l e R s m args below meth c Q D B cA nL (cells + 1) (slots + N) (S ++ [.inr (.inl (0, N))]) I lv (.ref (B + S.length) :: st) (pc + 2)) : zX p l e R s m args below meth c Q D B cA nL cells slots S I lv (.int n :: st) pc :=
  fun H locs ls a1 a2 a3 a4 => by
    have hK := C.2.2.2.2.2.2.2.1
    have hW := C.2.2.2.2.1
    have hI : I.1 S.length = fun _ => 0 := funext (hz S.length (Nat.le_refl _)).1
    refine va_newaK (atype := .int) C.1 C.2.1 (hW _ w1) rfl hd rfl hn hN hby hcells hslots a2 fun H1 cA' e1 z1 o1 hAr hNm => ?_
    have hcA : cA' = cA 0 := Option.some.inj (hNm.symm.trans (hK.2 0 _ rfl).2)
    subst hcA
    have hk : ∀ (k : Nat) (x : Nat × va_E), (zW B cA S I)[k]? = some x → H1[x.1]? = H[x.1]? := fun k x hx => o1 x.1 (by
      have := (a1 k x hx).lt
      omega)
    have hP2 : va_P D classes (zW B cA S I ++ [(B + S.length, .inl (cA 0, N, .inl (I.1 S.length)))]) H1 := (a1.kept hk).app (fun k x hx => by
      have hz' : k < 1 := (List.getElem?_eq_some_iff.mp hx).1
      rw [show k = 0 by omega] at hx
      cases hx
      show H1[B + S.length]? = some (vp_cell _ _)
      rw [e1, vp_cell_i, hI]
      rfl)
    have e : zW B cA S I ++ [(B + S.length, .inl (cA 0, N, .inl (I.1 S.length)))] = zW B cA (S ++ [.inr (.inl (0, N))]) I := zW_push (x := .inr (.inl (0, N))) (I2 := I) (fun _ _ => ⟨rfl, rfl⟩) rfl
    rw [e] at hP2
    exact kk H1 locs ls hP2 (by rw [z1, List.length_append]; rfl) ⟨Nat.le_trans a3.1 (by omega), fun x h1 h2 => (o1 x (by have := a3.1; omega)).trans (a3.2.1 x h1 h2), a3.2.2⟩ a4
theorem za_newl (C : zCx p s m args meth c cc nL own ret D B cA ad) {n : Int32} {N : Nat} (w1 : Cond.arrayClass .long ∈ zTb) (hn : ¬ n < 0) (hN : n.toNatClampNeg = N) (hby : N * 8 ≤ 536870912) (hz : zZ I S.length) (hcells : cells + 1 ≤ R.cells) (hslots : slots + N ≤ R.slots) (hd : decode cc pc = .ok (.newarray .long, 2)) (kk : zX p l e R s m args below meth c Q D B cA nL (cells + 1) (slots + N) (S ++ [.inr (.inl (1, N))]) I lv (.ref (B + S.length) :: st) (pc + 2)) : zX p l e R s m args below meth c Q D B cA nL cells slots S I lv (.int n :: st) pc :=
  fun H locs ls a1 a2 a3 a4 => by
    have hK := C.2.2.2.2.2.2.2.1
    have hW := C.2.2.2.2.1
    have hI : I.2 S.length = fun _ => 0 := funext (hz S.length (Nat.le_refl _)).2
    refine va_newaK (atype := .long) C.1 C.2.1 (hW _ w1) rfl hd rfl hn hN hby hcells hslots a2 fun H1 cA' e1 z1 o1 hAr hNm => ?_
    have hcA : cA' = cA 1 := Option.some.inj (hNm.symm.trans (hK.2 1 _ rfl).2)
    subst hcA
    have hk : ∀ (k : Nat) (x : Nat × va_E), (zW B cA S I)[k]? = some x → H1[x.1]? = H[x.1]? := fun k x hx => o1 x.1 (by
      have := (a1 k x hx).lt
      omega)
    have hP2 : va_P D classes (zW B cA S I ++ [(B + S.length, .inl (cA 1, N, .inr (.inl (I.2 S.length))))]) H1 := (a1.kept hk).app (fun k x hx => by
      have hz' : k < 1 := (List.getElem?_eq_some_iff.mp hx).1
      rw [show k = 0 by omega] at hx
      cases hx
      show H1[B + S.length]? = some (vp_cell _ _)
      rw [e1, vp_cell_l, hI]
      rfl)
    have e : zW B cA S I ++ [(B + S.length, .inl (cA 1, N, .inr (.inl (I.2 S.length))))] = zW B cA (S ++ [.inr (.inl (1, N))]) I := zW_push (x := .inr (.inl (1, N))) (I2 := I) (fun _ _ => ⟨rfl, rfl⟩) rfl
    rw [e] at hP2
    exact kk H1 locs ls hP2 (by rw [z1, List.length_append]; rfl) ⟨Nat.le_trans a3.1 (by omega), fun x h1 h2 => (o1 x (by have := a3.1; omega)).trans (a3.2.1 x h1 h2), a3.2.2⟩ a4
theorem za_anew (C : zCx p s m args meth c cc nL own ret D B cA ad) {n : Int32} {N index : Nat} (w1 : Cond.classLink own index "RegrowDesk$Moment" ∈ zTb) (hn : ¬ n < 0) (hN : n.toNatClampNeg = N) (hby : N * 4 ≤ 536870912) (hcells : cells + 1 ≤ R.cells) (hslots : slots + N ≤ R.slots) (hd : decode cc pc = .ok (.anewarray index, 3)) (kk : zX p l e R s m args below meth c Q D B cA nL (cells + 1) (slots + N) (S ++ [.inr (.inr (2, List.replicate N none))]) I lv (.ref (B + S.length) :: st) (pc + 3)) : zX p l e R s m args below meth c Q D B cA nL cells slots S I lv (.int n :: st) pc :=
  fun H locs ls a1 a2 a3 a4 => by
    subst hN
    have hK := C.2.2.2.2.2.2.2.1
    have hW := C.2.2.2.2.1
    refine W.anew C.1 C.2.1 C.2.2.2.1 (hW _ w1) (va_AO.use C.2.2.2.2.2.2.2.2.2.2.2) rfl hd rfl hn hby hcells hslots fun cA' kA comp f1 f2 f3 f4 => ?_
    obtain ⟨kB, cB, g1, g2, g3, g4⟩ := (hK.2 2 _ rfl).2
    have hcA : cA' = cA 2 := Option.some.inj (f1.symm.trans g4)
    subst hcA
    generalize hH1 : H.push ({ cls := cA 2, slots := Array.replicate n.toNatClampNeg .null, vm := .none } : Cell) = H1
    have z1 : H1.size = H.size + 1 := by rw [← hH1, Array.size_push]
    have e1 : H1[H.size]? = some (arrV (cA 2) n.toNatClampNeg (fun _ => .null)) := by rw [← hH1, Array.getElem?_push_size, ← arrV_new]
    have o1 : ∀ q : Nat, q < H.size → H1[q]? = H[q]? := fun q hq => by rw [← hH1, Array.getElem?_push, if_neg (Nat.ne_of_lt hq)]
    have hk : ∀ (k : Nat) (x : Nat × va_E), (zW B cA S I)[k]? = some x → H1[x.1]? = H[x.1]? := fun k x hx => o1 x.1 ((a1 k x hx).lt)
    have hP2 : va_P D classes (zW B cA S I ++ [(B + S.length, .inl (cA 2, (List.replicate n.toNatClampNeg (none : Option Nat)).length, .inr (.inr (.inr (.inr (fun j => ((List.replicate n.toNatClampNeg (none : Option Nat)).getD j none).map (fun r => B + r)))))))]) H1 := (a1.kept hk).app (fun k x hx => by
      have hz' : k < 1 := (List.getElem?_eq_some_iff.mp hx).1
      rw [show k = 0 by omega] at hx
      cases hx
      show H1[B + S.length]? = some (vp_cell _ _)
      rw [← a2, e1, vp_cell_q, List.length_replicate]
      congr 2
      funext j
      have : (List.replicate n.toNatClampNeg (none : Option Nat)).getD j none = none := by
        rw [List.getD_eq_getElem?_getD, List.getElem?_replicate]
        split <;> rfl
      rw [this]
      rfl)
    have eE : zW B cA S I ++ [(B + S.length, .inl (cA 2, (List.replicate n.toNatClampNeg (none : Option Nat)).length, .inr (.inr (.inr (.inr (fun j => ((List.replicate n.toNatClampNeg (none : Option Nat)).getD j none).map (fun r => B + r)))))))] = zW B cA (S ++ [.inr (.inr (2, List.replicate n.toNatClampNeg none))]) I := zW_push (x := .inr (.inr (2, List.replicate n.toNatClampNeg none))) (I2 := I) (fun _ _ => ⟨rfl, rfl⟩) rfl
    rw [eE] at hP2
    have hh : (Value.ref H.size) = .ref (B + S.length) := by rw [a2]
    show W p l e R s m args below meth c H1 locs (cells + 1) (slots + n.toNatClampNeg) Q (F0 m (pc + 3) ls (.ref H.size :: st))
    rw [hh]
    exact kk H1 locs ls hP2 (by rw [z1, a2, List.length_append]; rfl) ⟨Nat.le_trans a3.1 (by omega), fun x h1 h2 => (o1 x (by have := a3.1; omega)).trans (a3.2.1 x h1 h2), a3.2.2⟩ a4
theorem za_aast (C : zCx p s m args meth c cc nL own ret D B cA ad) {k v : Nat} {xs : List (Option Nat)} {vs : List (Option (Option Nat))} {i : Int32} (hk : S[k]? = some (.inr (.inr (2, xs)))) (hv : S[v]? = some (.inl (2, vs))) (hin : vp_in i xs.length) (hd : decode cc pc = .ok (.aastore, 1)) (kk : zX p l e R s m args below meth c Q D B cA nL cells slots (S.set k (.inr (.inr (2, xs.set i.toNatClampNeg (some v))))) I lv st (pc + 1)) : zX p l e R s m args below meth c Q D B cA nL cells slots S I lv (.ref (B + v) :: .int i :: .ref (B + k) :: st) pc :=
  fun H locs ls a1 a2 a3 a4 => by
    have hg := zW_get (B := B) (cA := cA) (I := I) hk
    have hgv := zW_get (B := B) (cA := cA) (I := I) hv
    have hK := C.2.2.2.2.2.2.2.1
    have hlt : i.toNatClampNeg < xs.length := zin_lt hin
    have h0 : ¬ i < 0 := fun q => hin (Or.inl q)
    obtain ⟨r', hr', cellV, g1, g2, g3, -⟩ := a1 v _ hgv
    have hcls := (hK.1 2 (RX2, TX2, 9) rfl).2
    obtain ⟨kA, comp, k1, k2, k3, -⟩ := (hK.2 2 _ rfl).2
    have hcomp : comp = D.1 2 := Option.some.inj (k3.symm.trans hcls.1)
    subst hcomp
    obtain ⟨kC, hkC, -⟩ := hcls.2
    refine W.aast C.1 C.2.1 (a1 k _ hg) (fun q h => by cases h) (fun h => by cases h) k1 k2 rfl hkC ⟨h0, by show _ < (arrV _ _ _).slots.size; rw [arrV_size]; exact hlt⟩ g1 (fun q h => by rw [g3] at h; cases h) (by rw [g2]; exact hkC) (by rw [g2]; exact va_assign hcls) rfl rfl hd fun H1 e z oq => ?_
    have hP2 := va_P.set a1 (zD B cA S I) hg (e := .inl (cA 2, xs.length, .inr (.inr (.inr (.inr (fun j => ((xs.set i.toNatClampNeg (some v)).getD j none).map (fun r => B + r))))))) (by
      show H1[B + k]? = some (vp_cell _ _)
      rw [e]
      show some ((vp_cell _ _).setSlot _ _) = _
      rw [vp_cell_q, vp_cell_q, arrV_store]
      congr 2
      funext q
      by_cases hq : q = i.toNatClampNeg
      · subst hq
        simp [updV, va_rf, List.getD_eq_getElem?_getD, hlt]
      · have hq' : ¬ i.toNatClampNeg = q := fun z => hq z.symm
        simp [updV, hq, List.getD_eq_getElem?_getD, List.getElem?_set, hq']) oq
    have e2 : (zW B cA S I).set k (B + k, .inl (cA 2, xs.length, .inr (.inr (.inr (.inr (fun j => ((xs.set i.toNatClampNeg (some v)).getD j none).map (fun r => B + r))))))) = zW B cA (S.set k (.inr (.inr (2, xs.set i.toNatClampNeg (some v))))) I := zW_setS hk (by
      show Sum.inl (cA 2, (xs.set i.toNatClampNeg (some v)).length, _) = _
      rw [List.length_set])
    rw [e2] at hP2
    exact kk H1 _ ls hP2 (by rw [z, a2, List.length_set]) (a3.put z oq ((zD B cA S I).2 k _ hg)) a4
theorem za_obj (C : zCx p s m args meth c cc nL own ret D B cA ad) {index k : Nat} (w1 : Cond.methodLink own index objectInit ∈ zTb) (hR : 1 ≤ R.frames ∧ (st.map fun v => v.category).sum + 12 ≤ R.locals) (hd : decode cc pc = .ok (.invokespecial index, 3)) (kk : zX p l e R s m args below meth c Q D B cA nL cells slots S I lv st (pc + 3)) : zX p l e R s m args below meth c Q D B cA nL cells slots S I lv (.ref (B + k) :: st) pc :=
  fun H locs ls a1 a2 a3 a4 => W.objInit C.1 C.2.1 C.2.2.2.1 (C.2.2.2.2.1 _ w1) (C.2.2.2.2.1 _ zk_im_obj) (C.2.2.2.2.1 _ zk_cd_obj) rfl (by rw [C.2.2.1]; exact a4.1) rfl hd hR.1 (by have := hR.2; show 2 * 0 + _ + 12 ≤ _; omega) (kk H locs ls a1 a2 a3 a4)
def zqC (S : List zC) (I : zI) : Option Value → List zC → zI → Prop := fun r S2 I2 => r = none ∧ S2 = S ∧ I2 = I
theorem za_callI (C : zCx p s m args meth c cc nL own ret D B cA ad) {index maxL n mc ms k : Nat} {y : MethodName} {bytes : ByteArray} {rm : Room} {As st0 : List Value} {S2 : List zC}
    (hM : Met l y (zws y bytes maxL none) rm (zPc D B cA ad (.ref (B + k) :: As) S I) (zQc D B cA (zqC S2 I)) mc ms (fun x => B ≤ x)) (hG : GoodIn zTb (zws y bytes maxL none)) (h1 : Cond.methodLink own index y ∈ zTb) (h2 : Cond.instanceMethod y ∈ zTb) (h3 : Cond.initialized y.cls ∈ zTb) (hy1 : y.name = "<init>") (hrc : rm.cells = mc) (hrs : rm.slots = ms)
    (hy : y.cls ≠ "java/lang/invoke/MethodHandle" ∧ y.cls ≠ "java/lang/invoke/VarHandle" ∧ (parseMethodDescriptor y.desc).map (fun d => d.parameters.length) = some n) (hR : rm.frames + 1 ≤ R.frames ∧ 8 + (maxL + 11) + rm.locals ≤ R.locals)
    (hn : As.length = n) (hst : st0 = As.reverse ++ .ref (B + k) :: st) (hw : (st.map fun v => v.category).sum ≤ 8) (hd : decode cc pc = .ok (.invokespecial index, 3)) (hf : cells + mc ≤ R.cells ∧ slots + ms ≤ R.slots)
    (kk : zX p l e R s m args below meth c Q D B cA nL (cells + mc) (slots + ms) S2 I lv st (pc + 3)) : zX p l e R s m args below meth c Q D B cA nL cells slots S I lv st0 pc :=
  zr_go C (a := (Value.ref (B + k) :: As).toArray) (fun H locs ls a1 a2 a3 a4 => va_runI (As := As) (rest := st) ⟨C.1, C.2.1, C.2.2.1, C.2.2.2.1, C.2.2.2.2.1⟩ hM (cwI n C.2.2.2.2.1 hG rfl hrc hrs (C.2.2.2.2.1 _ h3) (C.2.2.2.2.1 _ h1) (C.2.2.2.2.1 _ h2) hy1 hy hR) ⟨zIn.blind, fun U hU hW => ⟨rfl, zIn_of C a1 a2 a3 hU hW⟩⟩ rfl hn a4.1 hst (lv_room hw) hd hf) (fun r S' I' hq => by
    obtain ⟨rfl, rfl, rfl⟩ := hq
    exact kk)
theorem za_callIN (C : zCx p s m args meth c cc nL own ret D B cA ad) {index maxL n mc ms k : Nat} {host : String} {y : MethodName} {bytes : ByteArray} {rm : Room} {As st0 : List Value} {S2 : List zC}
    (hM : Met l y (zws y bytes maxL none) rm (zPc D B cA ad (.ref (B + k) :: As) S I) (zQc D B cA (zqC S2 I)) mc ms (fun x => B ≤ x)) (hG : GoodIn zTb (zws y bytes maxL none)) (h1 : (own, index, y, host) ∈ zNsT) (h2 : Cond.instanceMethod y ∈ zTb) (h3 : Cond.initialized y.cls ∈ zTb) (hy1 : y.name = "<init>") (hrc : rm.cells = mc) (hrs : rm.slots = ms)
    (hy : y.cls ≠ "java/lang/invoke/MethodHandle" ∧ y.cls ≠ "java/lang/invoke/VarHandle" ∧ (parseMethodDescriptor y.desc).map (fun d => d.parameters.length) = some n) (hR : rm.frames + 1 ≤ R.frames ∧ 8 + (maxL + 11) + rm.locals ≤ R.locals)
    (hn : As.length = n) (hst : st0 = As.reverse ++ .ref (B + k) :: st) (hw : (st.map fun v => v.category).sum ≤ 8) (hd : decode cc pc = .ok (.invokespecial index, 3)) (hf : cells + mc ≤ R.cells ∧ slots + ms ≤ R.slots)
    (kk : zX p l e R s m args below meth c Q D B cA nL (cells + mc) (slots + ms) S2 I lv st (pc + 3)) : zX p l e R s m args below meth c Q D B cA nL cells slots S I lv st0 pc :=
  zr_go C (a := (Value.ref (B + k) :: As).toArray) (fun H locs ls a1 a2 a3 a4 => va_runIN (As := As) (rest := st) ⟨C.1, C.2.1, C.2.2.1, C.2.2.2.1, C.2.2.2.2.1⟩ hM ⟨va_cnB n C.2.2.2.2.1 hG rfl hrc hrs (C.2.2.2.2.2.2.2.2.2.2.1 _ h1) (C.2.2.2.2.1 _ h3) hy hR, hy1, C.2.2.2.2.1 _ h2⟩ ⟨zIn.blind, fun U hU hW => ⟨rfl, zIn_of C a1 a2 a3 hU hW⟩⟩ rfl hn a4.1 hst (lv_room hw) hd hf) (fun r S' I' hq => by
    obtain ⟨rfl, rfl, rfl⟩ := hq
    exact kk)
end ZA
theorem zl_get {T M X : List zC} {o : zC} : ((T ++ (o :: M)) ++ X)[T.length]? = some o := by
  rw [List.append_assoc, List.getElem?_append_right (Nat.le_refl _)]
  simp
theorem zl_get1 {T M : List zC} {o : zC} : (T ++ (o :: M))[T.length]? = some o := by
  rw [List.getElem?_append_right (Nat.le_refl _)]
  simp
theorem zl_set {T M X : List zC} {o o2 : zC} : ((T ++ (o :: M)) ++ X).set T.length o2 = T ++ (o2 :: (M ++ X)) := by
  rw [List.append_assoc, List.set_append_right _ _ (Nat.le_refl _)]
  simp
theorem zl_set1 {T M : List zC} {o o2 : zC} : (T ++ (o :: M)).set T.length o2 = T ++ (o2 :: M) := by
  rw [List.set_append_right _ _ (Nat.le_refl _)]
  simp
