/-! ===== rows of the law's own methods: cells are made, S grows ===== -/
abbrev zAt (S : List zC) (k n : Nat) : Prop := S[k]? = some (.inr (.inl (0, n)))
abbrev zA2 (S : List zC) (k n : Nat) : Prop := S[k]? = some (.inr (.inl (1, n)))
def zrA (f n mc ms : Nat) : Room := { frames := f, cells := mc, slots := ms, locals := n }
def zaI (S : List zC) (K : Int32 → List zC → zI → Prop) : Option Value → List zC → zI → Prop := fun r S2 I2 => (∃ T, S2 = S ++ T) ∧ ∃ v, r = some (.int v) ∧ K v S2 I2
def zaA (B : Nat) (S : List zC) (K : Nat → Nat → List zC → zI → Prop) : Option Value → List zC → zI → Prop := fun r S2 I2 => (∃ T, S2 = S ++ T) ∧ ∃ k n, r = some (.ref (B + k)) ∧ K k n S2 I2
/-- the desk's cells stand there, S has grown out of S0, so much has been made -/
def zGo (S0 : List zC) (MC MS : Nat) (S : List zC) (c u : Nat) : Prop := zOkX S ∧ (∃ T, S = S0 ++ T) ∧ c ≤ MC ∧ u ≤ MS
theorem zOkX.app {S T : List zC} (h : zOkX S) : zOkX (S ++ T) := fun k x q => by
  have h1 := h k x q
  rw [List.getElem?_append_left (List.getElem?_eq_some_iff.mp h1).1]
  exact h1
theorem zGo.start {S : List zC} {MC MS : Nat} (h : zOkX S) : zGo S MC MS S 0 0 := ⟨h, ⟨[], (List.append_nil S).symm⟩, Nat.zero_le _, Nat.zero_le _⟩
theorem zGo.new {S0 S S2 : List zC} {MC MS c u n : Nat} {x : zC} (g : zGo S0 MC MS S c u) (e : S2 = S ++ [x]) (h1 : c + 1 ≤ MC) (h2 : u + n ≤ MS) : zGo S0 MC MS S2 (c + 1) (u + n) := by
  obtain ⟨a, ⟨T, hT⟩, -, -⟩ := g
  subst e
  exact ⟨a.app, ⟨T ++ [x], by rw [hT, List.append_assoc]⟩, h1, h2⟩
theorem zGo.call {S0 S S2 : List zC} {MC MS c u mc ms : Nat} (g : zGo S0 MC MS S c u) (e : ∃ T, S2 = S ++ T) (h1 : c + mc ≤ MC) (h2 : u + ms ≤ MS) : zGo S0 MC MS S2 (c + mc) (u + ms) := by
  obtain ⟨a, ⟨T, hT⟩, -, -⟩ := g
  obtain ⟨U, rfl⟩ := e
  exact ⟨a.app, ⟨T ++ U, by rw [hT, List.append_assoc]⟩, h1, h2⟩
theorem zfs_I : (FieldType.array .int).toString = "[I" := by decide +kernel
theorem zNr_of {B k : Nat} (h : k < 1000000) : zNr B (Int32.ofNat (k + 1)) = some (B + k) := by
  have e : (Int32.ofNat (k + 1)).toNatClampNeg = k + 1 := zi_tn (a := k + 1) (by omega)
  have n0 : ¬ Int32.ofNat (k + 1) = 0 := fun q => by
    rw [q] at e
    have e0 : Int32.toNatClampNeg 0 = 0 := by decide
    omega
  unfold zNr
  rw [if_neg n0, e]
  rfl
theorem zas_rf {vm : Vm} (n : Nat) (c : ClassId) : vm.assignableAux (n + 1) c c = true := by
  rw [Vm.assignableAux]
  simp only [beq_self_eq_true, Bool.true_or]
section ZL44
variable {p : Program} {l : Launch} {e : Env} {R : Room} {s : State} {m : MethodId} {args : Array Value} {below : List Frame} {meth : Method} {c : Code} {Q : State → Prop} {D : va_G} {B : Nat} {cA : Nat → ClassId} {ad : Nat → Nat} {cc : ByteArray} {nL : Nat} {own : String} {ret : Option FieldType} {cells slots : Nat} {S : List zC} {I : zI} {lv : List (Nat × Value)} {st : List Value} {pc : Nat}
theorem za_nn (C : zCx p s m args meth c cc nL own ret D B cA ad) {n : Int32} {MC MS : Nat} {S0 : List zC} (g : zGo S0 MC MS S cells slots) (w1 : Cond.arrayClass .int ∈ zTb) (hMC : R.cells = MC) (hMS : R.slots = MS) (hq : zZ I S.length ∧ 0 ≤ n ∧ n.toNatClampNeg ≤ 100000 ∧ cells + 1 ≤ MC ∧ slots + n.toNatClampNeg ≤ MS) (hd : decode cc pc = .ok (.newarray .int, 2))
    (kk : ∀ (S2 : List zC) (k N : Nat), S2 = S ++ [.inr (.inl (0, N))] → k = S.length → N = n.toNatClampNeg → zGo S0 MC MS S2 (cells + 1) (slots + N) → zX p l e R s m args below meth c Q D B cA nL (cells + 1) (slots + N) S2 I lv (.ref (B + k) :: st) (pc + 2)) : zX p l e R s m args below meth c Q D B cA nL cells slots S I lv (.int n :: st) pc :=
  za_newa C w1 (Int32.not_lt.mpr hq.2.1) rfl (by have := hq.2.2.1; omega) hq.1 (hMC ▸ hq.2.2.2.1) (hMS ▸ hq.2.2.2.2) hd (kk _ _ _ rfl rfl rfl (g.new rfl hq.2.2.2.1 hq.2.2.2.2))
theorem za_nr (C : zCx p s m args meth c cc nL own ret D B cA ad) {n : Int32} {index MC MS : Nat} {S0 : List zC} (g : zGo S0 MC MS S cells slots) (w1 : Cond.classLink own index "[I" ∈ zTb) (hMC : R.cells = MC) (hMS : R.slots = MS) (hq : zZ I S.length ∧ 0 ≤ n ∧ n.toNatClampNeg ≤ 100000 ∧ cells + 1 ≤ MC ∧ slots + n.toNatClampNeg ≤ MS) (hd : decode cc pc = .ok (.anewarray index, 3))
    (kk : ∀ (S2 : List zC) (k N : Nat), S2 = S ++ [.inr (.inl (1, N))] → k = S.length → N = n.toNatClampNeg → zGo S0 MC MS S2 (cells + 1) (slots + N) → zX p l e R s m args below meth c Q D B cA nL (cells + 1) (slots + N) S2 I lv (.ref (B + k) :: st) (pc + 3)) : zX p l e R s m args below meth c Q D B cA nL cells slots S I lv (.int n :: st) pc :=
  fun H locs ls a1 a2 a3 a4 => by
    have hK := C.2.2.2.2.2.2.2.1
    have hW := C.2.2.2.2.1
    have hI : I.1 S.length = fun _ => 0 := funext (hq.1 S.length (Nat.le_refl _)).1
    refine W.anewA (t := .int) C.1 C.2.1 C.2.2.2.1 (by rw [zfs_I]; exact hW _ w1) (zOA.use C.2.2.2.2.2.2.2.2.2.2.2.2) rfl hd rfl (Int32.not_lt.mpr hq.2.1) (by have := hq.2.2.1; omega) (hMC ▸ hq.2.2.2.1) (hMS ▸ hq.2.2.2.2) fun cA' kA comp f1 f2 f3 f4 => ?_
    have hcA : cA' = cA 1 := Option.some.inj (f1.symm.trans (hK.2 1 _ rfl).2)
    subst hcA
    generalize hH1 : H.push ({ cls := cA 1, slots := Array.replicate n.toNatClampNeg .null, vm := .none } : Cell) = H1
    have z1 : H1.size = H.size + 1 := by rw [← hH1, Array.size_push]
    have e1 : H1[H.size]? = some (arrV (cA 1) n.toNatClampNeg (fun _ => .null)) := by rw [← hH1, Array.getElem?_push_size, ← arrV_new]
    have o1 : ∀ q : Nat, q < H.size → H1[q]? = H[q]? := fun q hq => by rw [← hH1, Array.getElem?_push, if_neg (Nat.ne_of_lt hq)]
    have hk : ∀ (k : Nat) (x : Nat × va_E), (zW B cA S I)[k]? = some x → H1[x.1]? = H[x.1]? := fun k x hx => o1 x.1 ((a1 k x hx).lt)
    have hN : (fun j : Nat => va_rf (zNr B (I.1 S.length j))) = fun _ => Value.null := funext (fun j => by rw [hI]; rfl)
    have hP2 : va_P D classes (zW B cA S I ++ [(B + S.length, zB B cA (.inr (.inl (1, n.toNatClampNeg))) (I.1 S.length) (I.2 S.length))]) H1 := (a1.kept hk).app (fun k x hx => by
      have hz' : k < 1 := (List.getElem?_eq_some_iff.mp hx).1
      rw [show k = 0 by omega] at hx
      cases hx
      show H1[B + S.length]? = some (arrV (cA 1) n.toNatClampNeg (fun j : Nat => va_rf (zNr B (I.1 S.length j))))
      rw [← a2, e1, hN])
    have eE : zW B cA S I ++ [(B + S.length, zB B cA (.inr (.inl (1, n.toNatClampNeg))) (I.1 S.length) (I.2 S.length))] = zW B cA (S ++ [.inr (.inl (1, n.toNatClampNeg))]) I := zW_push (x := .inr (.inl (1, n.toNatClampNeg))) (I2 := I) (fun _ _ => ⟨rfl, rfl⟩) rfl
    rw [eE] at hP2
    have hh : (Value.ref H.size) = .ref (B + S.length) := by rw [a2]
    show W p l e R s m args below meth c H1 locs (cells + 1) (slots + n.toNatClampNeg) Q (F0 m (pc + 3) ls (.ref H.size :: st))
    rw [hh]
    exact kk _ _ _ rfl rfl rfl (g.new rfl hq.2.2.2.1 hq.2.2.2.2) H1 locs ls hP2 (by rw [z1, a2, List.length_append]; rfl) ⟨⟨Nat.le_trans a3.1.1 (by omega), fun x h1 h2 => (o1 x (by have := a3.1.1; omega)).trans (a3.1.2.1 x h1 h2), a3.1.2.2⟩, fun hB => by rw [o1 _ (by omega)]; exact a3.2 hB⟩ a4
theorem zr_aald1 (C : zCx p s m args meth c cc nL own ret D B cA ad) {k n : Nat} {i : Int32} (hk : zA2 S k n) (hin : vp_in i n) (h0 : ¬ I.1 k i.toNatClampNeg = 0) (hd : decode cc pc = .ok (.aaload, 1)) (kk : ∀ r, r = (I.1 k i.toNatClampNeg).toNatClampNeg - 1 → zX p l e R s m args below meth c Q D B cA nL cells slots S I lv (.ref (B + r) :: st) (pc + 1)) : zX p l e R s m args below meth c Q D B cA nL cells slots S I lv (.int i :: .ref (B + k) :: st) pc :=
  fun H locs ls a1 a2 a3 a4 => by
    have hK := C.2.2.2.2.2.2.2.1
    have hlt := zin_lt hin
    exact W.aald (v := .ref (B + ((I.1 k i.toNatClampNeg).toNatClampNeg - 1))) (ty := .array .int) C.1 C.2.1 (a1 k _ (zW_get hk)) ((hK.2 1 _ rfl).1 n (fun j => va_rf (zNr B (I.1 k j)))) rfl (fun q => by cases q) (by show ¬ (i < 0 ∨ (arrV _ _ _).slots.size ≤ _); rw [arrV_size]; exact hin) (by
      show (arrV (cA 1) n (fun j => va_rf (zNr B (I.1 k j)))).slots[_]? = _
      rw [arrV_read _ _ hlt]
      unfold zNr
      rw [if_neg h0]
      rfl) rfl rfl hd (kk _ rfl H locs ls a1 a2 a3 a4)
theorem zr_aast1 (C : zCx p s m args meth c cc nL own ret D B cA ad) {k n k' n' : Nat} {i : Int32} (hk : zA2 S k n) (hin : vp_in i n) (hk' : zAt S k' n') (hs : k' < 1000000) (hd : decode cc pc = .ok (.aastore, 1)) (kk : zX p l e R s m args below meth c Q D B cA nL cells slots S (zu I k i.toNatClampNeg (Int32.ofNat (k' + 1))) lv st (pc + 1)) : zX p l e R s m args below meth c Q D B cA nL cells slots S I lv (.ref (B + k') :: .int i :: .ref (B + k) :: st) pc :=
  fun H locs ls a1 a2 a3 a4 => by
    have hg := zW_get (B := B) (cA := cA) (I := I) hk
    have hg' := zW_get (B := B) (cA := cA) (I := I) hk'
    have hK := C.2.2.2.2.2.2.2.1
    have hlt := zin_lt hin
    have h0 : ¬ i < 0 := fun q => hin (Or.inl q)
    obtain ⟨comp, cX, kA, g1, -, g3, g4, g5⟩ := arrayOverA_spec (zOA.use (A := args) C.2.2.2.2.2.2.2.2.2.2.2.2)
    have e1 : cX = cA 1 := Option.some.inj (g5.symm.trans (hK.2 1 _ rfl).2)
    have e2 : comp = cA 0 := Option.some.inj (g1.symm.trans (hK.2 0 _ rfl).2)
    subst e1
    subst e2
    obtain ⟨-, k0, hk0, -⟩ := (hK.2 0 _ rfl).1 n' (fun j => .int (I.1 k' j))
    have hass : s.vm.assignable (cA 0) (cA 0) = true := zas_rf 255 (cA 0)
    refine W.aast C.1 C.2.1 (a1 k _ hg) (fun q h => by cases h) (fun h => by cases h) g3 g4 rfl hk0 ⟨h0, by show _ < (arrV _ _ _).slots.size; rw [arrV_size]; exact hlt⟩ (a1 k' _ hg') (fun q h => by cases h) hk0 hass rfl rfl hd fun H1 z1' z2 z3 => ?_
    have hP2 := va_P.set a1 (zD B cA S I) hg (e := zB B cA (.inr (.inl (1, n))) ((zu I k i.toNatClampNeg (Int32.ofNat (k' + 1))).1 k) ((zu I k i.toNatClampNeg (Int32.ofNat (k' + 1))).2 k)) (by
      show H1[B + k]? = some (arrV (cA 1) n (fun j => va_rf (zNr B ((zu I k i.toNatClampNeg (Int32.ofNat (k' + 1))).1 k j))))
      rw [z1']
      show some ((arrV (cA 1) n (fun j => va_rf (zNr B (I.1 k j)))).setSlot _ _) = _
      rw [arrV_store]
      congr 2
      funext j
      by_cases hj : j = i.toNatClampNeg
      · subst hj
        rw [zu_at, if_pos ⟨rfl, rfl⟩, zNr_of hs]
        simp [updV, va_rf]
      · rw [zu_at, if_neg (fun q => hj q.2)]
        simp [updV, hj]) z3
    have e : (zW B cA S I).set k (B + k, zB B cA (.inr (.inl (1, n))) ((zu I k i.toNatClampNeg (Int32.ofNat (k' + 1))).1 k) ((zu I k i.toNatClampNeg (Int32.ofNat (k' + 1))).2 k)) = zW B cA S (zu I k i.toNatClampNeg (Int32.ofNat (k' + 1))) := zW_set hk (fun a ha => zu_ne ha) rfl
    rw [e] at hP2
    exact kk H1 _ ls hP2 (by rw [z2, a2]) (a3.put z2 z3 ((zD B cA S I).2 k _ hg)) a4
theorem zr_gl0 (C : zCx p s m args meth c cc nL own ret D B cA ad) {i : Int32} {n a : Nat} {f : Nat → Int32} {H : Heap} {locs : List Loc} {ls : Array Slot} (hf : H[a]? = some (vp_cell (cA 0) (n, .inl f))) (hin : vp_in i n) (hd : decode cc pc = .ok (.iaload, 1)) (kk : ∀ v, W p l e R s m args below meth c H locs cells slots Q (F0 m (pc + 1) ls (.int v :: st))) : W p l e R s m args below meth c H locs cells slots Q (F0 m pc ls (.int i :: .ref a :: st)) := by
  have hK := C.2.2.2.2.2.2.2.1
  have hlt := zin_lt hin
  exact W.iald (v := .int (f i.toNatClampNeg)) C.1 C.2.1 hf ((hK.2 0 _ rfl).1 n (fun j => .int (f j))) (fun q => by cases q) (by show ¬ (i < 0 ∨ (arrV _ _ _).slots.size ≤ _); rw [arrV_size]; exact hin) (by show (arrV _ _ _).slots[_]? = _; rw [arrV_read _ _ hlt]) rfl rfl hd (kk _)
/-- a number of the law's own first array, whatever it is -/
theorem zr_gld (C : zCx p s m args meth c cc nL own ret D B cA ad) {i : Int32} (hB : s.heap.size < B) (hin : vp_in i 44) (hd : decode cc pc = .ok (.iaload, 1)) (kk : ∀ v, zX p l e R s m args below meth c Q D B cA nL cells slots S I lv (.int v :: st) (pc + 1)) : zX p l e R s m args below meth c Q D B cA nL cells slots S I lv (.int i :: .ref s.heap.size :: st) pc :=
  fun H locs ls a1 a2 a3 a4 => by
    obtain ⟨f, hf⟩ := a3.2 hB
    exact zr_gl0 C hf hin hd (fun v => kk v H locs ls a1 a2 a3 a4)
theorem zr_aretA (C : zCx p s m args meth c cc nL own ret D B cA ad) {Qr : Option Value → List zC → zI → Prop} {t : FieldType} (hr : ret = some (.array t)) {r : Nat} (hd : decode cc pc = .ok (.areturn, 1)) (hq : Qr (some (.ref (B + r))) S I) : zX p l e R s m args below meth c (MQ below (zQc D B cA Qr) args s cells slots (fun q => B ≤ q)) D B cA nL cells slots S I lv [.ref (B + r)] pc :=
  fun H locs ls a1 a2 a3 a4 => W.aret C.1 C.2.1 (C.2.2.2.2.2.1.trans hr) (Or.inr ⟨t, rfl⟩) (Or.inr ⟨_, rfl⟩) (fun t ht hW => ⟨⟨_, S, I, rfl, hq, by rw [ht]; exact a1, by rw [ht]; exact a2⟩, a3.F ht⟩) a3.1.2.2 hd C.2.2.2.2.2.2.1
theorem zc_SaA (C : zCx p s m args meth c cc nL own ret D B cA ad) {index maxL n mc ms : Nat} {y : MethodName} {bytes : ByteArray} {ret2 : Option FieldType} {fr fl : Nat} {As st0 : List Value} {K : Nat → Nat → List zC → zI → Prop}
    (hM : Met l y (zws y bytes maxL ret2) (zrA fr fl mc ms) (zPc D B cA ad As S I) (zQc D B cA (zaA B S K)) mc ms (fun x => B ≤ x)) (hG : GoodIn zTb (zws y bytes maxL ret2)) (h1 : Cond.methodLink own index y ∈ zTb) (h2 : Cond.static y ∈ zTb) (h3 : Cond.initialized y.cls ∈ zTb)
    (hy : y.cls ≠ "java/lang/invoke/MethodHandle" ∧ y.cls ≠ "java/lang/invoke/VarHandle" ∧ (parseMethodDescriptor y.desc).map (fun d => d.parameters.length) = some n) (hR : fr + 1 ≤ R.frames ∧ 8 + (maxL + 11) + fl ≤ R.locals)
    (hn : As.length = n) (hst : st0 = As.reverse ++ st) (hw : (st.map fun v => v.category).sum ≤ 8) (hd : decode cc pc = .ok (.invokestatic index, 3)) (hf : cells + mc ≤ R.cells ∧ slots + ms ≤ R.slots)
    (kk : ∀ (k N : Nat) (S2 : List zC) (I2 : zI), (∃ T, S2 = S ++ T) → K k N S2 I2 → zX p l e R s m args below meth c Q D B cA nL (cells + mc) (slots + ms) S2 I2 lv (.ref (B + k) :: st) (pc + 3)) : zX p l e R s m args below meth c Q D B cA nL cells slots S I lv st0 pc :=
  zr_callS (rm := zrA fr fl mc ms) C hM hG h1 h2 h3 rfl rfl hy hR hn hst hw hd hf (fun r S2 I2 hq => by
    obtain ⟨hT, k, N, rfl, h⟩ := hq
    exact kk k N S2 I2 hT h)
theorem zc_SaI (C : zCx p s m args meth c cc nL own ret D B cA ad) {index maxL n mc ms : Nat} {y : MethodName} {bytes : ByteArray} {ret2 : Option FieldType} {fr fl : Nat} {As st0 : List Value} {K : Int32 → List zC → zI → Prop}
    (hM : Met l y (zws y bytes maxL ret2) (zrA fr fl mc ms) (zPc D B cA ad As S I) (zQc D B cA (zaI S K)) mc ms (fun x => B ≤ x)) (hG : GoodIn zTb (zws y bytes maxL ret2)) (h1 : Cond.methodLink own index y ∈ zTb) (h2 : Cond.static y ∈ zTb) (h3 : Cond.initialized y.cls ∈ zTb)
    (hy : y.cls ≠ "java/lang/invoke/MethodHandle" ∧ y.cls ≠ "java/lang/invoke/VarHandle" ∧ (parseMethodDescriptor y.desc).map (fun d => d.parameters.length) = some n) (hR : fr + 1 ≤ R.frames ∧ 8 + (maxL + 11) + fl ≤ R.locals)
    (hn : As.length = n) (hst : st0 = As.reverse ++ st) (hw : (st.map fun v => v.category).sum ≤ 8) (hd : decode cc pc = .ok (.invokestatic index, 3)) (hf : cells + mc ≤ R.cells ∧ slots + ms ≤ R.slots)
    (kk : ∀ (v : Int32) (S2 : List zC) (I2 : zI), (∃ T, S2 = S ++ T) → K v S2 I2 → zX p l e R s m args below meth c Q D B cA nL (cells + mc) (slots + ms) S2 I2 lv (.int v :: st) (pc + 3)) : zX p l e R s m args below meth c Q D B cA nL cells slots S I lv st0 pc :=
  zr_callS (rm := zrA fr fl mc ms) C hM hG h1 h2 h3 rfl rfl hy hR hn hst hw hd hf (fun r S2 I2 hq => by
    obtain ⟨hT, v, rfl, h⟩ := hq
    exact kk v S2 I2 hT h)
end ZL44
