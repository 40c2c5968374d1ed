-- ===== end of PART A; then your names; then what follows =====
/-! THE CLAIM OUT OF ONE WALK OF THE LAW'S BODY. Your part is whole_start (and what it stands on); all else here is the same for every law, but numbers. -/
def R_law : String := "RegrowDeskLaw"
def lw_P (b : Addr) (xs : List Int32) (args : Array Value) (s : State) : Prop := args = #[.ref b] ∧ s.IntsAt b xs ∧ xs.length ≤ 3072 ∧ (Jvm.Cond.and given_1 narrow_1).before args s = true
def lw_Q (_ : Array Value) (s : State) (o : Outcome) (t : State) : Prop := o = .returned (some (.int 1)) ∧ Framed s o t [] 600000 7302250
def lw_Z (below : List Frame) (a : Array Value) (s : State) : State → Prop := fun t => ∃ o, t.status = .running ∧ Ended t below o ∧ lw_Q a s o t
/-- the law's own end, with 1 on the stack, nothing written that was there before, its room as the claim has it -/
theorem lw_ret {p : Program} {l : Launch} {e : Env} {s : State} {m : MethodId} {below : List Frame} {meth : Method} {c : Code} {b : Nat} (hx : p.tables.exec = Jvm.exec) (hb : c.code = code) (hr : meth.sig.returnType = ret) (hlocks : meth.locks = false) {pc : Nat} {H : Heap} {ls : Array Slot} (hdg : decode code pc = .ok (.ireturn, 1)) : W p l e room_1 s m #[Value.ref b] below meth c H [] 600000 7302250 (lw_Z below #[Value.ref b] s) (F0 m pc ls [.int 1]) := by
  intro T hT X
  obtain ⟨fs, hret, hrun, hended, hW, hframe⟩ := X.leave (v := some (.int 1)) (hlocks := hlocks) (fun h => by rw [hr] at h; cases h)
  have hmeth' : T.vm.method? m = some meth := X.method'
  refine ⟨T.setFrames fs, ?_, .returned (some (.int 1)), hrun, hended, rfl, ⟨_, rfl⟩, hW, hframe⟩
  jvm_step X.here [X.here.top, hx, hb, hdg, hmeth', hr, ret, narrow_b1]
  (try refine ⟨rfl, ?_⟩); (try refine ⟨rfl, ?_⟩)
  first | (intro acts; rw [hret _ acts rfl rfl rfl]) | rw [hret _ _ rfl rfl rfl]
  exact Steps.refl _
/-- what holds at the law's entry: the machine, the code, the tables' words (any of lw_tbl by 'hts w (by decide +kernel)'), the script of L ints xs at the cell b, what the Statement gives of the start (any of its parts by flat_of_before) -/
def lw_At (p : Program) (s : State) (m : MethodId) (meth : Method) (c : Code) (b L : Nat) (xs : Nat → Int32) : Prop :=
  p.tables.exec = Jvm.exec ∧ c.code = code ∧ meth.sig.returnType = ret ∧ c.maxLocals = 4 ∧ s.vm.findClass R_law = some m.cls ∧ (∀ w ∈ lw_tbl, w.before #[Value.ref b] s = true) ∧ va_X b L xs s s.heap ∧ b < s.heap.size ∧ meth.locks = false ∧ (Jvm.Cond.and given_1 narrow_1).before #[Value.ref b] s = true
section ZL
variable {p : Program} {l : Launch} {e : Env} {R : Room} {s : State} {m : MethodId} {args : Array Value} {below : List Frame} {meth : Method} {c : Code} {Q : State → Prop} {D : va_G} {cA : Nat → ClassId} {ad : Nat → Nat} {cc : ByteArray} {nL : Nat} {own : String} {ret : Option FieldType} {cells slots : Nat} {S : List zC} {I : zI} {lv : List (Nat × Value)} {st : List Value} {pc : Nat}
theorem zr_slen {B b L : Nat} {xs : Nat → Int32} (C : zCx p s m args meth c cc nL own ret D B cA ad) (hX : va_X b L xs s s.heap) (hbl : b < s.heap.size) (hbA : ¬ B ≤ b) (hd : decode cc pc = .ok (.arraylength, 1)) (kk : zX p l e R s m args below meth c Q D B cA nL cells slots S I lv (.int (Int32.ofNat L) :: st) (pc + 1)) : zX p l e R s m args below meth c Q D B cA nL cells slots S I lv (.ref b :: st) pc :=
  fun H locs ls a1 a2 a3 a4 => va_slen C.1 C.2.1 hX hbl hbA a3 hd (kk H locs ls a1 a2 a3 a4)
theorem zr_sld {B b L : Nat} {xs : Nat → Int32} {i : Int32} (C : zCx p s m args meth c cc nL own ret D B cA ad) (hX : va_X b L xs s s.heap) (hbl : b < s.heap.size) (hbA : ¬ B ≤ b) (hin : vp_in i L) (hd : decode cc pc = .ok (.iaload, 1)) (kk : zX p l e R s m args below meth c Q D B cA nL cells slots S I lv (.int (xs i.toNatClampNeg) :: st) (pc + 1)) : zX p l e R s m args below meth c Q D B cA nL cells slots S I lv (.int i :: .ref b :: st) pc :=
  fun H locs ls a1 a2 a3 a4 => va_sld C.1 C.2.1 hX hbl hbA a3 hin hd (kk H locs ls a1 a2 a3 a4)
theorem zr_lend {b : Nat} {xs0 : List zC} (C : zCx p s m #[Value.ref b] meth c code nL own _root_.Jvm.Pilot.@@N@@.ret D s.heap.size cA ad) (hd : decode code pc = .ok (.ireturn, 1)) : zX p l e room_1 s m #[Value.ref b] below meth c (lw_Z below #[Value.ref b] s) D s.heap.size cA nL 546 406967 xs0 I lv [.int 1] pc :=
  fun H locs ls a1 a2 a3 a4 => va_forget (fun q hq => a3.2.2 q hq) (W.widen (k := 600000) (n := 7302250) (Nat.le_of_ble_eq_true rfl) (Nat.le_of_ble_eq_true rfl) (lw_ret C.1 C.2.1 C.2.2.2.2.2.1 C.2.2.2.2.2.2.1 hd))
end ZL
theorem zv_L_13t {p : Program} {l : Launch} {e : Env} {R : Room} {s : State} {m : MethodId} {args : Array Value} {below : List Frame} {meth : Method} {c : Code} {Q : State → Prop} {D : va_G} {B : Nat} {cA : Nat → ClassId} {ad : Nat → Nat} {cc : ByteArray} {nL : Nat} {ret : Option FieldType} {S : List zC} {I : zI} {lv : List (Nat × Value)} {st : List Value} {pc cells slots : Nat} (C : zCx p s m args meth c cc nL RL ret D B cA ad) {K : Int32 → zI → Prop} {xa1 : Int32} {xa2 : Int32} {xa3 : Int32} {xa4 : Int32} {xa5 : Int32} (hS : zOkX S)  (h : w_Desk_feed xa1 xa2 xa3 xa4 xa5 I K) (hR : 2 + 1 ≤ R.frames ∧ 8 + (6 + 11) + (44) ≤ R.locals) (hw : (st.map fun v => v.category).sum ≤ 8) (hd : decode cc pc = .ok (.invokevirtual 13, 3)) (hf : cells ≤ R.cells ∧ slots ≤ R.slots) (kk : ∀ v I2, K v I2 → zX p l e R s m args below meth c Q D B cA nL cells slots S I2 lv (.int v :: st) (pc + 3)) : zX p l e R s m args below meth c Q D B cA nL cells slots S I lv (.int xa5 :: .int xa4 :: .int xa3 :: .int xa2 :: .int xa1 :: .ref (B + 0) :: st) pc :=
  zc_VqI C (ci := 11) (q := (RX11, TX11, 19)) (k := 0) (fs := [some (some 1), none, some (some 3), some (some 4), none, none, none, none, some (some 22), some (some 24), some (some 43), some (some 64), some (some 69), some (some 88), some (some 97), some (some 100), some (some 109), some (some 111), none]) (As := [.int xa1, .int xa2, .int xa3, .int xa4, .int xa5]) (st := st) rfl (hS _ _ zs_0) (c_Desk_feed hS h) (zgV zk_ml_L_13 zk_im_yX11_feed zk_se_yX11_feed zk_in_11 zk_cd_yX11_feed) zsg_yX11_feed hR rfl rfl hw hd hf kk
theorem zv_L_17t {p : Program} {l : Launch} {e : Env} {R : Room} {s : State} {m : MethodId} {args : Array Value} {below : List Frame} {meth : Method} {c : Code} {Q : State → Prop} {D : va_G} {B : Nat} {cA : Nat → ClassId} {ad : Nat → Nat} {cc : ByteArray} {nL : Nat} {ret : Option FieldType} {S : List zC} {I : zI} {lv : List (Nat × Value)} {st : List Value} {pc cells slots : Nat} (C : zCx p s m args meth c cc nL RL ret D B cA ad) {K : Int32 → zI → Prop} {xa1 : Int32} {xa2 : Int32} {xa3 : Int32} {xa4 : Int32} {xa5 : Int32} (hS : zOkM S)  (h : w_M_feed xa1 xa2 xa3 xa4 xa5 I K) (hR : 1 + 1 ≤ R.frames ∧ 8 + (6 + 11) + (22) ≤ R.locals) (hw : (st.map fun v => v.category).sum ≤ 8) (hd : decode cc pc = .ok (.invokevirtual 17, 3)) (hf : cells ≤ R.cells ∧ slots ≤ R.slots) (kk : ∀ v I2, K v I2 → zX p l e R s m args below meth c Q D B cA nL cells slots S I2 lv (.int v :: st) (pc + 3)) : zX p l e R s m args below meth c Q D B cA nL cells slots S I lv (.int xa5 :: .int xa4 :: .int xa3 :: .int xa2 :: .int xa1 :: .ref (B + 491) :: st) pc :=
  zc_VqI C (ci := 12) (q := (RX12, TX12, 82)) (k := 491) (fs := [none, some (some 492), some (some 493), none, some (some 494), none, some (some 495), none, none, none, some (some 496), some (some 497), some (some 498), some (some 499), some (some 500), none, some (some 501), some (some 502), some (some 503), none, some (some 504), some (some 505), some (some 506), some (some 507), some (some 508), none, some (some 509), some (some 510), some (some 511), some (some 512), some (some 513), some (some 514), some (some 515), some (some 516), some (some 517), some (some 518), none, none, some (some 519), none, some (some 520), none, none, none, some (some 521), some (some 522), some (some 523), some (some 524), some (some 525), some (some 526), some (some 527), none, some (some 528), none, some (some 529), none, some (some 530), some (some 531), some (some 532), none, some (some 533), some (some 534), some (some 535), some (some 536), some (some 537), none, none, none, some (some 538), some (some 539), some (some 540), none, none, none, some (some 541), none, none, some (some 542), some (some 543), some (some 544), none, some (some 545)]) (As := [.int xa1, .int xa2, .int xa3, .int xa4, .int xa5]) (st := st) rfl (hS _ _ zs_491) (c_M_feed hS h) (zgV zk_ml_L_17 zk_im_yX12_feed zk_se_yX12_feed zk_in_12 zk_cd_yX12_feed) zsg_yX12_feed hR rfl rfl hw hd hf kk
theorem zv_L_18t {p : Program} {l : Launch} {e : Env} {R : Room} {s : State} {m : MethodId} {args : Array Value} {below : List Frame} {meth : Method} {c : Code} {Q : State → Prop} {D : va_G} {B : Nat} {cA : Nat → ClassId} {ad : Nat → Nat} {cc : ByteArray} {nL : Nat} {ret : Option FieldType} {S : List zC} {I : zI} {lv : List (Nat × Value)} {st : List Value} {pc cells slots : Nat} (C : zCx p s m args meth c cc nL RL ret D B cA ad) {K : Int32 → zI → Prop} {xa1 : Int32} (hS : zOkX S)  (h : w_Desk_back xa1 I K) (hR : 0 + 1 ≤ R.frames ∧ 8 + (2 + 11) + (0) ≤ R.locals) (hw : (st.map fun v => v.category).sum ≤ 8) (hd : decode cc pc = .ok (.invokevirtual 18, 3)) (hf : cells ≤ R.cells ∧ slots ≤ R.slots) (kk : ∀ v I2, K v I2 → zX p l e R s m args below meth c Q D B cA nL cells slots S I2 lv (.int v :: st) (pc + 3)) : zX p l e R s m args below meth c Q D B cA nL cells slots S I lv (.int xa1 :: .ref (B + 0) :: st) pc :=
  zc_VqI C (ci := 11) (q := (RX11, TX11, 19)) (k := 0) (fs := [some (some 1), none, some (some 3), some (some 4), none, none, none, none, some (some 22), some (some 24), some (some 43), some (some 64), some (some 69), some (some 88), some (some 97), some (some 100), some (some 109), some (some 111), none]) (As := [.int xa1]) (st := st) rfl (hS _ _ zs_0) (c_Desk_back hS h) (zgV zk_ml_L_18 zk_im_yX11_back zk_se_yX11_back zk_in_11 zk_cd_yX11_back) zsg_yX11_back hR rfl rfl hw hd hf kk
theorem zv_L_22t {p : Program} {l : Launch} {e : Env} {R : Room} {s : State} {m : MethodId} {args : Array Value} {below : List Frame} {meth : Method} {c : Code} {Q : State → Prop} {D : va_G} {B : Nat} {cA : Nat → ClassId} {ad : Nat → Nat} {cc : ByteArray} {nL : Nat} {ret : Option FieldType} {S : List zC} {I : zI} {lv : List (Nat × Value)} {st : List Value} {pc cells slots : Nat} (C : zCx p s m args meth c cc nL RL ret D B cA ad) {K : Int32 → zI → Prop} {xa1 : Int32} (hS : zOkM S)  (h : w_M_back xa1 I K) (hR : 0 + 1 ≤ R.frames ∧ 8 + (2 + 11) + (0) ≤ R.locals) (hw : (st.map fun v => v.category).sum ≤ 8) (hd : decode cc pc = .ok (.invokevirtual 22, 3)) (hf : cells ≤ R.cells ∧ slots ≤ R.slots) (kk : ∀ v I2, K v I2 → zX p l e R s m args below meth c Q D B cA nL cells slots S I2 lv (.int v :: st) (pc + 3)) : zX p l e R s m args below meth c Q D B cA nL cells slots S I lv (.int xa1 :: .ref (B + 491) :: st) pc :=
  zc_VqI C (ci := 12) (q := (RX12, TX12, 82)) (k := 491) (fs := [none, some (some 492), some (some 493), none, some (some 494), none, some (some 495), none, none, none, some (some 496), some (some 497), some (some 498), some (some 499), some (some 500), none, some (some 501), some (some 502), some (some 503), none, some (some 504), some (some 505), some (some 506), some (some 507), some (some 508), none, some (some 509), some (some 510), some (some 511), some (some 512), some (some 513), some (some 514), some (some 515), some (some 516), some (some 517), some (some 518), none, none, some (some 519), none, some (some 520), none, none, none, some (some 521), some (some 522), some (some 523), some (some 524), some (some 525), some (some 526), some (some 527), none, some (some 528), none, some (some 529), none, some (some 530), some (some 531), some (some 532), none, some (some 533), some (some 534), some (some 535), some (some 536), some (some 537), none, none, none, some (some 538), some (some 539), some (some 540), none, none, none, some (some 541), none, none, some (some 542), some (some 543), some (some 544), none, some (some 545)]) (As := [.int xa1]) (st := st) rfl (hS _ _ zs_491) (c_M_back hS h) (zgV zk_ml_L_22 zk_im_yX12_back zk_se_yX12_back zk_in_12 zk_cd_yX12_back) zsg_yX12_back hR rfl rfl hw hd hf kk
theorem zv_L_23t {p : Program} {l : Launch} {e : Env} {R : Room} {s : State} {m : MethodId} {args : Array Value} {below : List Frame} {meth : Method} {c : Code} {Q : State → Prop} {D : va_G} {B : Nat} {cA : Nat → ClassId} {ad : Nat → Nat} {cc : ByteArray} {nL : Nat} {ret : Option FieldType} {S : List zC} {I : zI} {lv : List (Nat × Value)} {st : List Value} {pc cells slots : Nat} (C : zCx p s m args meth c cc nL RL ret D B cA ad) {K : Int32 → zI → Prop} {xa1 : Int32} {xa2 : Int32} (hS : zOkX S)  (h : w_Desk_edit xa1 xa2 I K) (hR : 18 + 1 ≤ R.frames ∧ 8 + (4 + 11) + (594) ≤ R.locals) (hw : (st.map fun v => v.category).sum ≤ 8) (hd : decode cc pc = .ok (.invokevirtual 23, 3)) (hf : cells ≤ R.cells ∧ slots ≤ R.slots) (kk : ∀ v I2, K v I2 → zX p l e R s m args below meth c Q D B cA nL cells slots S I2 lv (.int v :: st) (pc + 3)) : zX p l e R s m args below meth c Q D B cA nL cells slots S I lv (.int xa2 :: .int xa1 :: .ref (B + 0) :: st) pc :=
  zc_VqI C (ci := 11) (q := (RX11, TX11, 19)) (k := 0) (fs := [some (some 1), none, some (some 3), some (some 4), none, none, none, none, some (some 22), some (some 24), some (some 43), some (some 64), some (some 69), some (some 88), some (some 97), some (some 100), some (some 109), some (some 111), none]) (As := [.int xa1, .int xa2]) (st := st) rfl (hS _ _ zs_0) (c_Desk_edit hS h) (zgV zk_ml_L_23 zk_im_yX11_edit zk_se_yX11_edit zk_in_11 zk_cd_yX11_edit) zsg_yX11_edit hR rfl rfl hw hd hf kk
theorem zv_L_27t {p : Program} {l : Launch} {e : Env} {R : Room} {s : State} {m : MethodId} {args : Array Value} {below : List Frame} {meth : Method} {c : Code} {Q : State → Prop} {D : va_G} {B : Nat} {cA : Nat → ClassId} {ad : Nat → Nat} {cc : ByteArray} {nL : Nat} {ret : Option FieldType} {S : List zC} {I : zI} {lv : List (Nat × Value)} {st : List Value} {pc cells slots : Nat} (C : zCx p s m args meth c cc nL RL ret D B cA ad) {K : Int32 → zI → Prop} {xa1 : Int32} {xa2 : Int32} (hS : zOkM S)  (h : w_M_edit xa1 xa2 I K) (hR : 4 + 1 ≤ R.frames ∧ 8 + (5 + 11) + (104) ≤ R.locals) (hw : (st.map fun v => v.category).sum ≤ 8) (hd : decode cc pc = .ok (.invokevirtual 27, 3)) (hf : cells ≤ R.cells ∧ slots ≤ R.slots) (kk : ∀ v I2, K v I2 → zX p l e R s m args below meth c Q D B cA nL cells slots S I2 lv (.int v :: st) (pc + 3)) : zX p l e R s m args below meth c Q D B cA nL cells slots S I lv (.int xa2 :: .int xa1 :: .ref (B + 491) :: st) pc :=
  zc_VqI C (ci := 12) (q := (RX12, TX12, 82)) (k := 491) (fs := [none, some (some 492), some (some 493), none, some (some 494), none, some (some 495), none, none, none, some (some 496), some (some 497), some (some 498), some (some 499), some (some 500), none, some (some 501), some (some 502), some (some 503), none, some (some 504), some (some 505), some (some 506), some (some 507), some (some 508), none, some (some 509), some (some 510), some (some 511), some (some 512), some (some 513), some (some 514), some (some 515), some (some 516), some (some 517), some (some 518), none, none, some (some 519), none, some (some 520), none, none, none, some (some 521), some (some 522), some (some 523), some (some 524), some (some 525), some (some 526), some (some 527), none, some (some 528), none, some (some 529), none, some (some 530), some (some 531), some (some 532), none, some (some 533), some (some 534), some (some 535), some (some 536), some (some 537), none, none, none, some (some 538), some (some 539), some (some 540), none, none, none, some (some 541), none, none, some (some 542), some (some 543), some (some 544), none, some (some 545)]) (As := [.int xa1, .int xa2]) (st := st) rfl (hS _ _ zs_491) (c_M_edit hS h) (zgV zk_ml_L_27 zk_im_yX12_edit zk_se_yX12_edit zk_in_12 zk_cd_yX12_edit) zsg_yX12_edit hR rfl rfl hw hd hf kk
theorem zv_L_28t {p : Program} {l : Launch} {e : Env} {R : Room} {s : State} {m : MethodId} {args : Array Value} {below : List Frame} {meth : Method} {c : Code} {Q : State → Prop} {D : va_G} {B : Nat} {cA : Nat → ClassId} {ad : Nat → Nat} {cc : ByteArray} {nL : Nat} {ret : Option FieldType} {S : List zC} {I : zI} {lv : List (Nat × Value)} {st : List Value} {pc cells slots : Nat} (C : zCx p s m args meth c cc nL RL ret D B cA ad) {K : Int32 → zI → Prop} {xa1 : Int32} (hS : zOkX S)  (h : w_Desk_rename xa1 I K) (hR : 18 + 1 ≤ R.frames ∧ 8 + (5 + 11) + (594) ≤ R.locals) (hw : (st.map fun v => v.category).sum ≤ 8) (hd : decode cc pc = .ok (.invokevirtual 28, 3)) (hf : cells ≤ R.cells ∧ slots ≤ R.slots) (kk : ∀ v I2, K v I2 → zX p l e R s m args below meth c Q D B cA nL cells slots S I2 lv (.int v :: st) (pc + 3)) : zX p l e R s m args below meth c Q D B cA nL cells slots S I lv (.int xa1 :: .ref (B + 0) :: st) pc :=
  zc_VqI C (ci := 11) (q := (RX11, TX11, 19)) (k := 0) (fs := [some (some 1), none, some (some 3), some (some 4), none, none, none, none, some (some 22), some (some 24), some (some 43), some (some 64), some (some 69), some (some 88), some (some 97), some (some 100), some (some 109), some (some 111), none]) (As := [.int xa1]) (st := st) rfl (hS _ _ zs_0) (c_Desk_rename hS h) (zgV zk_ml_L_28 zk_im_yX11_rename zk_se_yX11_rename zk_in_11 zk_cd_yX11_rename) zsg_yX11_rename hR rfl rfl hw hd hf kk
theorem zv_L_31t {p : Program} {l : Launch} {e : Env} {R : Room} {s : State} {m : MethodId} {args : Array Value} {below : List Frame} {meth : Method} {c : Code} {Q : State → Prop} {D : va_G} {B : Nat} {cA : Nat → ClassId} {ad : Nat → Nat} {cc : ByteArray} {nL : Nat} {ret : Option FieldType} {S : List zC} {I : zI} {lv : List (Nat × Value)} {st : List Value} {pc cells slots : Nat} (C : zCx p s m args meth c cc nL RL ret D B cA ad) {K : Int32 → zI → Prop} {xa1 : Int32} (hS : zOkM S)  (h : w_M_rename xa1 I K) (hR : 4 + 1 ≤ R.frames ∧ 8 + (8 + 11) + (104) ≤ R.locals) (hw : (st.map fun v => v.category).sum ≤ 8) (hd : decode cc pc = .ok (.invokevirtual 31, 3)) (hf : cells ≤ R.cells ∧ slots ≤ R.slots) (kk : ∀ v I2, K v I2 → zX p l e R s m args below meth c Q D B cA nL cells slots S I2 lv (.int v :: st) (pc + 3)) : zX p l e R s m args below meth c Q D B cA nL cells slots S I lv (.int xa1 :: .ref (B + 491) :: st) pc :=
  zc_VqI C (ci := 12) (q := (RX12, TX12, 82)) (k := 491) (fs := [none, some (some 492), some (some 493), none, some (some 494), none, some (some 495), none, none, none, some (some 496), some (some 497), some (some 498), some (some 499), some (some 500), none, some (some 501), some (some 502), some (some 503), none, some (some 504), some (some 505), some (some 506), some (some 507), some (some 508), none, some (some 509), some (some 510), some (some 511), some (some 512), some (some 513), some (some 514), some (some 515), some (some 516), some (some 517), some (some 518), none, none, some (some 519), none, some (some 520), none, none, none, some (some 521), some (some 522), some (some 523), some (some 524), some (some 525), some (some 526), some (some 527), none, some (some 528), none, some (some 529), none, some (some 530), some (some 531), some (some 532), none, some (some 533), some (some 534), some (some 535), some (some 536), some (some 537), none, none, none, some (some 538), some (some 539), some (some 540), none, none, none, some (some 541), none, none, some (some 542), some (some 543), some (some 544), none, some (some 545)]) (As := [.int xa1]) (st := st) rfl (hS _ _ zs_491) (c_M_rename hS h) (zgV zk_ml_L_31 zk_im_yX12_rename zk_se_yX12_rename zk_in_12 zk_cd_yX12_rename) zsg_yX12_rename hR rfl rfl hw hd hf kk
theorem zv_L_32t {p : Program} {l : Launch} {e : Env} {R : Room} {s : State} {m : MethodId} {args : Array Value} {below : List Frame} {meth : Method} {c : Code} {Q : State → Prop} {D : va_G} {B : Nat} {cA : Nat → ClassId} {ad : Nat → Nat} {cc : ByteArray} {nL : Nat} {ret : Option FieldType} {S : List zC} {I : zI} {lv : List (Nat × Value)} {st : List Value} {pc cells slots : Nat} (C : zCx p s m args meth c cc nL RL ret D B cA ad) {K : Int32 → zI → Prop} {xa1 : Int32} (hS : zOkX S)  (h : w_Desk_cut xa1 I K) (hR : 18 + 1 ≤ R.frames ∧ 8 + (3 + 11) + (594) ≤ R.locals) (hw : (st.map fun v => v.category).sum ≤ 8) (hd : decode cc pc = .ok (.invokevirtual 32, 3)) (hf : cells ≤ R.cells ∧ slots ≤ R.slots) (kk : ∀ v I2, K v I2 → zX p l e R s m args below meth c Q D B cA nL cells slots S I2 lv (.int v :: st) (pc + 3)) : zX p l e R s m args below meth c Q D B cA nL cells slots S I lv (.int xa1 :: .ref (B + 0) :: st) pc :=
  zc_VqI C (ci := 11) (q := (RX11, TX11, 19)) (k := 0) (fs := [some (some 1), none, some (some 3), some (some 4), none, none, none, none, some (some 22), some (some 24), some (some 43), some (some 64), some (some 69), some (some 88), some (some 97), some (some 100), some (some 109), some (some 111), none]) (As := [.int xa1]) (st := st) rfl (hS _ _ zs_0) (c_Desk_cut hS h) (zgV zk_ml_L_32 zk_im_yX11_cut zk_se_yX11_cut zk_in_11 zk_cd_yX11_cut) zsg_yX11_cut hR rfl rfl hw hd hf kk
theorem zv_L_35t {p : Program} {l : Launch} {e : Env} {R : Room} {s : State} {m : MethodId} {args : Array Value} {below : List Frame} {meth : Method} {c : Code} {Q : State → Prop} {D : va_G} {B : Nat} {cA : Nat → ClassId} {ad : Nat → Nat} {cc : ByteArray} {nL : Nat} {ret : Option FieldType} {S : List zC} {I : zI} {lv : List (Nat × Value)} {st : List Value} {pc cells slots : Nat} (C : zCx p s m args meth c cc nL RL ret D B cA ad) {K : Int32 → zI → Prop} {xa1 : Int32} (hS : zOkM S)  (h : w_M_cut xa1 I K) (hR : 4 + 1 ≤ R.frames ∧ 8 + (3 + 11) + (104) ≤ R.locals) (hw : (st.map fun v => v.category).sum ≤ 8) (hd : decode cc pc = .ok (.invokevirtual 35, 3)) (hf : cells ≤ R.cells ∧ slots ≤ R.slots) (kk : ∀ v I2, K v I2 → zX p l e R s m args below meth c Q D B cA nL cells slots S I2 lv (.int v :: st) (pc + 3)) : zX p l e R s m args below meth c Q D B cA nL cells slots S I lv (.int xa1 :: .ref (B + 491) :: st) pc :=
  zc_VqI C (ci := 12) (q := (RX12, TX12, 82)) (k := 491) (fs := [none, some (some 492), some (some 493), none, some (some 494), none, some (some 495), none, none, none, some (some 496), some (some 497), some (some 498), some (some 499), some (some 500), none, some (some 501), some (some 502), some (some 503), none, some (some 504), some (some 505), some (some 506), some (some 507), some (some 508), none, some (some 509), some (some 510), some (some 511), some (some 512), some (some 513), some (some 514), some (some 515), some (some 516), some (some 517), some (some 518), none, none, some (some 519), none, some (some 520), none, none, none, some (some 521), some (some 522), some (some 523), some (some 524), some (some 525), some (some 526), some (some 527), none, some (some 528), none, some (some 529), none, some (some 530), some (some 531), some (some 532), none, some (some 533), some (some 534), some (some 535), some (some 536), some (some 537), none, none, none, some (some 538), some (some 539), some (some 540), none, none, none, some (some 541), none, none, some (some 542), some (some 543), some (some 544), none, some (some 545)]) (As := [.int xa1]) (st := st) rfl (hS _ _ zs_491) (c_M_cut hS h) (zgV zk_ml_L_35 zk_im_yX12_cut zk_se_yX12_cut zk_in_12 zk_cd_yX12_cut) zsg_yX12_cut hR rfl rfl hw hd hf kk
theorem zv_L_36t {p : Program} {l : Launch} {e : Env} {R : Room} {s : State} {m : MethodId} {args : Array Value} {below : List Frame} {meth : Method} {c : Code} {Q : State → Prop} {D : va_G} {B : Nat} {cA : Nat → ClassId} {ad : Nat → Nat} {cc : ByteArray} {nL : Nat} {ret : Option FieldType} {S : List zC} {I : zI} {lv : List (Nat × Value)} {st : List Value} {pc cells slots : Nat} (C : zCx p s m args meth c cc nL RL ret D B cA ad) {K : Int32 → zI → Prop} {xa1 : Int32} (hS : zOkX S)  (h : w_Desk_twin xa1 I K) (hR : 18 + 1 ≤ R.frames ∧ 8 + (3 + 11) + (594) ≤ R.locals) (hw : (st.map fun v => v.category).sum ≤ 8) (hd : decode cc pc = .ok (.invokevirtual 36, 3)) (hf : cells ≤ R.cells ∧ slots ≤ R.slots) (kk : ∀ v I2, K v I2 → zX p l e R s m args below meth c Q D B cA nL cells slots S I2 lv (.int v :: st) (pc + 3)) : zX p l e R s m args below meth c Q D B cA nL cells slots S I lv (.int xa1 :: .ref (B + 0) :: st) pc :=
  zc_VqI C (ci := 11) (q := (RX11, TX11, 19)) (k := 0) (fs := [some (some 1), none, some (some 3), some (some 4), none, none, none, none, some (some 22), some (some 24), some (some 43), some (some 64), some (some 69), some (some 88), some (some 97), some (some 100), some (some 109), some (some 111), none]) (As := [.int xa1]) (st := st) rfl (hS _ _ zs_0) (c_Desk_twin hS h) (zgV zk_ml_L_36 zk_im_yX11_twin zk_se_yX11_twin zk_in_11 zk_cd_yX11_twin) zsg_yX11_twin hR rfl rfl hw hd hf kk
theorem zv_L_39t {p : Program} {l : Launch} {e : Env} {R : Room} {s : State} {m : MethodId} {args : Array Value} {below : List Frame} {meth : Method} {c : Code} {Q : State → Prop} {D : va_G} {B : Nat} {cA : Nat → ClassId} {ad : Nat → Nat} {cc : ByteArray} {nL : Nat} {ret : Option FieldType} {S : List zC} {I : zI} {lv : List (Nat × Value)} {st : List Value} {pc cells slots : Nat} (C : zCx p s m args meth c cc nL RL ret D B cA ad) {K : Int32 → zI → Prop} {xa1 : Int32} (hS : zOkM S)  (h : w_M_twin xa1 I K) (hR : 4 + 1 ≤ R.frames ∧ 8 + (3 + 11) + (104) ≤ R.locals) (hw : (st.map fun v => v.category).sum ≤ 8) (hd : decode cc pc = .ok (.invokevirtual 39, 3)) (hf : cells ≤ R.cells ∧ slots ≤ R.slots) (kk : ∀ v I2, K v I2 → zX p l e R s m args below meth c Q D B cA nL cells slots S I2 lv (.int v :: st) (pc + 3)) : zX p l e R s m args below meth c Q D B cA nL cells slots S I lv (.int xa1 :: .ref (B + 491) :: st) pc :=
  zc_VqI C (ci := 12) (q := (RX12, TX12, 82)) (k := 491) (fs := [none, some (some 492), some (some 493), none, some (some 494), none, some (some 495), none, none, none, some (some 496), some (some 497), some (some 498), some (some 499), some (some 500), none, some (some 501), some (some 502), some (some 503), none, some (some 504), some (some 505), some (some 506), some (some 507), some (some 508), none, some (some 509), some (some 510), some (some 511), some (some 512), some (some 513), some (some 514), some (some 515), some (some 516), some (some 517), some (some 518), none, none, some (some 519), none, some (some 520), none, none, none, some (some 521), some (some 522), some (some 523), some (some 524), some (some 525), some (some 526), some (some 527), none, some (some 528), none, some (some 529), none, some (some 530), some (some 531), some (some 532), none, some (some 533), some (some 534), some (some 535), some (some 536), some (some 537), none, none, none, some (some 538), some (some 539), some (some 540), none, none, none, some (some 541), none, none, some (some 542), some (some 543), some (some 544), none, some (some 545)]) (As := [.int xa1]) (st := st) rfl (hS _ _ zs_491) (c_M_twin hS h) (zgV zk_ml_L_39 zk_im_yX12_twin zk_se_yX12_twin zk_in_12 zk_cd_yX12_twin) zsg_yX12_twin hR rfl rfl hw hd hf kk
theorem zv_L_40t {p : Program} {l : Launch} {e : Env} {R : Room} {s : State} {m : MethodId} {args : Array Value} {below : List Frame} {meth : Method} {c : Code} {Q : State → Prop} {D : va_G} {B : Nat} {cA : Nat → ClassId} {ad : Nat → Nat} {cc : ByteArray} {nL : Nat} {ret : Option FieldType} {S : List zC} {I : zI} {lv : List (Nat × Value)} {st : List Value} {pc cells slots : Nat} (C : zCx p s m args meth c cc nL RL ret D B cA ad) {K : Int32 → zI → Prop} {xa1 : Int32} (hS : zOkX S)  (h : w_Desk_swap xa1 I K) (hR : 18 + 1 ≤ R.frames ∧ 8 + (3 + 11) + (594) ≤ R.locals) (hw : (st.map fun v => v.category).sum ≤ 8) (hd : decode cc pc = .ok (.invokevirtual 40, 3)) (hf : cells ≤ R.cells ∧ slots ≤ R.slots) (kk : ∀ v I2, K v I2 → zX p l e R s m args below meth c Q D B cA nL cells slots S I2 lv (.int v :: st) (pc + 3)) : zX p l e R s m args below meth c Q D B cA nL cells slots S I lv (.int xa1 :: .ref (B + 0) :: st) pc :=
  zc_VqI C (ci := 11) (q := (RX11, TX11, 19)) (k := 0) (fs := [some (some 1), none, some (some 3), some (some 4), none, none, none, none, some (some 22), some (some 24), some (some 43), some (some 64), some (some 69), some (some 88), some (some 97), some (some 100), some (some 109), some (some 111), none]) (As := [.int xa1]) (st := st) rfl (hS _ _ zs_0) (c_Desk_swap hS h) (zgV zk_ml_L_40 zk_im_yX11_swap zk_se_yX11_swap zk_in_11 zk_cd_yX11_swap) zsg_yX11_swap hR rfl rfl hw hd hf kk
theorem zv_L_43t {p : Program} {l : Launch} {e : Env} {R : Room} {s : State} {m : MethodId} {args : Array Value} {below : List Frame} {meth : Method} {c : Code} {Q : State → Prop} {D : va_G} {B : Nat} {cA : Nat → ClassId} {ad : Nat → Nat} {cc : ByteArray} {nL : Nat} {ret : Option FieldType} {S : List zC} {I : zI} {lv : List (Nat × Value)} {st : List Value} {pc cells slots : Nat} (C : zCx p s m args meth c cc nL RL ret D B cA ad) {K : Int32 → zI → Prop} {xa1 : Int32} (hS : zOkM S)  (h : w_M_swap xa1 I K) (hR : 4 + 1 ≤ R.frames ∧ 8 + (5 + 11) + (104) ≤ R.locals) (hw : (st.map fun v => v.category).sum ≤ 8) (hd : decode cc pc = .ok (.invokevirtual 43, 3)) (hf : cells ≤ R.cells ∧ slots ≤ R.slots) (kk : ∀ v I2, K v I2 → zX p l e R s m args below meth c Q D B cA nL cells slots S I2 lv (.int v :: st) (pc + 3)) : zX p l e R s m args below meth c Q D B cA nL cells slots S I lv (.int xa1 :: .ref (B + 491) :: st) pc :=
  zc_VqI C (ci := 12) (q := (RX12, TX12, 82)) (k := 491) (fs := [none, some (some 492), some (some 493), none, some (some 494), none, some (some 495), none, none, none, some (some 496), some (some 497), some (some 498), some (some 499), some (some 500), none, some (some 501), some (some 502), some (some 503), none, some (some 504), some (some 505), some (some 506), some (some 507), some (some 508), none, some (some 509), some (some 510), some (some 511), some (some 512), some (some 513), some (some 514), some (some 515), some (some 516), some (some 517), some (some 518), none, none, some (some 519), none, some (some 520), none, none, none, some (some 521), some (some 522), some (some 523), some (some 524), some (some 525), some (some 526), some (some 527), none, some (some 528), none, some (some 529), none, some (some 530), some (some 531), some (some 532), none, some (some 533), some (some 534), some (some 535), some (some 536), some (some 537), none, none, none, some (some 538), some (some 539), some (some 540), none, none, none, some (some 541), none, none, some (some 542), some (some 543), some (some 544), none, some (some 545)]) (As := [.int xa1]) (st := st) rfl (hS _ _ zs_491) (c_M_swap hS h) (zgV zk_ml_L_43 zk_im_yX12_swap zk_se_yX12_swap zk_in_12 zk_cd_yX12_swap) zsg_yX12_swap hR rfl rfl hw hd hf kk
theorem zv_L_44t {p : Program} {l : Launch} {e : Env} {R : Room} {s : State} {m : MethodId} {args : Array Value} {below : List Frame} {meth : Method} {c : Code} {Q : State → Prop} {D : va_G} {B : Nat} {cA : Nat → ClassId} {ad : Nat → Nat} {cc : ByteArray} {nL : Nat} {ret : Option FieldType} {S : List zC} {I : zI} {lv : List (Nat × Value)} {st : List Value} {pc cells slots : Nat} (C : zCx p s m args meth c cc nL RL ret D B cA ad) {K : Int32 → zI → Prop}  (hS : zOkX S)  (h : w_Desk_undo I K) (hR : 6 + 1 ≤ R.frames ∧ 8 + (1 + 11) + (141) ≤ R.locals) (hw : (st.map fun v => v.category).sum ≤ 8) (hd : decode cc pc = .ok (.invokevirtual 44, 3)) (hf : cells ≤ R.cells ∧ slots ≤ R.slots) (kk : ∀ v I2, K v I2 → zX p l e R s m args below meth c Q D B cA nL cells slots S I2 lv (.int v :: st) (pc + 3)) : zX p l e R s m args below meth c Q D B cA nL cells slots S I lv (.ref (B + 0) :: st) pc :=
  zc_VqI C (ci := 11) (q := (RX11, TX11, 19)) (k := 0) (fs := [some (some 1), none, some (some 3), some (some 4), none, none, none, none, some (some 22), some (some 24), some (some 43), some (some 64), some (some 69), some (some 88), some (some 97), some (some 100), some (some 109), some (some 111), none]) (As := []) (st := st) rfl (hS _ _ zs_0) (c_Desk_undo hS h) (zgV zk_ml_L_44 zk_im_yX11_undo zk_se_yX11_undo zk_in_11 zk_cd_yX11_undo) zsg_yX11_undo hR rfl rfl hw hd hf kk
theorem zv_L_48t {p : Program} {l : Launch} {e : Env} {R : Room} {s : State} {m : MethodId} {args : Array Value} {below : List Frame} {meth : Method} {c : Code} {Q : State → Prop} {D : va_G} {B : Nat} {cA : Nat → ClassId} {ad : Nat → Nat} {cc : ByteArray} {nL : Nat} {ret : Option FieldType} {S : List zC} {I : zI} {lv : List (Nat × Value)} {st : List Value} {pc cells slots : Nat} (C : zCx p s m args meth c cc nL RL ret D B cA ad) {K : Int32 → zI → Prop}  (hS : zOkM S)  (h : w_M_undo I K) (hR : 4 + 1 ≤ R.frames ∧ 8 + (1 + 11) + (94) ≤ R.locals) (hw : (st.map fun v => v.category).sum ≤ 8) (hd : decode cc pc = .ok (.invokevirtual 48, 3)) (hf : cells ≤ R.cells ∧ slots ≤ R.slots) (kk : ∀ v I2, K v I2 → zX p l e R s m args below meth c Q D B cA nL cells slots S I2 lv (.int v :: st) (pc + 3)) : zX p l e R s m args below meth c Q D B cA nL cells slots S I lv (.ref (B + 491) :: st) pc :=
  zc_VqI C (ci := 12) (q := (RX12, TX12, 82)) (k := 491) (fs := [none, some (some 492), some (some 493), none, some (some 494), none, some (some 495), none, none, none, some (some 496), some (some 497), some (some 498), some (some 499), some (some 500), none, some (some 501), some (some 502), some (some 503), none, some (some 504), some (some 505), some (some 506), some (some 507), some (some 508), none, some (some 509), some (some 510), some (some 511), some (some 512), some (some 513), some (some 514), some (some 515), some (some 516), some (some 517), some (some 518), none, none, some (some 519), none, some (some 520), none, none, none, some (some 521), some (some 522), some (some 523), some (some 524), some (some 525), some (some 526), some (some 527), none, some (some 528), none, some (some 529), none, some (some 530), some (some 531), some (some 532), none, some (some 533), some (some 534), some (some 535), some (some 536), some (some 537), none, none, none, some (some 538), some (some 539), some (some 540), none, none, none, some (some 541), none, none, some (some 542), some (some 543), some (some 544), none, some (some 545)]) (As := []) (st := st) rfl (hS _ _ zs_491) (c_M_undo hS h) (zgV zk_ml_L_48 zk_im_yX12_undo zk_se_yX12_undo zk_in_12 zk_cd_yX12_undo) zsg_yX12_undo hR rfl rfl hw hd hf kk
theorem zv_L_49t {p : Program} {l : Launch} {e : Env} {R : Room} {s : State} {m : MethodId} {args : Array Value} {below : List Frame} {meth : Method} {c : Code} {Q : State → Prop} {D : va_G} {B : Nat} {cA : Nat → ClassId} {ad : Nat → Nat} {cc : ByteArray} {nL : Nat} {ret : Option FieldType} {S : List zC} {I : zI} {lv : List (Nat × Value)} {st : List Value} {pc cells slots : Nat} (C : zCx p s m args meth c cc nL RL ret D B cA ad) {K : Int32 → zI → Prop}  (hS : zOkX S)  (h : w_Desk_redo I K) (hR : 6 + 1 ≤ R.frames ∧ 8 + (1 + 11) + (141) ≤ R.locals) (hw : (st.map fun v => v.category).sum ≤ 8) (hd : decode cc pc = .ok (.invokevirtual 49, 3)) (hf : cells ≤ R.cells ∧ slots ≤ R.slots) (kk : ∀ v I2, K v I2 → zX p l e R s m args below meth c Q D B cA nL cells slots S I2 lv (.int v :: st) (pc + 3)) : zX p l e R s m args below meth c Q D B cA nL cells slots S I lv (.ref (B + 0) :: st) pc :=
  zc_VqI C (ci := 11) (q := (RX11, TX11, 19)) (k := 0) (fs := [some (some 1), none, some (some 3), some (some 4), none, none, none, none, some (some 22), some (some 24), some (some 43), some (some 64), some (some 69), some (some 88), some (some 97), some (some 100), some (some 109), some (some 111), none]) (As := []) (st := st) rfl (hS _ _ zs_0) (c_Desk_redo hS h) (zgV zk_ml_L_49 zk_im_yX11_redo zk_se_yX11_redo zk_in_11 zk_cd_yX11_redo) zsg_yX11_redo hR rfl rfl hw hd hf kk
theorem zv_L_52t {p : Program} {l : Launch} {e : Env} {R : Room} {s : State} {m : MethodId} {args : Array Value} {below : List Frame} {meth : Method} {c : Code} {Q : State → Prop} {D : va_G} {B : Nat} {cA : Nat → ClassId} {ad : Nat → Nat} {cc : ByteArray} {nL : Nat} {ret : Option FieldType} {S : List zC} {I : zI} {lv : List (Nat × Value)} {st : List Value} {pc cells slots : Nat} (C : zCx p s m args meth c cc nL RL ret D B cA ad) {K : Int32 → zI → Prop}  (hS : zOkM S)  (h : w_M_redo I K) (hR : 4 + 1 ≤ R.frames ∧ 8 + (1 + 11) + (94) ≤ R.locals) (hw : (st.map fun v => v.category).sum ≤ 8) (hd : decode cc pc = .ok (.invokevirtual 52, 3)) (hf : cells ≤ R.cells ∧ slots ≤ R.slots) (kk : ∀ v I2, K v I2 → zX p l e R s m args below meth c Q D B cA nL cells slots S I2 lv (.int v :: st) (pc + 3)) : zX p l e R s m args below meth c Q D B cA nL cells slots S I lv (.ref (B + 491) :: st) pc :=
  zc_VqI C (ci := 12) (q := (RX12, TX12, 82)) (k := 491) (fs := [none, some (some 492), some (some 493), none, some (some 494), none, some (some 495), none, none, none, some (some 496), some (some 497), some (some 498), some (some 499), some (some 500), none, some (some 501), some (some 502), some (some 503), none, some (some 504), some (some 505), some (some 506), some (some 507), some (some 508), none, some (some 509), some (some 510), some (some 511), some (some 512), some (some 513), some (some 514), some (some 515), some (some 516), some (some 517), some (some 518), none, none, some (some 519), none, some (some 520), none, none, none, some (some 521), some (some 522), some (some 523), some (some 524), some (some 525), some (some 526), some (some 527), none, some (some 528), none, some (some 529), none, some (some 530), some (some 531), some (some 532), none, some (some 533), some (some 534), some (some 535), some (some 536), some (some 537), none, none, none, some (some 538), some (some 539), some (some 540), none, none, none, some (some 541), none, none, some (some 542), some (some 543), some (some 544), none, some (some 545)]) (As := []) (st := st) rfl (hS _ _ zs_491) (c_M_redo hS h) (zgV zk_ml_L_52 zk_im_yX12_redo zk_se_yX12_redo zk_in_12 zk_cd_yX12_redo) zsg_yX12_redo hR rfl rfl hw hd hf kk
theorem zv_L_53t {p : Program} {l : Launch} {e : Env} {R : Room} {s : State} {m : MethodId} {args : Array Value} {below : List Frame} {meth : Method} {c : Code} {Q : State → Prop} {D : va_G} {B : Nat} {cA : Nat → ClassId} {ad : Nat → Nat} {cc : ByteArray} {nL : Nat} {ret : Option FieldType} {S : List zC} {I : zI} {lv : List (Nat × Value)} {st : List Value} {pc cells slots : Nat} (C : zCx p s m args meth c cc nL RL ret D B cA ad) {K : Int32 → Prop} {xa1 : Int32} (hS : zOkX S)  (h : w_Desk_text xa1 I K) (hR : 1 + 1 ≤ R.frames ∧ 8 + (3 + 11) + (21) ≤ R.locals) (hw : (st.map fun v => v.category).sum ≤ 8) (hd : decode cc pc = .ok (.invokevirtual 53, 3)) (hf : cells ≤ R.cells ∧ slots ≤ R.slots) (kk : ∀ v, K v → zX p l e R s m args below meth c Q D B cA nL cells slots S I lv (.int v :: st) (pc + 3)) : zX p l e R s m args below meth c Q D B cA nL cells slots S I lv (.int xa1 :: .ref (B + 0) :: st) pc :=
  zc_VpI C (ci := 11) (q := (RX11, TX11, 19)) (k := 0) (fs := [some (some 1), none, some (some 3), some (some 4), none, none, none, none, some (some 22), some (some 24), some (some 43), some (some 64), some (some 69), some (some 88), some (some 97), some (some 100), some (some 109), some (some 111), none]) (As := [.int xa1]) (st := st) rfl (hS _ _ zs_0) (c_Desk_text hS h) (zgV zk_ml_L_53 zk_im_yX11_text zk_se_yX11_text zk_in_11 zk_cd_yX11_text) zsg_yX11_text hR rfl rfl hw hd hf kk
theorem zv_L_56t {p : Program} {l : Launch} {e : Env} {R : Room} {s : State} {m : MethodId} {args : Array Value} {below : List Frame} {meth : Method} {c : Code} {Q : State → Prop} {D : va_G} {B : Nat} {cA : Nat → ClassId} {ad : Nat → Nat} {cc : ByteArray} {nL : Nat} {ret : Option FieldType} {S : List zC} {I : zI} {lv : List (Nat × Value)} {st : List Value} {pc cells slots : Nat} (C : zCx p s m args meth c cc nL RL ret D B cA ad) {K : Int32 → Prop} {xa1 : Int32} (hS : zOkM S)  (h : w_M_text xa1 I K) (hR : 1 + 1 ≤ R.frames ∧ 8 + (2 + 11) + (22) ≤ R.locals) (hw : (st.map fun v => v.category).sum ≤ 8) (hd : decode cc pc = .ok (.invokevirtual 56, 3)) (hf : cells ≤ R.cells ∧ slots ≤ R.slots) (kk : ∀ v, K v → zX p l e R s m args below meth c Q D B cA nL cells slots S I lv (.int v :: st) (pc + 3)) : zX p l e R s m args below meth c Q D B cA nL cells slots S I lv (.int xa1 :: .ref (B + 491) :: st) pc :=
  zc_VpI C (ci := 12) (q := (RX12, TX12, 82)) (k := 491) (fs := [none, some (some 492), some (some 493), none, some (some 494), none, some (some 495), none, none, none, some (some 496), some (some 497), some (some 498), some (some 499), some (some 500), none, some (some 501), some (some 502), some (some 503), none, some (some 504), some (some 505), some (some 506), some (some 507), some (some 508), none, some (some 509), some (some 510), some (some 511), some (some 512), some (some 513), some (some 514), some (some 515), some (some 516), some (some 517), some (some 518), none, none, some (some 519), none, some (some 520), none, none, none, some (some 521), some (some 522), some (some 523), some (some 524), some (some 525), some (some 526), some (some 527), none, some (some 528), none, some (some 529), none, some (some 530), some (some 531), some (some 532), none, some (some 533), some (some 534), some (some 535), some (some 536), some (some 537), none, none, none, some (some 538), some (some 539), some (some 540), none, none, none, some (some 541), none, none, some (some 542), some (some 543), some (some 544), none, some (some 545)]) (As := [.int xa1]) (st := st) rfl (hS _ _ zs_491) (c_M_text hS h) (zgV zk_ml_L_56 zk_im_yX12_text zk_se_yX12_text zk_in_12 zk_cd_yX12_text) zsg_yX12_text hR rfl rfl hw hd hf kk
theorem zv_L_57t {p : Program} {l : Launch} {e : Env} {R : Room} {s : State} {m : MethodId} {args : Array Value} {below : List Frame} {meth : Method} {c : Code} {Q : State → Prop} {D : va_G} {B : Nat} {cA : Nat → ClassId} {ad : Nat → Nat} {cc : ByteArray} {nL : Nat} {ret : Option FieldType} {S : List zC} {I : zI} {lv : List (Nat × Value)} {st : List Value} {pc cells slots : Nat} (C : zCx p s m args meth c cc nL RL ret D B cA ad) {K : Int32 → Prop} {xa1 : Int32} {xa2 : Int32} (hS : zOkX S)  (h : w_Desk_token xa1 xa2 I K) (hR : 1 + 1 ≤ R.frames ∧ 8 + (4 + 11) + (21) ≤ R.locals) (hw : (st.map fun v => v.category).sum ≤ 8) (hd : decode cc pc = .ok (.invokevirtual 57, 3)) (hf : cells ≤ R.cells ∧ slots ≤ R.slots) (kk : ∀ v, K v → zX p l e R s m args below meth c Q D B cA nL cells slots S I lv (.int v :: st) (pc + 3)) : zX p l e R s m args below meth c Q D B cA nL cells slots S I lv (.int xa2 :: .int xa1 :: .ref (B + 0) :: st) pc :=
  zc_VpI C (ci := 11) (q := (RX11, TX11, 19)) (k := 0) (fs := [some (some 1), none, some (some 3), some (some 4), none, none, none, none, some (some 22), some (some 24), some (some 43), some (some 64), some (some 69), some (some 88), some (some 97), some (some 100), some (some 109), some (some 111), none]) (As := [.int xa1, .int xa2]) (st := st) rfl (hS _ _ zs_0) (c_Desk_token hS h) (zgV zk_ml_L_57 zk_im_yX11_token zk_se_yX11_token zk_in_11 zk_cd_yX11_token) zsg_yX11_token hR rfl rfl hw hd hf kk
theorem zv_L_60t {p : Program} {l : Launch} {e : Env} {R : Room} {s : State} {m : MethodId} {args : Array Value} {below : List Frame} {meth : Method} {c : Code} {Q : State → Prop} {D : va_G} {B : Nat} {cA : Nat → ClassId} {ad : Nat → Nat} {cc : ByteArray} {nL : Nat} {ret : Option FieldType} {S : List zC} {I : zI} {lv : List (Nat × Value)} {st : List Value} {pc cells slots : Nat} (C : zCx p s m args meth c cc nL RL ret D B cA ad) {K : Int32 → Prop} {xa1 : Int32} {xa2 : Int32} (hS : zOkM S)  (h : w_M_token xa1 xa2 I K) (hR : 1 + 1 ≤ R.frames ∧ 8 + (3 + 11) + (22) ≤ R.locals) (hw : (st.map fun v => v.category).sum ≤ 8) (hd : decode cc pc = .ok (.invokevirtual 60, 3)) (hf : cells ≤ R.cells ∧ slots ≤ R.slots) (kk : ∀ v, K v → zX p l e R s m args below meth c Q D B cA nL cells slots S I lv (.int v :: st) (pc + 3)) : zX p l e R s m args below meth c Q D B cA nL cells slots S I lv (.int xa2 :: .int xa1 :: .ref (B + 491) :: st) pc :=
  zc_VpI C (ci := 12) (q := (RX12, TX12, 82)) (k := 491) (fs := [none, some (some 492), some (some 493), none, some (some 494), none, some (some 495), none, none, none, some (some 496), some (some 497), some (some 498), some (some 499), some (some 500), none, some (some 501), some (some 502), some (some 503), none, some (some 504), some (some 505), some (some 506), some (some 507), some (some 508), none, some (some 509), some (some 510), some (some 511), some (some 512), some (some 513), some (some 514), some (some 515), some (some 516), some (some 517), some (some 518), none, none, some (some 519), none, some (some 520), none, none, none, some (some 521), some (some 522), some (some 523), some (some 524), some (some 525), some (some 526), some (some 527), none, some (some 528), none, some (some 529), none, some (some 530), some (some 531), some (some 532), none, some (some 533), some (some 534), some (some 535), some (some 536), some (some 537), none, none, none, some (some 538), some (some 539), some (some 540), none, none, none, some (some 541), none, none, some (some 542), some (some 543), some (some 544), none, some (some 545)]) (As := [.int xa1, .int xa2]) (st := st) rfl (hS _ _ zs_491) (c_M_token hS h) (zgV zk_ml_L_60 zk_im_yX12_token zk_se_yX12_token zk_in_12 zk_cd_yX12_token) zsg_yX12_token hR rfl rfl hw hd hf kk
theorem zv_L_61t {p : Program} {l : Launch} {e : Env} {R : Room} {s : State} {m : MethodId} {args : Array Value} {below : List Frame} {meth : Method} {c : Code} {Q : State → Prop} {D : va_G} {B : Nat} {cA : Nat → ClassId} {ad : Nat → Nat} {cc : ByteArray} {nL : Nat} {ret : Option FieldType} {S : List zC} {I : zI} {lv : List (Nat × Value)} {st : List Value} {pc cells slots : Nat} (C : zCx p s m args meth c cc nL RL ret D B cA ad) {K : Int32 → Prop} {xa1 : Int32} (hS : zOkX S)  (h : w_Desk_good xa1 I K) (hR : 1 + 1 ≤ R.frames ∧ 8 + (3 + 11) + (21) ≤ R.locals) (hw : (st.map fun v => v.category).sum ≤ 8) (hd : decode cc pc = .ok (.invokevirtual 61, 3)) (hf : cells ≤ R.cells ∧ slots ≤ R.slots) (kk : ∀ v, K v → zX p l e R s m args below meth c Q D B cA nL cells slots S I lv (.int v :: st) (pc + 3)) : zX p l e R s m args below meth c Q D B cA nL cells slots S I lv (.int xa1 :: .ref (B + 0) :: st) pc :=
  zc_VpI C (ci := 11) (q := (RX11, TX11, 19)) (k := 0) (fs := [some (some 1), none, some (some 3), some (some 4), none, none, none, none, some (some 22), some (some 24), some (some 43), some (some 64), some (some 69), some (some 88), some (some 97), some (some 100), some (some 109), some (some 111), none]) (As := [.int xa1]) (st := st) rfl (hS _ _ zs_0) (c_Desk_good hS h) (zgV zk_ml_L_61 zk_im_yX11_good zk_se_yX11_good zk_in_11 zk_cd_yX11_good) zsg_yX11_good hR rfl rfl hw hd hf kk
theorem zv_L_64t {p : Program} {l : Launch} {e : Env} {R : Room} {s : State} {m : MethodId} {args : Array Value} {below : List Frame} {meth : Method} {c : Code} {Q : State → Prop} {D : va_G} {B : Nat} {cA : Nat → ClassId} {ad : Nat → Nat} {cc : ByteArray} {nL : Nat} {ret : Option FieldType} {S : List zC} {I : zI} {lv : List (Nat × Value)} {st : List Value} {pc cells slots : Nat} (C : zCx p s m args meth c cc nL RL ret D B cA ad) {K : Int32 → Prop} {xa1 : Int32} (hS : zOkM S)  (h : w_M_good xa1 I K) (hR : 2 + 1 ≤ R.frames ∧ 8 + (2 + 11) + (43) ≤ R.locals) (hw : (st.map fun v => v.category).sum ≤ 8) (hd : decode cc pc = .ok (.invokevirtual 64, 3)) (hf : cells ≤ R.cells ∧ slots ≤ R.slots) (kk : ∀ v, K v → zX p l e R s m args below meth c Q D B cA nL cells slots S I lv (.int v :: st) (pc + 3)) : zX p l e R s m args below meth c Q D B cA nL cells slots S I lv (.int xa1 :: .ref (B + 491) :: st) pc :=
  zc_VpI C (ci := 12) (q := (RX12, TX12, 82)) (k := 491) (fs := [none, some (some 492), some (some 493), none, some (some 494), none, some (some 495), none, none, none, some (some 496), some (some 497), some (some 498), some (some 499), some (some 500), none, some (some 501), some (some 502), some (some 503), none, some (some 504), some (some 505), some (some 506), some (some 507), some (some 508), none, some (some 509), some (some 510), some (some 511), some (some 512), some (some 513), some (some 514), some (some 515), some (some 516), some (some 517), some (some 518), none, none, some (some 519), none, some (some 520), none, none, none, some (some 521), some (some 522), some (some 523), some (some 524), some (some 525), some (some 526), some (some 527), none, some (some 528), none, some (some 529), none, some (some 530), some (some 531), some (some 532), none, some (some 533), some (some 534), some (some 535), some (some 536), some (some 537), none, none, none, some (some 538), some (some 539), some (some 540), none, none, none, some (some 541), none, none, some (some 542), some (some 543), some (some 544), none, some (some 545)]) (As := [.int xa1]) (st := st) rfl (hS _ _ zs_491) (c_M_good hS h) (zgV zk_ml_L_64 zk_im_yX12_good zk_se_yX12_good zk_in_12 zk_cd_yX12_good) zsg_yX12_good hR rfl rfl hw hd hf kk
theorem zv_L_65t {p : Program} {l : Launch} {e : Env} {R : Room} {s : State} {m : MethodId} {args : Array Value} {below : List Frame} {meth : Method} {c : Code} {Q : State → Prop} {D : va_G} {B : Nat} {cA : Nat → ClassId} {ad : Nat → Nat} {cc : ByteArray} {nL : Nat} {ret : Option FieldType} {S : List zC} {I : zI} {lv : List (Nat × Value)} {st : List Value} {pc cells slots : Nat} (C : zCx p s m args meth c cc nL RL ret D B cA ad) {K : Int32 → Prop} {xa1 : Int32} {xa2 : Int32} (hS : zOkX S)  (h : w_Desk_node xa1 xa2 I K) (hR : 3 + 1 ≤ R.frames ∧ 8 + (3 + 11) + (64) ≤ R.locals) (hw : (st.map fun v => v.category).sum ≤ 8) (hd : decode cc pc = .ok (.invokevirtual 65, 3)) (hf : cells ≤ R.cells ∧ slots ≤ R.slots) (kk : ∀ v, K v → zX p l e R s m args below meth c Q D B cA nL cells slots S I lv (.int v :: st) (pc + 3)) : zX p l e R s m args below meth c Q D B cA nL cells slots S I lv (.int xa2 :: .int xa1 :: .ref (B + 0) :: st) pc :=
  zc_VpI C (ci := 11) (q := (RX11, TX11, 19)) (k := 0) (fs := [some (some 1), none, some (some 3), some (some 4), none, none, none, none, some (some 22), some (some 24), some (some 43), some (some 64), some (some 69), some (some 88), some (some 97), some (some 100), some (some 109), some (some 111), none]) (As := [.int xa1, .int xa2]) (st := st) rfl (hS _ _ zs_0) (c_Desk_node hS h) (zgV zk_ml_L_65 zk_im_yX11_node zk_se_yX11_node zk_in_11 zk_cd_yX11_node) zsg_yX11_node hR rfl rfl hw hd hf kk
theorem zv_L_68t {p : Program} {l : Launch} {e : Env} {R : Room} {s : State} {m : MethodId} {args : Array Value} {below : List Frame} {meth : Method} {c : Code} {Q : State → Prop} {D : va_G} {B : Nat} {cA : Nat → ClassId} {ad : Nat → Nat} {cc : ByteArray} {nL : Nat} {ret : Option FieldType} {S : List zC} {I : zI} {lv : List (Nat × Value)} {st : List Value} {pc cells slots : Nat} (C : zCx p s m args meth c cc nL RL ret D B cA ad) {K : Int32 → Prop} {xa1 : Int32} {xa2 : Int32} (hS : zOkM S)  (h : w_M_node xa1 xa2 I K) (hR : 1 + 1 ≤ R.frames ∧ 8 + (4 + 11) + (22) ≤ R.locals) (hw : (st.map fun v => v.category).sum ≤ 8) (hd : decode cc pc = .ok (.invokevirtual 68, 3)) (hf : cells ≤ R.cells ∧ slots ≤ R.slots) (kk : ∀ v, K v → zX p l e R s m args below meth c Q D B cA nL cells slots S I lv (.int v :: st) (pc + 3)) : zX p l e R s m args below meth c Q D B cA nL cells slots S I lv (.int xa2 :: .int xa1 :: .ref (B + 491) :: st) pc :=
  zc_VpI C (ci := 12) (q := (RX12, TX12, 82)) (k := 491) (fs := [none, some (some 492), some (some 493), none, some (some 494), none, some (some 495), none, none, none, some (some 496), some (some 497), some (some 498), some (some 499), some (some 500), none, some (some 501), some (some 502), some (some 503), none, some (some 504), some (some 505), some (some 506), some (some 507), some (some 508), none, some (some 509), some (some 510), some (some 511), some (some 512), some (some 513), some (some 514), some (some 515), some (some 516), some (some 517), some (some 518), none, none, some (some 519), none, some (some 520), none, none, none, some (some 521), some (some 522), some (some 523), some (some 524), some (some 525), some (some 526), some (some 527), none, some (some 528), none, some (some 529), none, some (some 530), some (some 531), some (some 532), none, some (some 533), some (some 534), some (some 535), some (some 536), some (some 537), none, none, none, some (some 538), some (some 539), some (some 540), none, none, none, some (some 541), none, none, some (some 542), some (some 543), some (some 544), none, some (some 545)]) (As := [.int xa1, .int xa2]) (st := st) rfl (hS _ _ zs_491) (c_M_node hS h) (zgV zk_ml_L_68 zk_im_yX12_node zk_se_yX12_node zk_in_12 zk_cd_yX12_node) zsg_yX12_node hR rfl rfl hw hd hf kk
theorem zv_L_69t {p : Program} {l : Launch} {e : Env} {R : Room} {s : State} {m : MethodId} {args : Array Value} {below : List Frame} {meth : Method} {c : Code} {Q : State → Prop} {D : va_G} {B : Nat} {cA : Nat → ClassId} {ad : Nat → Nat} {cc : ByteArray} {nL : Nat} {ret : Option FieldType} {S : List zC} {I : zI} {lv : List (Nat × Value)} {st : List Value} {pc cells slots : Nat} (C : zCx p s m args meth c cc nL RL ret D B cA ad) {K : Int32 → Prop} {xa1 : Int32} {xa2 : Int32} (hS : zOkX S)  (h : w_Desk_child xa1 xa2 I K) (hR : 2 + 1 ≤ R.frames ∧ 8 + (3 + 11) + (43) ≤ R.locals) (hw : (st.map fun v => v.category).sum ≤ 8) (hd : decode cc pc = .ok (.invokevirtual 69, 3)) (hf : cells ≤ R.cells ∧ slots ≤ R.slots) (kk : ∀ v, K v → zX p l e R s m args below meth c Q D B cA nL cells slots S I lv (.int v :: st) (pc + 3)) : zX p l e R s m args below meth c Q D B cA nL cells slots S I lv (.int xa2 :: .int xa1 :: .ref (B + 0) :: st) pc :=
  zc_VpI C (ci := 11) (q := (RX11, TX11, 19)) (k := 0) (fs := [some (some 1), none, some (some 3), some (some 4), none, none, none, none, some (some 22), some (some 24), some (some 43), some (some 64), some (some 69), some (some 88), some (some 97), some (some 100), some (some 109), some (some 111), none]) (As := [.int xa1, .int xa2]) (st := st) rfl (hS _ _ zs_0) (c_Desk_child hS h) (zgV zk_ml_L_69 zk_im_yX11_child zk_se_yX11_child zk_in_11 zk_cd_yX11_child) zsg_yX11_child hR rfl rfl hw hd hf kk
theorem zv_L_72t {p : Program} {l : Launch} {e : Env} {R : Room} {s : State} {m : MethodId} {args : Array Value} {below : List Frame} {meth : Method} {c : Code} {Q : State → Prop} {D : va_G} {B : Nat} {cA : Nat → ClassId} {ad : Nat → Nat} {cc : ByteArray} {nL : Nat} {ret : Option FieldType} {S : List zC} {I : zI} {lv : List (Nat × Value)} {st : List Value} {pc cells slots : Nat} (C : zCx p s m args meth c cc nL RL ret D B cA ad) {K : Int32 → Prop} {xa1 : Int32} {xa2 : Int32} (hS : zOkM S)  (h : w_M_child xa1 xa2 I K) (hR : 1 + 1 ≤ R.frames ∧ 8 + (3 + 11) + (22) ≤ R.locals) (hw : (st.map fun v => v.category).sum ≤ 8) (hd : decode cc pc = .ok (.invokevirtual 72, 3)) (hf : cells ≤ R.cells ∧ slots ≤ R.slots) (kk : ∀ v, K v → zX p l e R s m args below meth c Q D B cA nL cells slots S I lv (.int v :: st) (pc + 3)) : zX p l e R s m args below meth c Q D B cA nL cells slots S I lv (.int xa2 :: .int xa1 :: .ref (B + 491) :: st) pc :=
  zc_VpI C (ci := 12) (q := (RX12, TX12, 82)) (k := 491) (fs := [none, some (some 492), some (some 493), none, some (some 494), none, some (some 495), none, none, none, some (some 496), some (some 497), some (some 498), some (some 499), some (some 500), none, some (some 501), some (some 502), some (some 503), none, some (some 504), some (some 505), some (some 506), some (some 507), some (some 508), none, some (some 509), some (some 510), some (some 511), some (some 512), some (some 513), some (some 514), some (some 515), some (some 516), some (some 517), some (some 518), none, none, some (some 519), none, some (some 520), none, none, none, some (some 521), some (some 522), some (some 523), some (some 524), some (some 525), some (some 526), some (some 527), none, some (some 528), none, some (some 529), none, some (some 530), some (some 531), some (some 532), none, some (some 533), some (some 534), some (some 535), some (some 536), some (some 537), none, none, none, some (some 538), some (some 539), some (some 540), none, none, none, some (some 541), none, none, some (some 542), some (some 543), some (some 544), none, some (some 545)]) (As := [.int xa1, .int xa2]) (st := st) rfl (hS _ _ zs_491) (c_M_child hS h) (zgV zk_ml_L_72 zk_im_yX12_child zk_se_yX12_child zk_in_12 zk_cd_yX12_child) zsg_yX12_child hR rfl rfl hw hd hf kk
theorem zv_L_73t {p : Program} {l : Launch} {e : Env} {R : Room} {s : State} {m : MethodId} {args : Array Value} {below : List Frame} {meth : Method} {c : Code} {Q : State → Prop} {D : va_G} {B : Nat} {cA : Nat → ClassId} {ad : Nat → Nat} {cc : ByteArray} {nL : Nat} {ret : Option FieldType} {S : List zC} {I : zI} {lv : List (Nat × Value)} {st : List Value} {pc cells slots : Nat} (C : zCx p s m args meth c cc nL RL ret D B cA ad) {K : Int32 → Prop} {xa1 : Int32} (hS : zOkX S)  (h : w_Desk_last xa1 I K) (hR : 1 + 1 ≤ R.frames ∧ 8 + (2 + 11) + (21) ≤ R.locals) (hw : (st.map fun v => v.category).sum ≤ 8) (hd : decode cc pc = .ok (.invokevirtual 73, 3)) (hf : cells ≤ R.cells ∧ slots ≤ R.slots) (kk : ∀ v, K v → zX p l e R s m args below meth c Q D B cA nL cells slots S I lv (.int v :: st) (pc + 3)) : zX p l e R s m args below meth c Q D B cA nL cells slots S I lv (.int xa1 :: .ref (B + 0) :: st) pc :=
  zc_VpI C (ci := 11) (q := (RX11, TX11, 19)) (k := 0) (fs := [some (some 1), none, some (some 3), some (some 4), none, none, none, none, some (some 22), some (some 24), some (some 43), some (some 64), some (some 69), some (some 88), some (some 97), some (some 100), some (some 109), some (some 111), none]) (As := [.int xa1]) (st := st) rfl (hS _ _ zs_0) (c_Desk_last hS h) (zgV zk_ml_L_73 zk_im_yX11_last zk_se_yX11_last zk_in_11 zk_cd_yX11_last) zsg_yX11_last hR rfl rfl hw hd hf kk
theorem zv_L_76t {p : Program} {l : Launch} {e : Env} {R : Room} {s : State} {m : MethodId} {args : Array Value} {below : List Frame} {meth : Method} {c : Code} {Q : State → Prop} {D : va_G} {B : Nat} {cA : Nat → ClassId} {ad : Nat → Nat} {cc : ByteArray} {nL : Nat} {ret : Option FieldType} {S : List zC} {I : zI} {lv : List (Nat × Value)} {st : List Value} {pc cells slots : Nat} (C : zCx p s m args meth c cc nL RL ret D B cA ad) {K : Int32 → Prop} {xa1 : Int32} (hS : zOkM S)  (h : w_M_last xa1 I K) (hR : 1 + 1 ≤ R.frames ∧ 8 + (2 + 11) + (22) ≤ R.locals) (hw : (st.map fun v => v.category).sum ≤ 8) (hd : decode cc pc = .ok (.invokevirtual 76, 3)) (hf : cells ≤ R.cells ∧ slots ≤ R.slots) (kk : ∀ v, K v → zX p l e R s m args below meth c Q D B cA nL cells slots S I lv (.int v :: st) (pc + 3)) : zX p l e R s m args below meth c Q D B cA nL cells slots S I lv (.int xa1 :: .ref (B + 491) :: st) pc :=
  zc_VpI C (ci := 12) (q := (RX12, TX12, 82)) (k := 491) (fs := [none, some (some 492), some (some 493), none, some (some 494), none, some (some 495), none, none, none, some (some 496), some (some 497), some (some 498), some (some 499), some (some 500), none, some (some 501), some (some 502), some (some 503), none, some (some 504), some (some 505), some (some 506), some (some 507), some (some 508), none, some (some 509), some (some 510), some (some 511), some (some 512), some (some 513), some (some 514), some (some 515), some (some 516), some (some 517), some (some 518), none, none, some (some 519), none, some (some 520), none, none, none, some (some 521), some (some 522), some (some 523), some (some 524), some (some 525), some (some 526), some (some 527), none, some (some 528), none, some (some 529), none, some (some 530), some (some 531), some (some 532), none, some (some 533), some (some 534), some (some 535), some (some 536), some (some 537), none, none, none, some (some 538), some (some 539), some (some 540), none, none, none, some (some 541), none, none, some (some 542), some (some 543), some (some 544), none, some (some 545)]) (As := [.int xa1]) (st := st) rfl (hS _ _ zs_491) (c_M_last hS h) (zgV zk_ml_L_76 zk_im_yX12_last zk_se_yX12_last zk_in_12 zk_cd_yX12_last) zsg_yX12_last hR rfl rfl hw hd hf kk
theorem zv_L_77t {p : Program} {l : Launch} {e : Env} {R : Room} {s : State} {m : MethodId} {args : Array Value} {below : List Frame} {meth : Method} {c : Code} {Q : State → Prop} {D : va_G} {B : Nat} {cA : Nat → ClassId} {ad : Nat → Nat} {cc : ByteArray} {nL : Nat} {ret : Option FieldType} {S : List zC} {I : zI} {lv : List (Nat × Value)} {st : List Value} {pc cells slots : Nat} (C : zCx p s m args meth c cc nL RL ret D B cA ad) {K : Int32 → Prop}  (hS : zOkX S)  (h : w_Desk_fresh I K) (hR : 0 + 1 ≤ R.frames ∧ 8 + (1 + 11) + (0) ≤ R.locals) (hw : (st.map fun v => v.category).sum ≤ 8) (hd : decode cc pc = .ok (.invokevirtual 77, 3)) (hf : cells ≤ R.cells ∧ slots ≤ R.slots) (kk : ∀ v, K v → zX p l e R s m args below meth c Q D B cA nL cells slots S I lv (.int v :: st) (pc + 3)) : zX p l e R s m args below meth c Q D B cA nL cells slots S I lv (.ref (B + 0) :: st) pc :=
  zc_VpI C (ci := 11) (q := (RX11, TX11, 19)) (k := 0) (fs := [some (some 1), none, some (some 3), some (some 4), none, none, none, none, some (some 22), some (some 24), some (some 43), some (some 64), some (some 69), some (some 88), some (some 97), some (some 100), some (some 109), some (some 111), none]) (As := []) (st := st) rfl (hS _ _ zs_0) (c_Desk_fresh hS h) (zgV zk_ml_L_77 zk_im_yX11_fresh zk_se_yX11_fresh zk_in_11 zk_cd_yX11_fresh) zsg_yX11_fresh hR rfl rfl hw hd hf kk
theorem zv_L_81t {p : Program} {l : Launch} {e : Env} {R : Room} {s : State} {m : MethodId} {args : Array Value} {below : List Frame} {meth : Method} {c : Code} {Q : State → Prop} {D : va_G} {B : Nat} {cA : Nat → ClassId} {ad : Nat → Nat} {cc : ByteArray} {nL : Nat} {ret : Option FieldType} {S : List zC} {I : zI} {lv : List (Nat × Value)} {st : List Value} {pc cells slots : Nat} (C : zCx p s m args meth c cc nL RL ret D B cA ad) {K : Int32 → zI → Prop}  (hS : zOkM S)  (h : w_M_fresh I K) (hR : 3 + 1 ≤ R.frames ∧ 8 + (2 + 11) + (66) ≤ R.locals) (hw : (st.map fun v => v.category).sum ≤ 8) (hd : decode cc pc = .ok (.invokevirtual 81, 3)) (hf : cells ≤ R.cells ∧ slots ≤ R.slots) (kk : ∀ v I2, K v I2 → zX p l e R s m args below meth c Q D B cA nL cells slots S I2 lv (.int v :: st) (pc + 3)) : zX p l e R s m args below meth c Q D B cA nL cells slots S I lv (.ref (B + 491) :: st) pc :=
  zc_VqI C (ci := 12) (q := (RX12, TX12, 82)) (k := 491) (fs := [none, some (some 492), some (some 493), none, some (some 494), none, some (some 495), none, none, none, some (some 496), some (some 497), some (some 498), some (some 499), some (some 500), none, some (some 501), some (some 502), some (some 503), none, some (some 504), some (some 505), some (some 506), some (some 507), some (some 508), none, some (some 509), some (some 510), some (some 511), some (some 512), some (some 513), some (some 514), some (some 515), some (some 516), some (some 517), some (some 518), none, none, some (some 519), none, some (some 520), none, none, none, some (some 521), some (some 522), some (some 523), some (some 524), some (some 525), some (some 526), some (some 527), none, some (some 528), none, some (some 529), none, some (some 530), some (some 531), some (some 532), none, some (some 533), some (some 534), some (some 535), some (some 536), some (some 537), none, none, none, some (some 538), some (some 539), some (some 540), none, none, none, some (some 541), none, none, some (some 542), some (some 543), some (some 544), none, some (some 545)]) (As := []) (st := st) rfl (hS _ _ zs_491) (c_M_fresh hS h) (zgV zk_ml_L_81 zk_im_yX12_fresh zk_se_yX12_fresh zk_in_12 zk_cd_yX12_fresh) zsg_yX12_fresh hR rfl rfl hw hd hf kk
theorem zv_L_82t {p : Program} {l : Launch} {e : Env} {R : Room} {s : State} {m : MethodId} {args : Array Value} {below : List Frame} {meth : Method} {c : Code} {Q : State → Prop} {D : va_G} {B : Nat} {cA : Nat → ClassId} {ad : Nat → Nat} {cc : ByteArray} {nL : Nat} {ret : Option FieldType} {S : List zC} {I : zI} {lv : List (Nat × Value)} {st : List Value} {pc cells slots : Nat} (C : zCx p s m args meth c cc nL RL ret D B cA ad) {K : Int32 → zI → Prop} {xa1 : Int32} (hS : zOkX S)  (h : w_Desk_inTheWay xa1 I K) (hR : 5 + 1 ≤ R.frames ∧ 8 + (3 + 11) + (129) ≤ R.locals) (hw : (st.map fun v => v.category).sum ≤ 8) (hd : decode cc pc = .ok (.invokevirtual 82, 3)) (hf : cells ≤ R.cells ∧ slots ≤ R.slots) (kk : ∀ v I2, K v I2 → zX p l e R s m args below meth c Q D B cA nL cells slots S I2 lv (.int v :: st) (pc + 3)) : zX p l e R s m args below meth c Q D B cA nL cells slots S I lv (.int xa1 :: .ref (B + 0) :: st) pc :=
  zc_VqI C (ci := 11) (q := (RX11, TX11, 19)) (k := 0) (fs := [some (some 1), none, some (some 3), some (some 4), none, none, none, none, some (some 22), some (some 24), some (some 43), some (some 64), some (some 69), some (some 88), some (some 97), some (some 100), some (some 109), some (some 111), none]) (As := [.int xa1]) (st := st) rfl (hS _ _ zs_0) (c_Desk_inTheWay hS h) (zgV zk_ml_L_82 zk_im_yX11_inTheWay zk_se_yX11_inTheWay zk_in_11 zk_cd_yX11_inTheWay) zsg_yX11_inTheWay hR rfl rfl hw hd hf kk
theorem zv_L_85t {p : Program} {l : Launch} {e : Env} {R : Room} {s : State} {m : MethodId} {args : Array Value} {below : List Frame} {meth : Method} {c : Code} {Q : State → Prop} {D : va_G} {B : Nat} {cA : Nat → ClassId} {ad : Nat → Nat} {cc : ByteArray} {nL : Nat} {ret : Option FieldType} {S : List zC} {I : zI} {lv : List (Nat × Value)} {st : List Value} {pc cells slots : Nat} (C : zCx p s m args meth c cc nL RL ret D B cA ad) {K : Int32 → zI → Prop} {xa1 : Int32} (hS : zOkM S)  (h : w_M_inTheWay xa1 I K) (hR : 3 + 1 ≤ R.frames ∧ 8 + (4 + 11) + (66) ≤ R.locals) (hw : (st.map fun v => v.category).sum ≤ 8) (hd : decode cc pc = .ok (.invokevirtual 85, 3)) (hf : cells ≤ R.cells ∧ slots ≤ R.slots) (kk : ∀ v I2, K v I2 → zX p l e R s m args below meth c Q D B cA nL cells slots S I2 lv (.int v :: st) (pc + 3)) : zX p l e R s m args below meth c Q D B cA nL cells slots S I lv (.int xa1 :: .ref (B + 491) :: st) pc :=
  zc_VqI C (ci := 12) (q := (RX12, TX12, 82)) (k := 491) (fs := [none, some (some 492), some (some 493), none, some (some 494), none, some (some 495), none, none, none, some (some 496), some (some 497), some (some 498), some (some 499), some (some 500), none, some (some 501), some (some 502), some (some 503), none, some (some 504), some (some 505), some (some 506), some (some 507), some (some 508), none, some (some 509), some (some 510), some (some 511), some (some 512), some (some 513), some (some 514), some (some 515), some (some 516), some (some 517), some (some 518), none, none, some (some 519), none, some (some 520), none, none, none, some (some 521), some (some 522), some (some 523), some (some 524), some (some 525), some (some 526), some (some 527), none, some (some 528), none, some (some 529), none, some (some 530), some (some 531), some (some 532), none, some (some 533), some (some 534), some (some 535), some (some 536), some (some 537), none, none, none, some (some 538), some (some 539), some (some 540), none, none, none, some (some 541), none, none, some (some 542), some (some 543), some (some 544), none, some (some 545)]) (As := [.int xa1]) (st := st) rfl (hS _ _ zs_491) (c_M_inTheWay hS h) (zgV zk_ml_L_85 zk_im_yX12_inTheWay zk_se_yX12_inTheWay zk_in_12 zk_cd_yX12_inTheWay) zsg_yX12_inTheWay hR rfl rfl hw hd hf kk
theorem zv_L_86t {p : Program} {l : Launch} {e : Env} {R : Room} {s : State} {m : MethodId} {args : Array Value} {below : List Frame} {meth : Method} {c : Code} {Q : State → Prop} {D : va_G} {B : Nat} {cA : Nat → ClassId} {ad : Nat → Nat} {cc : ByteArray} {nL : Nat} {ret : Option FieldType} {S : List zC} {I : zI} {lv : List (Nat × Value)} {st : List Value} {pc cells slots : Nat} (C : zCx p s m args meth c cc nL RL ret D B cA ad) {K : Int32 → zI → Prop}  (hS : zOkX S)  (h : w_Desk_expected I K) (hR : 6 + 1 ≤ R.frames ∧ 8 + (2 + 11) + (149) ≤ R.locals) (hw : (st.map fun v => v.category).sum ≤ 8) (hd : decode cc pc = .ok (.invokevirtual 86, 3)) (hf : cells ≤ R.cells ∧ slots ≤ R.slots) (kk : ∀ v I2, K v I2 → zX p l e R s m args below meth c Q D B cA nL cells slots S I2 lv (.int v :: st) (pc + 3)) : zX p l e R s m args below meth c Q D B cA nL cells slots S I lv (.ref (B + 0) :: st) pc :=
  zc_VqI C (ci := 11) (q := (RX11, TX11, 19)) (k := 0) (fs := [some (some 1), none, some (some 3), some (some 4), none, none, none, none, some (some 22), some (some 24), some (some 43), some (some 64), some (some 69), some (some 88), some (some 97), some (some 100), some (some 109), some (some 111), none]) (As := []) (st := st) rfl (hS _ _ zs_0) (c_Desk_expected hS h) (zgV zk_ml_L_86 zk_im_yX11_expected zk_se_yX11_expected zk_in_11 zk_cd_yX11_expected) zsg_yX11_expected hR rfl rfl hw hd hf kk
theorem zv_L_89t {p : Program} {l : Launch} {e : Env} {R : Room} {s : State} {m : MethodId} {args : Array Value} {below : List Frame} {meth : Method} {c : Code} {Q : State → Prop} {D : va_G} {B : Nat} {cA : Nat → ClassId} {ad : Nat → Nat} {cc : ByteArray} {nL : Nat} {ret : Option FieldType} {S : List zC} {I : zI} {lv : List (Nat × Value)} {st : List Value} {pc cells slots : Nat} (C : zCx p s m args meth c cc nL RL ret D B cA ad) {K : Int32 → zI → Prop}  (hS : zOkM S)  (h : w_M_expected I K) (hR : 3 + 1 ≤ R.frames ∧ 8 + (5 + 11) + (66) ≤ R.locals) (hw : (st.map fun v => v.category).sum ≤ 8) (hd : decode cc pc = .ok (.invokevirtual 89, 3)) (hf : cells ≤ R.cells ∧ slots ≤ R.slots) (kk : ∀ v I2, K v I2 → zX p l e R s m args below meth c Q D B cA nL cells slots S I2 lv (.int v :: st) (pc + 3)) : zX p l e R s m args below meth c Q D B cA nL cells slots S I lv (.ref (B + 491) :: st) pc :=
  zc_VqI C (ci := 12) (q := (RX12, TX12, 82)) (k := 491) (fs := [none, some (some 492), some (some 493), none, some (some 494), none, some (some 495), none, none, none, some (some 496), some (some 497), some (some 498), some (some 499), some (some 500), none, some (some 501), some (some 502), some (some 503), none, some (some 504), some (some 505), some (some 506), some (some 507), some (some 508), none, some (some 509), some (some 510), some (some 511), some (some 512), some (some 513), some (some 514), some (some 515), some (some 516), some (some 517), some (some 518), none, none, some (some 519), none, some (some 520), none, none, none, some (some 521), some (some 522), some (some 523), some (some 524), some (some 525), some (some 526), some (some 527), none, some (some 528), none, some (some 529), none, some (some 530), some (some 531), some (some 532), none, some (some 533), some (some 534), some (some 535), some (some 536), some (some 537), none, none, none, some (some 538), some (some 539), some (some 540), none, none, none, some (some 541), none, none, some (some 542), some (some 543), some (some 544), none, some (some 545)]) (As := []) (st := st) rfl (hS _ _ zs_491) (c_M_expected hS h) (zgV zk_ml_L_89 zk_im_yX12_expected zk_se_yX12_expected zk_in_12 zk_cd_yX12_expected) zsg_yX12_expected hR rfl rfl hw hd hf kk
theorem zv_L_90t {p : Program} {l : Launch} {e : Env} {R : Room} {s : State} {m : MethodId} {args : Array Value} {below : List Frame} {meth : Method} {c : Code} {Q : State → Prop} {D : va_G} {B : Nat} {cA : Nat → ClassId} {ad : Nat → Nat} {cc : ByteArray} {nL : Nat} {ret : Option FieldType} {S : List zC} {I : zI} {lv : List (Nat × Value)} {st : List Value} {pc cells slots : Nat} (C : zCx p s m args meth c cc nL RL ret D B cA ad) {K : Int32 → zI → Prop} {xa1 : Int32} (hS : zOkX S)  (h : w_Desk_mend xa1 I K) (hR : 5 + 1 ≤ R.frames ∧ 8 + (3 + 11) + (128) ≤ R.locals) (hw : (st.map fun v => v.category).sum ≤ 8) (hd : decode cc pc = .ok (.invokevirtual 90, 3)) (hf : cells ≤ R.cells ∧ slots ≤ R.slots) (kk : ∀ v I2, K v I2 → zX p l e R s m args below meth c Q D B cA nL cells slots S I2 lv (.int v :: st) (pc + 3)) : zX p l e R s m args below meth c Q D B cA nL cells slots S I lv (.int xa1 :: .ref (B + 0) :: st) pc :=
  zc_VqI C (ci := 11) (q := (RX11, TX11, 19)) (k := 0) (fs := [some (some 1), none, some (some 3), some (some 4), none, none, none, none, some (some 22), some (some 24), some (some 43), some (some 64), some (some 69), some (some 88), some (some 97), some (some 100), some (some 109), some (some 111), none]) (As := [.int xa1]) (st := st) rfl (hS _ _ zs_0) (c_Desk_mend hS h) (zgV zk_ml_L_90 zk_im_yX11_mend zk_se_yX11_mend zk_in_11 zk_cd_yX11_mend) zsg_yX11_mend hR rfl rfl hw hd hf kk
theorem zv_L_93t {p : Program} {l : Launch} {e : Env} {R : Room} {s : State} {m : MethodId} {args : Array Value} {below : List Frame} {meth : Method} {c : Code} {Q : State → Prop} {D : va_G} {B : Nat} {cA : Nat → ClassId} {ad : Nat → Nat} {cc : ByteArray} {nL : Nat} {ret : Option FieldType} {S : List zC} {I : zI} {lv : List (Nat × Value)} {st : List Value} {pc cells slots : Nat} (C : zCx p s m args meth c cc nL RL ret D B cA ad) {K : Int32 → zI → Prop} {xa1 : Int32} (hS : zOkM S)  (h : w_M_mend xa1 I K) (hR : 3 + 1 ≤ R.frames ∧ 8 + (4 + 11) + (66) ≤ R.locals) (hw : (st.map fun v => v.category).sum ≤ 8) (hd : decode cc pc = .ok (.invokevirtual 93, 3)) (hf : cells ≤ R.cells ∧ slots ≤ R.slots) (kk : ∀ v I2, K v I2 → zX p l e R s m args below meth c Q D B cA nL cells slots S I2 lv (.int v :: st) (pc + 3)) : zX p l e R s m args below meth c Q D B cA nL cells slots S I lv (.int xa1 :: .ref (B + 491) :: st) pc :=
  zc_VqI C (ci := 12) (q := (RX12, TX12, 82)) (k := 491) (fs := [none, some (some 492), some (some 493), none, some (some 494), none, some (some 495), none, none, none, some (some 496), some (some 497), some (some 498), some (some 499), some (some 500), none, some (some 501), some (some 502), some (some 503), none, some (some 504), some (some 505), some (some 506), some (some 507), some (some 508), none, some (some 509), some (some 510), some (some 511), some (some 512), some (some 513), some (some 514), some (some 515), some (some 516), some (some 517), some (some 518), none, none, some (some 519), none, some (some 520), none, none, none, some (some 521), some (some 522), some (some 523), some (some 524), some (some 525), some (some 526), some (some 527), none, some (some 528), none, some (some 529), none, some (some 530), some (some 531), some (some 532), none, some (some 533), some (some 534), some (some 535), some (some 536), some (some 537), none, none, none, some (some 538), some (some 539), some (some 540), none, none, none, some (some 541), none, none, some (some 542), some (some 543), some (some 544), none, some (some 545)]) (As := [.int xa1]) (st := st) rfl (hS _ _ zs_491) (c_M_mend hS h) (zgV zk_ml_L_93 zk_im_yX12_mend zk_se_yX12_mend zk_in_12 zk_cd_yX12_mend) zsg_yX12_mend hR rfl rfl hw hd hf kk
theorem zv_L_94t {p : Program} {l : Launch} {e : Env} {R : Room} {s : State} {m : MethodId} {args : Array Value} {below : List Frame} {meth : Method} {c : Code} {Q : State → Prop} {D : va_G} {B : Nat} {cA : Nat → ClassId} {ad : Nat → Nat} {cc : ByteArray} {nL : Nat} {ret : Option FieldType} {S : List zC} {I : zI} {lv : List (Nat × Value)} {st : List Value} {pc cells slots : Nat} (C : zCx p s m args meth c cc nL RL ret D B cA ad) {K : Int32 → Prop} {xa1 : Int32} (hS : zOkX S)  (h : w_Desk_print xa1 I K) (hR : 1 + 1 ≤ R.frames ∧ 8 + (2 + 11) + (21) ≤ R.locals) (hw : (st.map fun v => v.category).sum ≤ 8) (hd : decode cc pc = .ok (.invokevirtual 94, 3)) (hf : cells ≤ R.cells ∧ slots ≤ R.slots) (kk : ∀ v, K v → zX p l e R s m args below meth c Q D B cA nL cells slots S I lv (.int v :: st) (pc + 3)) : zX p l e R s m args below meth c Q D B cA nL cells slots S I lv (.int xa1 :: .ref (B + 0) :: st) pc :=
  zc_VpI C (ci := 11) (q := (RX11, TX11, 19)) (k := 0) (fs := [some (some 1), none, some (some 3), some (some 4), none, none, none, none, some (some 22), some (some 24), some (some 43), some (some 64), some (some 69), some (some 88), some (some 97), some (some 100), some (some 109), some (some 111), none]) (As := [.int xa1]) (st := st) rfl (hS _ _ zs_0) (c_Desk_print hS h) (zgV zk_ml_L_94 zk_im_yX11_print zk_se_yX11_print zk_in_11 zk_cd_yX11_print) zsg_yX11_print hR rfl rfl hw hd hf kk
theorem zv_L_97t {p : Program} {l : Launch} {e : Env} {R : Room} {s : State} {m : MethodId} {args : Array Value} {below : List Frame} {meth : Method} {c : Code} {Q : State → Prop} {D : va_G} {B : Nat} {cA : Nat → ClassId} {ad : Nat → Nat} {cc : ByteArray} {nL : Nat} {ret : Option FieldType} {S : List zC} {I : zI} {lv : List (Nat × Value)} {st : List Value} {pc cells slots : Nat} (C : zCx p s m args meth c cc nL RL ret D B cA ad) {K : Int32 → zI → Prop} {xa1 : Int32} (hS : zOkM S)  (h : w_M_print xa1 I K) (hR : 3 + 1 ≤ R.frames ∧ 8 + (2 + 11) + (70) ≤ R.locals) (hw : (st.map fun v => v.category).sum ≤ 8) (hd : decode cc pc = .ok (.invokevirtual 97, 3)) (hf : cells ≤ R.cells ∧ slots ≤ R.slots) (kk : ∀ v I2, K v I2 → zX p l e R s m args below meth c Q D B cA nL cells slots S I2 lv (.int v :: st) (pc + 3)) : zX p l e R s m args below meth c Q D B cA nL cells slots S I lv (.int xa1 :: .ref (B + 491) :: st) pc :=
  zc_VqI C (ci := 12) (q := (RX12, TX12, 82)) (k := 491) (fs := [none, some (some 492), some (some 493), none, some (some 494), none, some (some 495), none, none, none, some (some 496), some (some 497), some (some 498), some (some 499), some (some 500), none, some (some 501), some (some 502), some (some 503), none, some (some 504), some (some 505), some (some 506), some (some 507), some (some 508), none, some (some 509), some (some 510), some (some 511), some (some 512), some (some 513), some (some 514), some (some 515), some (some 516), some (some 517), some (some 518), none, none, some (some 519), none, some (some 520), none, none, none, some (some 521), some (some 522), some (some 523), some (some 524), some (some 525), some (some 526), some (some 527), none, some (some 528), none, some (some 529), none, some (some 530), some (some 531), some (some 532), none, some (some 533), some (some 534), some (some 535), some (some 536), some (some 537), none, none, none, some (some 538), some (some 539), some (some 540), none, none, none, some (some 541), none, none, some (some 542), some (some 543), some (some 544), none, some (some 545)]) (As := [.int xa1]) (st := st) rfl (hS _ _ zs_491) (c_M_print hS h) (zgV zk_ml_L_97 zk_im_yX12_print zk_se_yX12_print zk_in_12 zk_cd_yX12_print) zsg_yX12_print hR rfl rfl hw hd hf kk
theorem zv_L_98t {p : Program} {l : Launch} {e : Env} {R : Room} {s : State} {m : MethodId} {args : Array Value} {below : List Frame} {meth : Method} {c : Code} {Q : State → Prop} {D : va_G} {B : Nat} {cA : Nat → ClassId} {ad : Nat → Nat} {cc : ByteArray} {nL : Nat} {ret : Option FieldType} {S : List zC} {I : zI} {lv : List (Nat × Value)} {st : List Value} {pc cells slots : Nat} (C : zCx p s m args meth c cc nL RL ret D B cA ad) {K : Int32 → Prop} {xa1 : Int32} (hS : zOkX S)  (h : w_Desk_ruled xa1 I K) (hR : 1 + 1 ≤ R.frames ∧ 8 + (2 + 11) + (21) ≤ R.locals) (hw : (st.map fun v => v.category).sum ≤ 8) (hd : decode cc pc = .ok (.invokevirtual 98, 3)) (hf : cells ≤ R.cells ∧ slots ≤ R.slots) (kk : ∀ v, K v → zX p l e R s m args below meth c Q D B cA nL cells slots S I lv (.int v :: st) (pc + 3)) : zX p l e R s m args below meth c Q D B cA nL cells slots S I lv (.int xa1 :: .ref (B + 0) :: st) pc :=
  zc_VpI C (ci := 11) (q := (RX11, TX11, 19)) (k := 0) (fs := [some (some 1), none, some (some 3), some (some 4), none, none, none, none, some (some 22), some (some 24), some (some 43), some (some 64), some (some 69), some (some 88), some (some 97), some (some 100), some (some 109), some (some 111), none]) (As := [.int xa1]) (st := st) rfl (hS _ _ zs_0) (c_Desk_ruled hS h) (zgV zk_ml_L_98 zk_im_yX11_ruled zk_se_yX11_ruled zk_in_11 zk_cd_yX11_ruled) zsg_yX11_ruled hR rfl rfl hw hd hf kk
theorem zv_L_101t {p : Program} {l : Launch} {e : Env} {R : Room} {s : State} {m : MethodId} {args : Array Value} {below : List Frame} {meth : Method} {c : Code} {Q : State → Prop} {D : va_G} {B : Nat} {cA : Nat → ClassId} {ad : Nat → Nat} {cc : ByteArray} {nL : Nat} {ret : Option FieldType} {S : List zC} {I : zI} {lv : List (Nat × Value)} {st : List Value} {pc cells slots : Nat} (C : zCx p s m args meth c cc nL RL ret D B cA ad) {K : Int32 → Prop} {xa1 : Int32} (hS : zOkM S)  (h : w_M_ruled xa1 I K) (hR : 1 + 1 ≤ R.frames ∧ 8 + (4 + 11) + (22) ≤ R.locals) (hw : (st.map fun v => v.category).sum ≤ 8) (hd : decode cc pc = .ok (.invokevirtual 101, 3)) (hf : cells ≤ R.cells ∧ slots ≤ R.slots) (kk : ∀ v, K v → zX p l e R s m args below meth c Q D B cA nL cells slots S I lv (.int v :: st) (pc + 3)) : zX p l e R s m args below meth c Q D B cA nL cells slots S I lv (.int xa1 :: .ref (B + 491) :: st) pc :=
  zc_VpI C (ci := 12) (q := (RX12, TX12, 82)) (k := 491) (fs := [none, some (some 492), some (some 493), none, some (some 494), none, some (some 495), none, none, none, some (some 496), some (some 497), some (some 498), some (some 499), some (some 500), none, some (some 501), some (some 502), some (some 503), none, some (some 504), some (some 505), some (some 506), some (some 507), some (some 508), none, some (some 509), some (some 510), some (some 511), some (some 512), some (some 513), some (some 514), some (some 515), some (some 516), some (some 517), some (some 518), none, none, some (some 519), none, some (some 520), none, none, none, some (some 521), some (some 522), some (some 523), some (some 524), some (some 525), some (some 526), some (some 527), none, some (some 528), none, some (some 529), none, some (some 530), some (some 531), some (some 532), none, some (some 533), some (some 534), some (some 535), some (some 536), some (some 537), none, none, none, some (some 538), some (some 539), some (some 540), none, none, none, some (some 541), none, none, some (some 542), some (some 543), some (some 544), none, some (some 545)]) (As := [.int xa1]) (st := st) rfl (hS _ _ zs_491) (c_M_ruled hS h) (zgV zk_ml_L_101 zk_im_yX12_ruled zk_se_yX12_ruled zk_in_12 zk_cd_yX12_ruled) zsg_yX12_ruled hR rfl rfl hw hd hf kk
theorem zv_L_102t {p : Program} {l : Launch} {e : Env} {R : Room} {s : State} {m : MethodId} {args : Array Value} {below : List Frame} {meth : Method} {c : Code} {Q : State → Prop} {D : va_G} {B : Nat} {cA : Nat → ClassId} {ad : Nat → Nat} {cc : ByteArray} {nL : Nat} {ret : Option FieldType} {S : List zC} {I : zI} {lv : List (Nat × Value)} {st : List Value} {pc cells slots : Nat} (C : zCx p s m args meth c cc nL RL ret D B cA ad) {K : Int32 → Prop} {xa1 : Int32} (hS : zOkX S)  (h : w_Desk_row xa1 I K) (hR : 1 + 1 ≤ R.frames ∧ 8 + (2 + 11) + (21) ≤ R.locals) (hw : (st.map fun v => v.category).sum ≤ 8) (hd : decode cc pc = .ok (.invokevirtual 102, 3)) (hf : cells ≤ R.cells ∧ slots ≤ R.slots) (kk : ∀ v, K v → zX p l e R s m args below meth c Q D B cA nL cells slots S I lv (.int v :: st) (pc + 3)) : zX p l e R s m args below meth c Q D B cA nL cells slots S I lv (.int xa1 :: .ref (B + 0) :: st) pc :=
  zc_VpI C (ci := 11) (q := (RX11, TX11, 19)) (k := 0) (fs := [some (some 1), none, some (some 3), some (some 4), none, none, none, none, some (some 22), some (some 24), some (some 43), some (some 64), some (some 69), some (some 88), some (some 97), some (some 100), some (some 109), some (some 111), none]) (As := [.int xa1]) (st := st) rfl (hS _ _ zs_0) (c_Desk_row hS h) (zgV zk_ml_L_102 zk_im_yX11_row zk_se_yX11_row zk_in_11 zk_cd_yX11_row) zsg_yX11_row hR rfl rfl hw hd hf kk
theorem zv_L_105t {p : Program} {l : Launch} {e : Env} {R : Room} {s : State} {m : MethodId} {args : Array Value} {below : List Frame} {meth : Method} {c : Code} {Q : State → Prop} {D : va_G} {B : Nat} {cA : Nat → ClassId} {ad : Nat → Nat} {cc : ByteArray} {nL : Nat} {ret : Option FieldType} {S : List zC} {I : zI} {lv : List (Nat × Value)} {st : List Value} {pc cells slots : Nat} (C : zCx p s m args meth c cc nL RL ret D B cA ad) {K : Int32 → zI → Prop} {xa1 : Int32} (hS : zOkM S)  (h : w_M_row xa1 I K) (hR : 2 + 1 ≤ R.frames ∧ 8 + (3 + 11) + (49) ≤ R.locals) (hw : (st.map fun v => v.category).sum ≤ 8) (hd : decode cc pc = .ok (.invokevirtual 105, 3)) (hf : cells ≤ R.cells ∧ slots ≤ R.slots) (kk : ∀ v I2, K v I2 → zX p l e R s m args below meth c Q D B cA nL cells slots S I2 lv (.int v :: st) (pc + 3)) : zX p l e R s m args below meth c Q D B cA nL cells slots S I lv (.int xa1 :: .ref (B + 491) :: st) pc :=
  zc_VqI C (ci := 12) (q := (RX12, TX12, 82)) (k := 491) (fs := [none, some (some 492), some (some 493), none, some (some 494), none, some (some 495), none, none, none, some (some 496), some (some 497), some (some 498), some (some 499), some (some 500), none, some (some 501), some (some 502), some (some 503), none, some (some 504), some (some 505), some (some 506), some (some 507), some (some 508), none, some (some 509), some (some 510), some (some 511), some (some 512), some (some 513), some (some 514), some (some 515), some (some 516), some (some 517), some (some 518), none, none, some (some 519), none, some (some 520), none, none, none, some (some 521), some (some 522), some (some 523), some (some 524), some (some 525), some (some 526), some (some 527), none, some (some 528), none, some (some 529), none, some (some 530), some (some 531), some (some 532), none, some (some 533), some (some 534), some (some 535), some (some 536), some (some 537), none, none, none, some (some 538), some (some 539), some (some 540), none, none, none, some (some 541), none, none, some (some 542), some (some 543), some (some 544), none, some (some 545)]) (As := [.int xa1]) (st := st) rfl (hS _ _ zs_491) (c_M_row hS h) (zgV zk_ml_L_105 zk_im_yX12_row zk_se_yX12_row zk_in_12 zk_cd_yX12_row) zsg_yX12_row hR rfl rfl hw hd hf kk
theorem zv_L_106t {p : Program} {l : Launch} {e : Env} {R : Room} {s : State} {m : MethodId} {args : Array Value} {below : List Frame} {meth : Method} {c : Code} {Q : State → Prop} {D : va_G} {B : Nat} {cA : Nat → ClassId} {ad : Nat → Nat} {cc : ByteArray} {nL : Nat} {ret : Option FieldType} {S : List zC} {I : zI} {lv : List (Nat × Value)} {st : List Value} {pc cells slots : Nat} (C : zCx p s m args meth c cc nL RL ret D B cA ad) {K : Int32 → Prop} {xa1 : Int32} {xa2 : Int32} (hS : zOkX S)  (h : w_Desk_pair xa1 xa2 I K) (hR : 1 + 1 ≤ R.frames ∧ 8 + (3 + 11) + (21) ≤ R.locals) (hw : (st.map fun v => v.category).sum ≤ 8) (hd : decode cc pc = .ok (.invokevirtual 106, 3)) (hf : cells ≤ R.cells ∧ slots ≤ R.slots) (kk : ∀ v, K v → zX p l e R s m args below meth c Q D B cA nL cells slots S I lv (.int v :: st) (pc + 3)) : zX p l e R s m args below meth c Q D B cA nL cells slots S I lv (.int xa2 :: .int xa1 :: .ref (B + 0) :: st) pc :=
  zc_VpI C (ci := 11) (q := (RX11, TX11, 19)) (k := 0) (fs := [some (some 1), none, some (some 3), some (some 4), none, none, none, none, some (some 22), some (some 24), some (some 43), some (some 64), some (some 69), some (some 88), some (some 97), some (some 100), some (some 109), some (some 111), none]) (As := [.int xa1, .int xa2]) (st := st) rfl (hS _ _ zs_0) (c_Desk_pair hS h) (zgV zk_ml_L_106 zk_im_yX11_pair zk_se_yX11_pair zk_in_11 zk_cd_yX11_pair) zsg_yX11_pair hR rfl rfl hw hd hf kk
theorem zv_L_109t {p : Program} {l : Launch} {e : Env} {R : Room} {s : State} {m : MethodId} {args : Array Value} {below : List Frame} {meth : Method} {c : Code} {Q : State → Prop} {D : va_G} {B : Nat} {cA : Nat → ClassId} {ad : Nat → Nat} {cc : ByteArray} {nL : Nat} {ret : Option FieldType} {S : List zC} {I : zI} {lv : List (Nat × Value)} {st : List Value} {pc cells slots : Nat} (C : zCx p s m args meth c cc nL RL ret D B cA ad) {K : Int32 → Prop} {xa1 : Int32} {xa2 : Int32} (hS : zOkM S)  (h : w_M_pair xa1 xa2 I K) (hR : 1 + 1 ≤ R.frames ∧ 8 + (3 + 11) + (22) ≤ R.locals) (hw : (st.map fun v => v.category).sum ≤ 8) (hd : decode cc pc = .ok (.invokevirtual 109, 3)) (hf : cells ≤ R.cells ∧ slots ≤ R.slots) (kk : ∀ v, K v → zX p l e R s m args below meth c Q D B cA nL cells slots S I lv (.int v :: st) (pc + 3)) : zX p l e R s m args below meth c Q D B cA nL cells slots S I lv (.int xa2 :: .int xa1 :: .ref (B + 491) :: st) pc :=
  zc_VpI C (ci := 12) (q := (RX12, TX12, 82)) (k := 491) (fs := [none, some (some 492), some (some 493), none, some (some 494), none, some (some 495), none, none, none, some (some 496), some (some 497), some (some 498), some (some 499), some (some 500), none, some (some 501), some (some 502), some (some 503), none, some (some 504), some (some 505), some (some 506), some (some 507), some (some 508), none, some (some 509), some (some 510), some (some 511), some (some 512), some (some 513), some (some 514), some (some 515), some (some 516), some (some 517), some (some 518), none, none, some (some 519), none, some (some 520), none, none, none, some (some 521), some (some 522), some (some 523), some (some 524), some (some 525), some (some 526), some (some 527), none, some (some 528), none, some (some 529), none, some (some 530), some (some 531), some (some 532), none, some (some 533), some (some 534), some (some 535), some (some 536), some (some 537), none, none, none, some (some 538), some (some 539), some (some 540), none, none, none, some (some 541), none, none, some (some 542), some (some 543), some (some 544), none, some (some 545)]) (As := [.int xa1, .int xa2]) (st := st) rfl (hS _ _ zs_491) (c_M_pair hS h) (zgV zk_ml_L_109 zk_im_yX12_pair zk_se_yX12_pair zk_in_12 zk_cd_yX12_pair) zsg_yX12_pair hR rfl rfl hw hd hf kk
theorem zv_L_110t {p : Program} {l : Launch} {e : Env} {R : Room} {s : State} {m : MethodId} {args : Array Value} {below : List Frame} {meth : Method} {c : Code} {Q : State → Prop} {D : va_G} {B : Nat} {cA : Nat → ClassId} {ad : Nat → Nat} {cc : ByteArray} {nL : Nat} {ret : Option FieldType} {S : List zC} {I : zI} {lv : List (Nat × Value)} {st : List Value} {pc cells slots : Nat} (C : zCx p s m args meth c cc nL RL ret D B cA ad) {K : Int32 → Prop} {xa1 : Int32} (hS : zOkX S)  (h : w_Desk_young xa1 I K) (hR : 3 + 1 ≤ R.frames ∧ 8 + (2 + 11) + (68) ≤ R.locals) (hw : (st.map fun v => v.category).sum ≤ 8) (hd : decode cc pc = .ok (.invokevirtual 110, 3)) (hf : cells ≤ R.cells ∧ slots ≤ R.slots) (kk : ∀ v, K v → zX p l e R s m args below meth c Q D B cA nL cells slots S I lv (.int v :: st) (pc + 3)) : zX p l e R s m args below meth c Q D B cA nL cells slots S I lv (.int xa1 :: .ref (B + 0) :: st) pc :=
  zc_VpI C (ci := 11) (q := (RX11, TX11, 19)) (k := 0) (fs := [some (some 1), none, some (some 3), some (some 4), none, none, none, none, some (some 22), some (some 24), some (some 43), some (some 64), some (some 69), some (some 88), some (some 97), some (some 100), some (some 109), some (some 111), none]) (As := [.int xa1]) (st := st) rfl (hS _ _ zs_0) (c_Desk_young hS h) (zgV zk_ml_L_110 zk_im_yX11_young zk_se_yX11_young zk_in_11 zk_cd_yX11_young) zsg_yX11_young hR rfl rfl hw hd hf kk
theorem zv_L_113t {p : Program} {l : Launch} {e : Env} {R : Room} {s : State} {m : MethodId} {args : Array Value} {below : List Frame} {meth : Method} {c : Code} {Q : State → Prop} {D : va_G} {B : Nat} {cA : Nat → ClassId} {ad : Nat → Nat} {cc : ByteArray} {nL : Nat} {ret : Option FieldType} {S : List zC} {I : zI} {lv : List (Nat × Value)} {st : List Value} {pc cells slots : Nat} (C : zCx p s m args meth c cc nL RL ret D B cA ad) {K : Int32 → Prop} {xa1 : Int32} (hS : zOkM S)  (h : w_M_young xa1 I K) (hR : 2 + 1 ≤ R.frames ∧ 8 + (2 + 11) + (43) ≤ R.locals) (hw : (st.map fun v => v.category).sum ≤ 8) (hd : decode cc pc = .ok (.invokevirtual 113, 3)) (hf : cells ≤ R.cells ∧ slots ≤ R.slots) (kk : ∀ v, K v → zX p l e R s m args below meth c Q D B cA nL cells slots S I lv (.int v :: st) (pc + 3)) : zX p l e R s m args below meth c Q D B cA nL cells slots S I lv (.int xa1 :: .ref (B + 491) :: st) pc :=
  zc_VpI C (ci := 12) (q := (RX12, TX12, 82)) (k := 491) (fs := [none, some (some 492), some (some 493), none, some (some 494), none, some (some 495), none, none, none, some (some 496), some (some 497), some (some 498), some (some 499), some (some 500), none, some (some 501), some (some 502), some (some 503), none, some (some 504), some (some 505), some (some 506), some (some 507), some (some 508), none, some (some 509), some (some 510), some (some 511), some (some 512), some (some 513), some (some 514), some (some 515), some (some 516), some (some 517), some (some 518), none, none, some (some 519), none, some (some 520), none, none, none, some (some 521), some (some 522), some (some 523), some (some 524), some (some 525), some (some 526), some (some 527), none, some (some 528), none, some (some 529), none, some (some 530), some (some 531), some (some 532), none, some (some 533), some (some 534), some (some 535), some (some 536), some (some 537), none, none, none, some (some 538), some (some 539), some (some 540), none, none, none, some (some 541), none, none, some (some 542), some (some 543), some (some 544), none, some (some 545)]) (As := [.int xa1]) (st := st) rfl (hS _ _ zs_491) (c_M_young hS h) (zgV zk_ml_L_113 zk_im_yX12_young zk_se_yX12_young zk_in_12 zk_cd_yX12_young) zsg_yX12_young hR rfl rfl hw hd hf kk
theorem zv_L_114t {p : Program} {l : Launch} {e : Env} {R : Room} {s : State} {m : MethodId} {args : Array Value} {below : List Frame} {meth : Method} {c : Code} {Q : State → Prop} {D : va_G} {B : Nat} {cA : Nat → ClassId} {ad : Nat → Nat} {cc : ByteArray} {nL : Nat} {ret : Option FieldType} {S : List zC} {I : zI} {lv : List (Nat × Value)} {st : List Value} {pc cells slots : Nat} (C : zCx p s m args meth c cc nL RL ret D B cA ad) {K : Int32 → Prop} {xa1 : Int32} (hS : zOkX S)  (h : w_Desk_beside xa1 I K) (hR : 4 + 1 ≤ R.frames ∧ 8 + (2 + 11) + (90) ≤ R.locals) (hw : (st.map fun v => v.category).sum ≤ 8) (hd : decode cc pc = .ok (.invokevirtual 114, 3)) (hf : cells ≤ R.cells ∧ slots ≤ R.slots) (kk : ∀ v, K v → zX p l e R s m args below meth c Q D B cA nL cells slots S I lv (.int v :: st) (pc + 3)) : zX p l e R s m args below meth c Q D B cA nL cells slots S I lv (.int xa1 :: .ref (B + 0) :: st) pc :=
  zc_VpI C (ci := 11) (q := (RX11, TX11, 19)) (k := 0) (fs := [some (some 1), none, some (some 3), some (some 4), none, none, none, none, some (some 22), some (some 24), some (some 43), some (some 64), some (some 69), some (some 88), some (some 97), some (some 100), some (some 109), some (some 111), none]) (As := [.int xa1]) (st := st) rfl (hS _ _ zs_0) (c_Desk_beside hS h) (zgV zk_ml_L_114 zk_im_yX11_beside zk_se_yX11_beside zk_in_11 zk_cd_yX11_beside) zsg_yX11_beside hR rfl rfl hw hd hf kk
theorem zv_L_117t {p : Program} {l : Launch} {e : Env} {R : Room} {s : State} {m : MethodId} {args : Array Value} {below : List Frame} {meth : Method} {c : Code} {Q : State → Prop} {D : va_G} {B : Nat} {cA : Nat → ClassId} {ad : Nat → Nat} {cc : ByteArray} {nL : Nat} {ret : Option FieldType} {S : List zC} {I : zI} {lv : List (Nat × Value)} {st : List Value} {pc cells slots : Nat} (C : zCx p s m args meth c cc nL RL ret D B cA ad) {K : Int32 → Prop} {xa1 : Int32} (hS : zOkM S)  (h : w_M_beside xa1 I K) (hR : 3 + 1 ≤ R.frames ∧ 8 + (2 + 11) + (66) ≤ R.locals) (hw : (st.map fun v => v.category).sum ≤ 8) (hd : decode cc pc = .ok (.invokevirtual 117, 3)) (hf : cells ≤ R.cells ∧ slots ≤ R.slots) (kk : ∀ v, K v → zX p l e R s m args below meth c Q D B cA nL cells slots S I lv (.int v :: st) (pc + 3)) : zX p l e R s m args below meth c Q D B cA nL cells slots S I lv (.int xa1 :: .ref (B + 491) :: st) pc :=
  zc_VpI C (ci := 12) (q := (RX12, TX12, 82)) (k := 491) (fs := [none, some (some 492), some (some 493), none, some (some 494), none, some (some 495), none, none, none, some (some 496), some (some 497), some (some 498), some (some 499), some (some 500), none, some (some 501), some (some 502), some (some 503), none, some (some 504), some (some 505), some (some 506), some (some 507), some (some 508), none, some (some 509), some (some 510), some (some 511), some (some 512), some (some 513), some (some 514), some (some 515), some (some 516), some (some 517), some (some 518), none, none, some (some 519), none, some (some 520), none, none, none, some (some 521), some (some 522), some (some 523), some (some 524), some (some 525), some (some 526), some (some 527), none, some (some 528), none, some (some 529), none, some (some 530), some (some 531), some (some 532), none, some (some 533), some (some 534), some (some 535), some (some 536), some (some 537), none, none, none, some (some 538), some (some 539), some (some 540), none, none, none, some (some 541), none, none, some (some 542), some (some 543), some (some 544), none, some (some 545)]) (As := [.int xa1]) (st := st) rfl (hS _ _ zs_491) (c_M_beside hS h) (zgV zk_ml_L_117 zk_im_yX12_beside zk_se_yX12_beside zk_in_12 zk_cd_yX12_beside) zsg_yX12_beside hR rfl rfl hw hd hf kk
theorem zv_L_118t {p : Program} {l : Launch} {e : Env} {R : Room} {s : State} {m : MethodId} {args : Array Value} {below : List Frame} {meth : Method} {c : Code} {Q : State → Prop} {D : va_G} {B : Nat} {cA : Nat → ClassId} {ad : Nat → Nat} {cc : ByteArray} {nL : Nat} {ret : Option FieldType} {S : List zC} {I : zI} {lv : List (Nat × Value)} {st : List Value} {pc cells slots : Nat} (C : zCx p s m args meth c cc nL RL ret D B cA ad) {K : Int32 → Prop} {xa1 : Int32} {xa2 : Int32} (hS : zOkX S)  (h : w_Desk_span xa1 xa2 I K) (hR : 4 + 1 ≤ R.frames ∧ 8 + (3 + 11) + (87) ≤ R.locals) (hw : (st.map fun v => v.category).sum ≤ 8) (hd : decode cc pc = .ok (.invokevirtual 118, 3)) (hf : cells ≤ R.cells ∧ slots ≤ R.slots) (kk : ∀ v, K v → zX p l e R s m args below meth c Q D B cA nL cells slots S I lv (.int v :: st) (pc + 3)) : zX p l e R s m args below meth c Q D B cA nL cells slots S I lv (.int xa2 :: .int xa1 :: .ref (B + 0) :: st) pc :=
  zc_VpI C (ci := 11) (q := (RX11, TX11, 19)) (k := 0) (fs := [some (some 1), none, some (some 3), some (some 4), none, none, none, none, some (some 22), some (some 24), some (some 43), some (some 64), some (some 69), some (some 88), some (some 97), some (some 100), some (some 109), some (some 111), none]) (As := [.int xa1, .int xa2]) (st := st) rfl (hS _ _ zs_0) (c_Desk_span hS h) (zgV zk_ml_L_118 zk_im_yX11_span zk_se_yX11_span zk_in_11 zk_cd_yX11_span) zsg_yX11_span hR rfl rfl hw hd hf kk
theorem zv_L_121t {p : Program} {l : Launch} {e : Env} {R : Room} {s : State} {m : MethodId} {args : Array Value} {below : List Frame} {meth : Method} {c : Code} {Q : State → Prop} {D : va_G} {B : Nat} {cA : Nat → ClassId} {ad : Nat → Nat} {cc : ByteArray} {nL : Nat} {ret : Option FieldType} {S : List zC} {I : zI} {lv : List (Nat × Value)} {st : List Value} {pc cells slots : Nat} (C : zCx p s m args meth c cc nL RL ret D B cA ad) {K : Int32 → Prop} {xa1 : Int32} {xa2 : Int32} (hS : zOkM S)  (h : w_M_span xa1 xa2 I K) (hR : 2 + 1 ≤ R.frames ∧ 8 + (3 + 11) + (43) ≤ R.locals) (hw : (st.map fun v => v.category).sum ≤ 8) (hd : decode cc pc = .ok (.invokevirtual 121, 3)) (hf : cells ≤ R.cells ∧ slots ≤ R.slots) (kk : ∀ v, K v → zX p l e R s m args below meth c Q D B cA nL cells slots S I lv (.int v :: st) (pc + 3)) : zX p l e R s m args below meth c Q D B cA nL cells slots S I lv (.int xa2 :: .int xa1 :: .ref (B + 491) :: st) pc :=
  zc_VpI C (ci := 12) (q := (RX12, TX12, 82)) (k := 491) (fs := [none, some (some 492), some (some 493), none, some (some 494), none, some (some 495), none, none, none, some (some 496), some (some 497), some (some 498), some (some 499), some (some 500), none, some (some 501), some (some 502), some (some 503), none, some (some 504), some (some 505), some (some 506), some (some 507), some (some 508), none, some (some 509), some (some 510), some (some 511), some (some 512), some (some 513), some (some 514), some (some 515), some (some 516), some (some 517), some (some 518), none, none, some (some 519), none, some (some 520), none, none, none, some (some 521), some (some 522), some (some 523), some (some 524), some (some 525), some (some 526), some (some 527), none, some (some 528), none, some (some 529), none, some (some 530), some (some 531), some (some 532), none, some (some 533), some (some 534), some (some 535), some (some 536), some (some 537), none, none, none, some (some 538), some (some 539), some (some 540), none, none, none, some (some 541), none, none, some (some 542), some (some 543), some (some 544), none, some (some 545)]) (As := [.int xa1, .int xa2]) (st := st) rfl (hS _ _ zs_491) (c_M_span hS h) (zgV zk_ml_L_121 zk_im_yX12_span zk_se_yX12_span zk_in_12 zk_cd_yX12_span) zsg_yX12_span hR rfl rfl hw hd hf kk
theorem zv_L_122t {p : Program} {l : Launch} {e : Env} {R : Room} {s : State} {m : MethodId} {args : Array Value} {below : List Frame} {meth : Method} {c : Code} {Q : State → Prop} {D : va_G} {B : Nat} {cA : Nat → ClassId} {ad : Nat → Nat} {cc : ByteArray} {nL : Nat} {ret : Option FieldType} {S : List zC} {I : zI} {lv : List (Nat × Value)} {st : List Value} {pc cells slots : Nat} (C : zCx p s m args meth c cc nL RL ret D B cA ad) {K : Int32 → Prop} {xa1 : Int32} (hS : zOkX S)  (h : w_Desk_under xa1 I K) (hR : 2 + 1 ≤ R.frames ∧ 8 + (3 + 11) + (43) ≤ R.locals) (hw : (st.map fun v => v.category).sum ≤ 8) (hd : decode cc pc = .ok (.invokevirtual 122, 3)) (hf : cells ≤ R.cells ∧ slots ≤ R.slots) (kk : ∀ v, K v → zX p l e R s m args below meth c Q D B cA nL cells slots S I lv (.int v :: st) (pc + 3)) : zX p l e R s m args below meth c Q D B cA nL cells slots S I lv (.int xa1 :: .ref (B + 0) :: st) pc :=
  zc_VpI C (ci := 11) (q := (RX11, TX11, 19)) (k := 0) (fs := [some (some 1), none, some (some 3), some (some 4), none, none, none, none, some (some 22), some (some 24), some (some 43), some (some 64), some (some 69), some (some 88), some (some 97), some (some 100), some (some 109), some (some 111), none]) (As := [.int xa1]) (st := st) rfl (hS _ _ zs_0) (c_Desk_under hS h) (zgV zk_ml_L_122 zk_im_yX11_under zk_se_yX11_under zk_in_11 zk_cd_yX11_under) zsg_yX11_under hR rfl rfl hw hd hf kk
theorem zv_L_125t {p : Program} {l : Launch} {e : Env} {R : Room} {s : State} {m : MethodId} {args : Array Value} {below : List Frame} {meth : Method} {c : Code} {Q : State → Prop} {D : va_G} {B : Nat} {cA : Nat → ClassId} {ad : Nat → Nat} {cc : ByteArray} {nL : Nat} {ret : Option FieldType} {S : List zC} {I : zI} {lv : List (Nat × Value)} {st : List Value} {pc cells slots : Nat} (C : zCx p s m args meth c cc nL RL ret D B cA ad) {K : Int32 → Prop} {xa1 : Int32} (hS : zOkM S)  (h : w_M_under xa1 I K) (hR : 1 + 1 ≤ R.frames ∧ 8 + (3 + 11) + (22) ≤ R.locals) (hw : (st.map fun v => v.category).sum ≤ 8) (hd : decode cc pc = .ok (.invokevirtual 125, 3)) (hf : cells ≤ R.cells ∧ slots ≤ R.slots) (kk : ∀ v, K v → zX p l e R s m args below meth c Q D B cA nL cells slots S I lv (.int v :: st) (pc + 3)) : zX p l e R s m args below meth c Q D B cA nL cells slots S I lv (.int xa1 :: .ref (B + 491) :: st) pc :=
  zc_VpI C (ci := 12) (q := (RX12, TX12, 82)) (k := 491) (fs := [none, some (some 492), some (some 493), none, some (some 494), none, some (some 495), none, none, none, some (some 496), some (some 497), some (some 498), some (some 499), some (some 500), none, some (some 501), some (some 502), some (some 503), none, some (some 504), some (some 505), some (some 506), some (some 507), some (some 508), none, some (some 509), some (some 510), some (some 511), some (some 512), some (some 513), some (some 514), some (some 515), some (some 516), some (some 517), some (some 518), none, none, some (some 519), none, some (some 520), none, none, none, some (some 521), some (some 522), some (some 523), some (some 524), some (some 525), some (some 526), some (some 527), none, some (some 528), none, some (some 529), none, some (some 530), some (some 531), some (some 532), none, some (some 533), some (some 534), some (some 535), some (some 536), some (some 537), none, none, none, some (some 538), some (some 539), some (some 540), none, none, none, some (some 541), none, none, some (some 542), some (some 543), some (some 544), none, some (some 545)]) (As := [.int xa1]) (st := st) rfl (hS _ _ zs_491) (c_M_under hS h) (zgV zk_ml_L_125 zk_im_yX12_under zk_se_yX12_under zk_in_12 zk_cd_yX12_under) zsg_yX12_under hR rfl rfl hw hd hf kk
theorem zv_L_126t {p : Program} {l : Launch} {e : Env} {R : Room} {s : State} {m : MethodId} {args : Array Value} {below : List Frame} {meth : Method} {c : Code} {Q : State → Prop} {D : va_G} {B : Nat} {cA : Nat → ClassId} {ad : Nat → Nat} {cc : ByteArray} {nL : Nat} {ret : Option FieldType} {S : List zC} {I : zI} {lv : List (Nat × Value)} {st : List Value} {pc cells slots : Nat} (C : zCx p s m args meth c cc nL RL ret D B cA ad) {K : Int32 → Prop} {xa1 : Int32} (hS : zOkX S)  (h : w_Desk_before xa1 I K) (hR : 4 + 1 ≤ R.frames ∧ 8 + (2 + 11) + (90) ≤ R.locals) (hw : (st.map fun v => v.category).sum ≤ 8) (hd : decode cc pc = .ok (.invokevirtual 126, 3)) (hf : cells ≤ R.cells ∧ slots ≤ R.slots) (kk : ∀ v, K v → zX p l e R s m args below meth c Q D B cA nL cells slots S I lv (.int v :: st) (pc + 3)) : zX p l e R s m args below meth c Q D B cA nL cells slots S I lv (.int xa1 :: .ref (B + 0) :: st) pc :=
  zc_VpI C (ci := 11) (q := (RX11, TX11, 19)) (k := 0) (fs := [some (some 1), none, some (some 3), some (some 4), none, none, none, none, some (some 22), some (some 24), some (some 43), some (some 64), some (some 69), some (some 88), some (some 97), some (some 100), some (some 109), some (some 111), none]) (As := [.int xa1]) (st := st) rfl (hS _ _ zs_0) (c_Desk_before hS h) (zgV zk_ml_L_126 zk_im_yX11_before zk_se_yX11_before zk_in_11 zk_cd_yX11_before) zsg_yX11_before hR rfl rfl hw hd hf kk
theorem zv_L_129t {p : Program} {l : Launch} {e : Env} {R : Room} {s : State} {m : MethodId} {args : Array Value} {below : List Frame} {meth : Method} {c : Code} {Q : State → Prop} {D : va_G} {B : Nat} {cA : Nat → ClassId} {ad : Nat → Nat} {cc : ByteArray} {nL : Nat} {ret : Option FieldType} {S : List zC} {I : zI} {lv : List (Nat × Value)} {st : List Value} {pc cells slots : Nat} (C : zCx p s m args meth c cc nL RL ret D B cA ad) {K : Int32 → Prop} {xa1 : Int32} (hS : zOkM S)  (h : w_M_before xa1 I K) (hR : 3 + 1 ≤ R.frames ∧ 8 + (2 + 11) + (66) ≤ R.locals) (hw : (st.map fun v => v.category).sum ≤ 8) (hd : decode cc pc = .ok (.invokevirtual 129, 3)) (hf : cells ≤ R.cells ∧ slots ≤ R.slots) (kk : ∀ v, K v → zX p l e R s m args below meth c Q D B cA nL cells slots S I lv (.int v :: st) (pc + 3)) : zX p l e R s m args below meth c Q D B cA nL cells slots S I lv (.int xa1 :: .ref (B + 491) :: st) pc :=
  zc_VpI C (ci := 12) (q := (RX12, TX12, 82)) (k := 491) (fs := [none, some (some 492), some (some 493), none, some (some 494), none, some (some 495), none, none, none, some (some 496), some (some 497), some (some 498), some (some 499), some (some 500), none, some (some 501), some (some 502), some (some 503), none, some (some 504), some (some 505), some (some 506), some (some 507), some (some 508), none, some (some 509), some (some 510), some (some 511), some (some 512), some (some 513), some (some 514), some (some 515), some (some 516), some (some 517), some (some 518), none, none, some (some 519), none, some (some 520), none, none, none, some (some 521), some (some 522), some (some 523), some (some 524), some (some 525), some (some 526), some (some 527), none, some (some 528), none, some (some 529), none, some (some 530), some (some 531), some (some 532), none, some (some 533), some (some 534), some (some 535), some (some 536), some (some 537), none, none, none, some (some 538), some (some 539), some (some 540), none, none, none, some (some 541), none, none, some (some 542), some (some 543), some (some 544), none, some (some 545)]) (As := [.int xa1]) (st := st) rfl (hS _ _ zs_491) (c_M_before hS h) (zgV zk_ml_L_129 zk_im_yX12_before zk_se_yX12_before zk_in_12 zk_cd_yX12_before) zsg_yX12_before hR rfl rfl hw hd hf kk
theorem zv_L_130t {p : Program} {l : Launch} {e : Env} {R : Room} {s : State} {m : MethodId} {args : Array Value} {below : List Frame} {meth : Method} {c : Code} {Q : State → Prop} {D : va_G} {B : Nat} {cA : Nat → ClassId} {ad : Nat → Nat} {cc : ByteArray} {nL : Nat} {ret : Option FieldType} {S : List zC} {I : zI} {lv : List (Nat × Value)} {st : List Value} {pc cells slots : Nat} (C : zCx p s m args meth c cc nL RL ret D B cA ad) {K : Int32 → Prop}  (hS : zOkX S)  (h : w_Desk_runs I K) (hR : 0 + 1 ≤ R.frames ∧ 8 + (1 + 11) + (0) ≤ R.locals) (hw : (st.map fun v => v.category).sum ≤ 8) (hd : decode cc pc = .ok (.invokevirtual 130, 3)) (hf : cells ≤ R.cells ∧ slots ≤ R.slots) (kk : ∀ v, K v → zX p l e R s m args below meth c Q D B cA nL cells slots S I lv (.int v :: st) (pc + 3)) : zX p l e R s m args below meth c Q D B cA nL cells slots S I lv (.ref (B + 0) :: st) pc :=
  zc_VpI C (ci := 11) (q := (RX11, TX11, 19)) (k := 0) (fs := [some (some 1), none, some (some 3), some (some 4), none, none, none, none, some (some 22), some (some 24), some (some 43), some (some 64), some (some 69), some (some 88), some (some 97), some (some 100), some (some 109), some (some 111), none]) (As := []) (st := st) rfl (hS _ _ zs_0) (c_Desk_runs hS h) (zgV zk_ml_L_130 zk_im_yX11_runs zk_se_yX11_runs zk_in_11 zk_cd_yX11_runs) zsg_yX11_runs hR rfl rfl hw hd hf kk
theorem zv_L_133t {p : Program} {l : Launch} {e : Env} {R : Room} {s : State} {m : MethodId} {args : Array Value} {below : List Frame} {meth : Method} {c : Code} {Q : State → Prop} {D : va_G} {B : Nat} {cA : Nat → ClassId} {ad : Nat → Nat} {cc : ByteArray} {nL : Nat} {ret : Option FieldType} {S : List zC} {I : zI} {lv : List (Nat × Value)} {st : List Value} {pc cells slots : Nat} (C : zCx p s m args meth c cc nL RL ret D B cA ad) {K : Int32 → Prop}  (hS : zOkM S)  (h : w_M_runs I K) (hR : 0 + 1 ≤ R.frames ∧ 8 + (1 + 11) + (0) ≤ R.locals) (hw : (st.map fun v => v.category).sum ≤ 8) (hd : decode cc pc = .ok (.invokevirtual 133, 3)) (hf : cells ≤ R.cells ∧ slots ≤ R.slots) (kk : ∀ v, K v → zX p l e R s m args below meth c Q D B cA nL cells slots S I lv (.int v :: st) (pc + 3)) : zX p l e R s m args below meth c Q D B cA nL cells slots S I lv (.ref (B + 491) :: st) pc :=
  zc_VpI C (ci := 12) (q := (RX12, TX12, 82)) (k := 491) (fs := [none, some (some 492), some (some 493), none, some (some 494), none, some (some 495), none, none, none, some (some 496), some (some 497), some (some 498), some (some 499), some (some 500), none, some (some 501), some (some 502), some (some 503), none, some (some 504), some (some 505), some (some 506), some (some 507), some (some 508), none, some (some 509), some (some 510), some (some 511), some (some 512), some (some 513), some (some 514), some (some 515), some (some 516), some (some 517), some (some 518), none, none, some (some 519), none, some (some 520), none, none, none, some (some 521), some (some 522), some (some 523), some (some 524), some (some 525), some (some 526), some (some 527), none, some (some 528), none, some (some 529), none, some (some 530), some (some 531), some (some 532), none, some (some 533), some (some 534), some (some 535), some (some 536), some (some 537), none, none, none, some (some 538), some (some 539), some (some 540), none, none, none, some (some 541), none, none, some (some 542), some (some 543), some (some 544), none, some (some 545)]) (As := []) (st := st) rfl (hS _ _ zs_491) (c_M_runs hS h) (zgV zk_ml_L_133 zk_im_yX12_runs zk_se_yX12_runs zk_in_12 zk_cd_yX12_runs) zsg_yX12_runs hR rfl rfl hw hd hf kk
theorem zv_L_134t {p : Program} {l : Launch} {e : Env} {R : Room} {s : State} {m : MethodId} {args : Array Value} {below : List Frame} {meth : Method} {c : Code} {Q : State → Prop} {D : va_G} {B : Nat} {cA : Nat → ClassId} {ad : Nat → Nat} {cc : ByteArray} {nL : Nat} {ret : Option FieldType} {S : List zC} {I : zI} {lv : List (Nat × Value)} {st : List Value} {pc cells slots : Nat} (C : zCx p s m args meth c cc nL RL ret D B cA ad) {K : Int32 → Prop} {xa1 : Int32} (hS : zOkX S)  (h : w_Desk_run xa1 I K) (hR : 1 + 1 ≤ R.frames ∧ 8 + (2 + 11) + (21) ≤ R.locals) (hw : (st.map fun v => v.category).sum ≤ 8) (hd : decode cc pc = .ok (.invokevirtual 134, 3)) (hf : cells ≤ R.cells ∧ slots ≤ R.slots) (kk : ∀ v, K v → zX p l e R s m args below meth c Q D B cA nL cells slots S I lv (.int v :: st) (pc + 3)) : zX p l e R s m args below meth c Q D B cA nL cells slots S I lv (.int xa1 :: .ref (B + 0) :: st) pc :=
  zc_VpI C (ci := 11) (q := (RX11, TX11, 19)) (k := 0) (fs := [some (some 1), none, some (some 3), some (some 4), none, none, none, none, some (some 22), some (some 24), some (some 43), some (some 64), some (some 69), some (some 88), some (some 97), some (some 100), some (some 109), some (some 111), none]) (As := [.int xa1]) (st := st) rfl (hS _ _ zs_0) (c_Desk_run hS h) (zgV zk_ml_L_134 zk_im_yX11_run zk_se_yX11_run zk_in_11 zk_cd_yX11_run) zsg_yX11_run hR rfl rfl hw hd hf kk
theorem zv_L_137t {p : Program} {l : Launch} {e : Env} {R : Room} {s : State} {m : MethodId} {args : Array Value} {below : List Frame} {meth : Method} {c : Code} {Q : State → Prop} {D : va_G} {B : Nat} {cA : Nat → ClassId} {ad : Nat → Nat} {cc : ByteArray} {nL : Nat} {ret : Option FieldType} {S : List zC} {I : zI} {lv : List (Nat × Value)} {st : List Value} {pc cells slots : Nat} (C : zCx p s m args meth c cc nL RL ret D B cA ad) {K : Int32 → Prop} {xa1 : Int32} (hS : zOkM S)  (h : w_M_run xa1 I K) (hR : 2 + 1 ≤ R.frames ∧ 8 + (2 + 11) + (43) ≤ R.locals) (hw : (st.map fun v => v.category).sum ≤ 8) (hd : decode cc pc = .ok (.invokevirtual 137, 3)) (hf : cells ≤ R.cells ∧ slots ≤ R.slots) (kk : ∀ v, K v → zX p l e R s m args below meth c Q D B cA nL cells slots S I lv (.int v :: st) (pc + 3)) : zX p l e R s m args below meth c Q D B cA nL cells slots S I lv (.int xa1 :: .ref (B + 491) :: st) pc :=
  zc_VpI C (ci := 12) (q := (RX12, TX12, 82)) (k := 491) (fs := [none, some (some 492), some (some 493), none, some (some 494), none, some (some 495), none, none, none, some (some 496), some (some 497), some (some 498), some (some 499), some (some 500), none, some (some 501), some (some 502), some (some 503), none, some (some 504), some (some 505), some (some 506), some (some 507), some (some 508), none, some (some 509), some (some 510), some (some 511), some (some 512), some (some 513), some (some 514), some (some 515), some (some 516), some (some 517), some (some 518), none, none, some (some 519), none, some (some 520), none, none, none, some (some 521), some (some 522), some (some 523), some (some 524), some (some 525), some (some 526), some (some 527), none, some (some 528), none, some (some 529), none, some (some 530), some (some 531), some (some 532), none, some (some 533), some (some 534), some (some 535), some (some 536), some (some 537), none, none, none, some (some 538), some (some 539), some (some 540), none, none, none, some (some 541), none, none, some (some 542), some (some 543), some (some 544), none, some (some 545)]) (As := [.int xa1]) (st := st) rfl (hS _ _ zs_491) (c_M_run hS h) (zgV zk_ml_L_137 zk_im_yX12_run zk_se_yX12_run zk_in_12 zk_cd_yX12_run) zsg_yX12_run hR rfl rfl hw hd hf kk
theorem zv_L_138t {p : Program} {l : Launch} {e : Env} {R : Room} {s : State} {m : MethodId} {args : Array Value} {below : List Frame} {meth : Method} {c : Code} {Q : State → Prop} {D : va_G} {B : Nat} {cA : Nat → ClassId} {ad : Nat → Nat} {cc : ByteArray} {nL : Nat} {ret : Option FieldType} {S : List zC} {I : zI} {lv : List (Nat × Value)} {st : List Value} {pc cells slots : Nat} (C : zCx p s m args meth c cc nL RL ret D B cA ad) {K : Int32 → Prop} {xa1 : Int32} (hS : zOkX S)  (h : w_Desk_value xa1 I K) (hR : 2 + 1 ≤ R.frames ∧ 8 + (2 + 11) + (43) ≤ R.locals) (hw : (st.map fun v => v.category).sum ≤ 8) (hd : decode cc pc = .ok (.invokevirtual 138, 3)) (hf : cells ≤ R.cells ∧ slots ≤ R.slots) (kk : ∀ v, K v → zX p l e R s m args below meth c Q D B cA nL cells slots S I lv (.int v :: st) (pc + 3)) : zX p l e R s m args below meth c Q D B cA nL cells slots S I lv (.int xa1 :: .ref (B + 0) :: st) pc :=
  zc_VpI C (ci := 11) (q := (RX11, TX11, 19)) (k := 0) (fs := [some (some 1), none, some (some 3), some (some 4), none, none, none, none, some (some 22), some (some 24), some (some 43), some (some 64), some (some 69), some (some 88), some (some 97), some (some 100), some (some 109), some (some 111), none]) (As := [.int xa1]) (st := st) rfl (hS _ _ zs_0) (c_Desk_value hS h) (zgV zk_ml_L_138 zk_im_yX11_value zk_se_yX11_value zk_in_11 zk_cd_yX11_value) zsg_yX11_value hR rfl rfl hw hd hf kk
theorem zv_L_141t {p : Program} {l : Launch} {e : Env} {R : Room} {s : State} {m : MethodId} {args : Array Value} {below : List Frame} {meth : Method} {c : Code} {Q : State → Prop} {D : va_G} {B : Nat} {cA : Nat → ClassId} {ad : Nat → Nat} {cc : ByteArray} {nL : Nat} {ret : Option FieldType} {S : List zC} {I : zI} {lv : List (Nat × Value)} {st : List Value} {pc cells slots : Nat} (C : zCx p s m args meth c cc nL RL ret D B cA ad) {K : Int32 → zI → Prop} {xa1 : Int32} (hS : zOkM S)  (h : w_M_value xa1 I K) (hR : 3 + 1 ≤ R.frames ∧ 8 + (2 + 11) + (76) ≤ R.locals) (hw : (st.map fun v => v.category).sum ≤ 8) (hd : decode cc pc = .ok (.invokevirtual 141, 3)) (hf : cells ≤ R.cells ∧ slots ≤ R.slots) (kk : ∀ v I2, K v I2 → zX p l e R s m args below meth c Q D B cA nL cells slots S I2 lv (.int v :: st) (pc + 3)) : zX p l e R s m args below meth c Q D B cA nL cells slots S I lv (.int xa1 :: .ref (B + 491) :: st) pc :=
  zc_VqI C (ci := 12) (q := (RX12, TX12, 82)) (k := 491) (fs := [none, some (some 492), some (some 493), none, some (some 494), none, some (some 495), none, none, none, some (some 496), some (some 497), some (some 498), some (some 499), some (some 500), none, some (some 501), some (some 502), some (some 503), none, some (some 504), some (some 505), some (some 506), some (some 507), some (some 508), none, some (some 509), some (some 510), some (some 511), some (some 512), some (some 513), some (some 514), some (some 515), some (some 516), some (some 517), some (some 518), none, none, some (some 519), none, some (some 520), none, none, none, some (some 521), some (some 522), some (some 523), some (some 524), some (some 525), some (some 526), some (some 527), none, some (some 528), none, some (some 529), none, some (some 530), some (some 531), some (some 532), none, some (some 533), some (some 534), some (some 535), some (some 536), some (some 537), none, none, none, some (some 538), some (some 539), some (some 540), none, none, none, some (some 541), none, none, some (some 542), some (some 543), some (some 544), none, some (some 545)]) (As := [.int xa1]) (st := st) rfl (hS _ _ zs_491) (c_M_value hS h) (zgV zk_ml_L_141 zk_im_yX12_value zk_se_yX12_value zk_in_12 zk_cd_yX12_value) zsg_yX12_value hR rfl rfl hw hd hf kk
theorem zv_L_142t {p : Program} {l : Launch} {e : Env} {R : Room} {s : State} {m : MethodId} {args : Array Value} {below : List Frame} {meth : Method} {c : Code} {Q : State → Prop} {D : va_G} {B : Nat} {cA : Nat → ClassId} {ad : Nat → Nat} {cc : ByteArray} {nL : Nat} {ret : Option FieldType} {S : List zC} {I : zI} {lv : List (Nat × Value)} {st : List Value} {pc cells slots : Nat} (C : zCx p s m args meth c cc nL RL ret D B cA ad) {K : Int32 → Prop} {xa1 : Int32} (hS : zOkX S)  (h : w_Desk_worth xa1 I K) (hR : 3 + 1 ≤ R.frames ∧ 8 + (2 + 11) + (64) ≤ R.locals) (hw : (st.map fun v => v.category).sum ≤ 8) (hd : decode cc pc = .ok (.invokevirtual 142, 3)) (hf : cells ≤ R.cells ∧ slots ≤ R.slots) (kk : ∀ v, K v → zX p l e R s m args below meth c Q D B cA nL cells slots S I lv (.int v :: st) (pc + 3)) : zX p l e R s m args below meth c Q D B cA nL cells slots S I lv (.int xa1 :: .ref (B + 0) :: st) pc :=
  zc_VpI C (ci := 11) (q := (RX11, TX11, 19)) (k := 0) (fs := [some (some 1), none, some (some 3), some (some 4), none, none, none, none, some (some 22), some (some 24), some (some 43), some (some 64), some (some 69), some (some 88), some (some 97), some (some 100), some (some 109), some (some 111), none]) (As := [.int xa1]) (st := st) rfl (hS _ _ zs_0) (c_Desk_worth hS h) (zgV zk_ml_L_142 zk_im_yX11_worth zk_se_yX11_worth zk_in_11 zk_cd_yX11_worth) zsg_yX11_worth hR rfl rfl hw hd hf kk
theorem zv_L_145t {p : Program} {l : Launch} {e : Env} {R : Room} {s : State} {m : MethodId} {args : Array Value} {below : List Frame} {meth : Method} {c : Code} {Q : State → Prop} {D : va_G} {B : Nat} {cA : Nat → ClassId} {ad : Nat → Nat} {cc : ByteArray} {nL : Nat} {ret : Option FieldType} {S : List zC} {I : zI} {lv : List (Nat × Value)} {st : List Value} {pc cells slots : Nat} (C : zCx p s m args meth c cc nL RL ret D B cA ad) {K : Int32 → zI → Prop} {xa1 : Int32} (hS : zOkM S)  (h : w_M_worth xa1 I K) (hR : 3 + 1 ≤ R.frames ∧ 8 + (2 + 11) + (76) ≤ R.locals) (hw : (st.map fun v => v.category).sum ≤ 8) (hd : decode cc pc = .ok (.invokevirtual 145, 3)) (hf : cells ≤ R.cells ∧ slots ≤ R.slots) (kk : ∀ v I2, K v I2 → zX p l e R s m args below meth c Q D B cA nL cells slots S I2 lv (.int v :: st) (pc + 3)) : zX p l e R s m args below meth c Q D B cA nL cells slots S I lv (.int xa1 :: .ref (B + 491) :: st) pc :=
  zc_VqI C (ci := 12) (q := (RX12, TX12, 82)) (k := 491) (fs := [none, some (some 492), some (some 493), none, some (some 494), none, some (some 495), none, none, none, some (some 496), some (some 497), some (some 498), some (some 499), some (some 500), none, some (some 501), some (some 502), some (some 503), none, some (some 504), some (some 505), some (some 506), some (some 507), some (some 508), none, some (some 509), some (some 510), some (some 511), some (some 512), some (some 513), some (some 514), some (some 515), some (some 516), some (some 517), some (some 518), none, none, some (some 519), none, some (some 520), none, none, none, some (some 521), some (some 522), some (some 523), some (some 524), some (some 525), some (some 526), some (some 527), none, some (some 528), none, some (some 529), none, some (some 530), some (some 531), some (some 532), none, some (some 533), some (some 534), some (some 535), some (some 536), some (some 537), none, none, none, some (some 538), some (some 539), some (some 540), none, none, none, some (some 541), none, none, some (some 542), some (some 543), some (some 544), none, some (some 545)]) (As := [.int xa1]) (st := st) rfl (hS _ _ zs_491) (c_M_worth hS h) (zgV zk_ml_L_145 zk_im_yX12_worth zk_se_yX12_worth zk_in_12 zk_cd_yX12_worth) zsg_yX12_worth hR rfl rfl hw hd hf kk
theorem zv_L_146t {p : Program} {l : Launch} {e : Env} {R : Room} {s : State} {m : MethodId} {args : Array Value} {below : List Frame} {meth : Method} {c : Code} {Q : State → Prop} {D : va_G} {B : Nat} {cA : Nat → ClassId} {ad : Nat → Nat} {cc : ByteArray} {nL : Nat} {ret : Option FieldType} {S : List zC} {I : zI} {lv : List (Nat × Value)} {st : List Value} {pc cells slots : Nat} (C : zCx p s m args meth c cc nL RL ret D B cA ad) {K : Int32 → Prop} {xa1 : Int32} {xa2 : Int32} (hS : zOkX S)  (h : w_Desk_above xa1 xa2 I K) (hR : 4 + 1 ≤ R.frames ∧ 8 + (4 + 11) + (88) ≤ R.locals) (hw : (st.map fun v => v.category).sum ≤ 8) (hd : decode cc pc = .ok (.invokevirtual 146, 3)) (hf : cells ≤ R.cells ∧ slots ≤ R.slots) (kk : ∀ v, K v → zX p l e R s m args below meth c Q D B cA nL cells slots S I lv (.int v :: st) (pc + 3)) : zX p l e R s m args below meth c Q D B cA nL cells slots S I lv (.int xa2 :: .int xa1 :: .ref (B + 0) :: st) pc :=
  zc_VpI C (ci := 11) (q := (RX11, TX11, 19)) (k := 0) (fs := [some (some 1), none, some (some 3), some (some 4), none, none, none, none, some (some 22), some (some 24), some (some 43), some (some 64), some (some 69), some (some 88), some (some 97), some (some 100), some (some 109), some (some 111), none]) (As := [.int xa1, .int xa2]) (st := st) rfl (hS _ _ zs_0) (c_Desk_above hS h) (zgV zk_ml_L_146 zk_im_yX11_above zk_se_yX11_above zk_in_11 zk_cd_yX11_above) zsg_yX11_above hR rfl rfl hw hd hf kk
theorem zv_L_149t {p : Program} {l : Launch} {e : Env} {R : Room} {s : State} {m : MethodId} {args : Array Value} {below : List Frame} {meth : Method} {c : Code} {Q : State → Prop} {D : va_G} {B : Nat} {cA : Nat → ClassId} {ad : Nat → Nat} {cc : ByteArray} {nL : Nat} {ret : Option FieldType} {S : List zC} {I : zI} {lv : List (Nat × Value)} {st : List Value} {pc cells slots : Nat} (C : zCx p s m args meth c cc nL RL ret D B cA ad) {K : Int32 → Prop} {xa1 : Int32} {xa2 : Int32} (hS : zOkM S)  (h : w_M_above xa1 xa2 I K) (hR : 2 + 1 ≤ R.frames ∧ 8 + (4 + 11) + (43) ≤ R.locals) (hw : (st.map fun v => v.category).sum ≤ 8) (hd : decode cc pc = .ok (.invokevirtual 149, 3)) (hf : cells ≤ R.cells ∧ slots ≤ R.slots) (kk : ∀ v, K v → zX p l e R s m args below meth c Q D B cA nL cells slots S I lv (.int v :: st) (pc + 3)) : zX p l e R s m args below meth c Q D B cA nL cells slots S I lv (.int xa2 :: .int xa1 :: .ref (B + 491) :: st) pc :=
  zc_VpI C (ci := 12) (q := (RX12, TX12, 82)) (k := 491) (fs := [none, some (some 492), some (some 493), none, some (some 494), none, some (some 495), none, none, none, some (some 496), some (some 497), some (some 498), some (some 499), some (some 500), none, some (some 501), some (some 502), some (some 503), none, some (some 504), some (some 505), some (some 506), some (some 507), some (some 508), none, some (some 509), some (some 510), some (some 511), some (some 512), some (some 513), some (some 514), some (some 515), some (some 516), some (some 517), some (some 518), none, none, some (some 519), none, some (some 520), none, none, none, some (some 521), some (some 522), some (some 523), some (some 524), some (some 525), some (some 526), some (some 527), none, some (some 528), none, some (some 529), none, some (some 530), some (some 531), some (some 532), none, some (some 533), some (some 534), some (some 535), some (some 536), some (some 537), none, none, none, some (some 538), some (some 539), some (some 540), none, none, none, some (some 541), none, none, some (some 542), some (some 543), some (some 544), none, some (some 545)]) (As := [.int xa1, .int xa2]) (st := st) rfl (hS _ _ zs_491) (c_M_above hS h) (zgV zk_ml_L_149 zk_im_yX12_above zk_se_yX12_above zk_in_12 zk_cd_yX12_above) zsg_yX12_above hR rfl rfl hw hd hf kk
theorem zv_L_150t {p : Program} {l : Launch} {e : Env} {R : Room} {s : State} {m : MethodId} {args : Array Value} {below : List Frame} {meth : Method} {c : Code} {Q : State → Prop} {D : va_G} {B : Nat} {cA : Nat → ClassId} {ad : Nat → Nat} {cc : ByteArray} {nL : Nat} {ret : Option FieldType} {S : List zC} {I : zI} {lv : List (Nat × Value)} {st : List Value} {pc cells slots : Nat} (C : zCx p s m args meth c cc nL RL ret D B cA ad) {K : Int32 → Prop} {xa1 : Int32} {xa2 : Int32} (hS : zOkX S)  (h : w_Desk_common xa1 xa2 I K) (hR : 4 + 1 ≤ R.frames ∧ 8 + (5 + 11) + (89) ≤ R.locals) (hw : (st.map fun v => v.category).sum ≤ 8) (hd : decode cc pc = .ok (.invokevirtual 150, 3)) (hf : cells ≤ R.cells ∧ slots ≤ R.slots) (kk : ∀ v, K v → zX p l e R s m args below meth c Q D B cA nL cells slots S I lv (.int v :: st) (pc + 3)) : zX p l e R s m args below meth c Q D B cA nL cells slots S I lv (.int xa2 :: .int xa1 :: .ref (B + 0) :: st) pc :=
  zc_VpI C (ci := 11) (q := (RX11, TX11, 19)) (k := 0) (fs := [some (some 1), none, some (some 3), some (some 4), none, none, none, none, some (some 22), some (some 24), some (some 43), some (some 64), some (some 69), some (some 88), some (some 97), some (some 100), some (some 109), some (some 111), none]) (As := [.int xa1, .int xa2]) (st := st) rfl (hS _ _ zs_0) (c_Desk_common hS h) (zgV zk_ml_L_150 zk_im_yX11_common zk_se_yX11_common zk_in_11 zk_cd_yX11_common) zsg_yX11_common hR rfl rfl hw hd hf kk
theorem zv_L_153t {p : Program} {l : Launch} {e : Env} {R : Room} {s : State} {m : MethodId} {args : Array Value} {below : List Frame} {meth : Method} {c : Code} {Q : State → Prop} {D : va_G} {B : Nat} {cA : Nat → ClassId} {ad : Nat → Nat} {cc : ByteArray} {nL : Nat} {ret : Option FieldType} {S : List zC} {I : zI} {lv : List (Nat × Value)} {st : List Value} {pc cells slots : Nat} (C : zCx p s m args meth c cc nL RL ret D B cA ad) {K : Int32 → Prop} {xa1 : Int32} {xa2 : Int32} (hS : zOkM S)  (h : w_M_common xa1 xa2 I K) (hR : 2 + 1 ≤ R.frames ∧ 8 + (5 + 11) + (43) ≤ R.locals) (hw : (st.map fun v => v.category).sum ≤ 8) (hd : decode cc pc = .ok (.invokevirtual 153, 3)) (hf : cells ≤ R.cells ∧ slots ≤ R.slots) (kk : ∀ v, K v → zX p l e R s m args below meth c Q D B cA nL cells slots S I lv (.int v :: st) (pc + 3)) : zX p l e R s m args below meth c Q D B cA nL cells slots S I lv (.int xa2 :: .int xa1 :: .ref (B + 491) :: st) pc :=
  zc_VpI C (ci := 12) (q := (RX12, TX12, 82)) (k := 491) (fs := [none, some (some 492), some (some 493), none, some (some 494), none, some (some 495), none, none, none, some (some 496), some (some 497), some (some 498), some (some 499), some (some 500), none, some (some 501), some (some 502), some (some 503), none, some (some 504), some (some 505), some (some 506), some (some 507), some (some 508), none, some (some 509), some (some 510), some (some 511), some (some 512), some (some 513), some (some 514), some (some 515), some (some 516), some (some 517), some (some 518), none, none, some (some 519), none, some (some 520), none, none, none, some (some 521), some (some 522), some (some 523), some (some 524), some (some 525), some (some 526), some (some 527), none, some (some 528), none, some (some 529), none, some (some 530), some (some 531), some (some 532), none, some (some 533), some (some 534), some (some 535), some (some 536), some (some 537), none, none, none, some (some 538), some (some 539), some (some 540), none, none, none, some (some 541), none, none, some (some 542), some (some 543), some (some 544), none, some (some 545)]) (As := [.int xa1, .int xa2]) (st := st) rfl (hS _ _ zs_491) (c_M_common hS h) (zgV zk_ml_L_153 zk_im_yX12_common zk_se_yX12_common zk_in_12 zk_cd_yX12_common) zsg_yX12_common hR rfl rfl hw hd hf kk
theorem zv_L_154t {p : Program} {l : Launch} {e : Env} {R : Room} {s : State} {m : MethodId} {args : Array Value} {below : List Frame} {meth : Method} {c : Code} {Q : State → Prop} {D : va_G} {B : Nat} {cA : Nat → ClassId} {ad : Nat → Nat} {cc : ByteArray} {nL : Nat} {ret : Option FieldType} {S : List zC} {I : zI} {lv : List (Nat × Value)} {st : List Value} {pc cells slots : Nat} (C : zCx p s m args meth c cc nL RL ret D B cA ad) {K : Int32 → Prop} {xa1 : Int32} (hS : zOkX S)  (h : w_Desk_uses xa1 I K) (hR : 2 + 1 ≤ R.frames ∧ 8 + (2 + 11) + (43) ≤ R.locals) (hw : (st.map fun v => v.category).sum ≤ 8) (hd : decode cc pc = .ok (.invokevirtual 154, 3)) (hf : cells ≤ R.cells ∧ slots ≤ R.slots) (kk : ∀ v, K v → zX p l e R s m args below meth c Q D B cA nL cells slots S I lv (.int v :: st) (pc + 3)) : zX p l e R s m args below meth c Q D B cA nL cells slots S I lv (.int xa1 :: .ref (B + 0) :: st) pc :=
  zc_VpI C (ci := 11) (q := (RX11, TX11, 19)) (k := 0) (fs := [some (some 1), none, some (some 3), some (some 4), none, none, none, none, some (some 22), some (some 24), some (some 43), some (some 64), some (some 69), some (some 88), some (some 97), some (some 100), some (some 109), some (some 111), none]) (As := [.int xa1]) (st := st) rfl (hS _ _ zs_0) (c_Desk_uses hS h) (zgV zk_ml_L_154 zk_im_yX11_uses zk_se_yX11_uses zk_in_11 zk_cd_yX11_uses) zsg_yX11_uses hR rfl rfl hw hd hf kk
theorem zv_L_157t {p : Program} {l : Launch} {e : Env} {R : Room} {s : State} {m : MethodId} {args : Array Value} {below : List Frame} {meth : Method} {c : Code} {Q : State → Prop} {D : va_G} {B : Nat} {cA : Nat → ClassId} {ad : Nat → Nat} {cc : ByteArray} {nL : Nat} {ret : Option FieldType} {S : List zC} {I : zI} {lv : List (Nat × Value)} {st : List Value} {pc cells slots : Nat} (C : zCx p s m args meth c cc nL RL ret D B cA ad) {K : Int32 → Prop} {xa1 : Int32} (hS : zOkM S)  (h : w_M_uses xa1 I K) (hR : 2 + 1 ≤ R.frames ∧ 8 + (5 + 11) + (43) ≤ R.locals) (hw : (st.map fun v => v.category).sum ≤ 8) (hd : decode cc pc = .ok (.invokevirtual 157, 3)) (hf : cells ≤ R.cells ∧ slots ≤ R.slots) (kk : ∀ v, K v → zX p l e R s m args below meth c Q D B cA nL cells slots S I lv (.int v :: st) (pc + 3)) : zX p l e R s m args below meth c Q D B cA nL cells slots S I lv (.int xa1 :: .ref (B + 491) :: st) pc :=
  zc_VpI C (ci := 12) (q := (RX12, TX12, 82)) (k := 491) (fs := [none, some (some 492), some (some 493), none, some (some 494), none, some (some 495), none, none, none, some (some 496), some (some 497), some (some 498), some (some 499), some (some 500), none, some (some 501), some (some 502), some (some 503), none, some (some 504), some (some 505), some (some 506), some (some 507), some (some 508), none, some (some 509), some (some 510), some (some 511), some (some 512), some (some 513), some (some 514), some (some 515), some (some 516), some (some 517), some (some 518), none, none, some (some 519), none, some (some 520), none, none, none, some (some 521), some (some 522), some (some 523), some (some 524), some (some 525), some (some 526), some (some 527), none, some (some 528), none, some (some 529), none, some (some 530), some (some 531), some (some 532), none, some (some 533), some (some 534), some (some 535), some (some 536), some (some 537), none, none, none, some (some 538), some (some 539), some (some 540), none, none, none, some (some 541), none, none, some (some 542), some (some 543), some (some 544), none, some (some 545)]) (As := [.int xa1]) (st := st) rfl (hS _ _ zs_491) (c_M_uses hS h) (zgV zk_ml_L_157 zk_im_yX12_uses zk_se_yX12_uses zk_in_12 zk_cd_yX12_uses) zsg_yX12_uses hR rfl rfl hw hd hf kk
theorem zv_L_158t {p : Program} {l : Launch} {e : Env} {R : Room} {s : State} {m : MethodId} {args : Array Value} {below : List Frame} {meth : Method} {c : Code} {Q : State → Prop} {D : va_G} {B : Nat} {cA : Nat → ClassId} {ad : Nat → Nat} {cc : ByteArray} {nL : Nat} {ret : Option FieldType} {S : List zC} {I : zI} {lv : List (Nat × Value)} {st : List Value} {pc cells slots : Nat} (C : zCx p s m args meth c cc nL RL ret D B cA ad) {K : Int32 → Prop} {xa1 : Int32} (hS : zOkX S)  (h : w_Desk_idle xa1 I K) (hR : 1 + 1 ≤ R.frames ∧ 8 + (2 + 11) + (21) ≤ R.locals) (hw : (st.map fun v => v.category).sum ≤ 8) (hd : decode cc pc = .ok (.invokevirtual 158, 3)) (hf : cells ≤ R.cells ∧ slots ≤ R.slots) (kk : ∀ v, K v → zX p l e R s m args below meth c Q D B cA nL cells slots S I lv (.int v :: st) (pc + 3)) : zX p l e R s m args below meth c Q D B cA nL cells slots S I lv (.int xa1 :: .ref (B + 0) :: st) pc :=
  zc_VpI C (ci := 11) (q := (RX11, TX11, 19)) (k := 0) (fs := [some (some 1), none, some (some 3), some (some 4), none, none, none, none, some (some 22), some (some 24), some (some 43), some (some 64), some (some 69), some (some 88), some (some 97), some (some 100), some (some 109), some (some 111), none]) (As := [.int xa1]) (st := st) rfl (hS _ _ zs_0) (c_Desk_idle hS h) (zgV zk_ml_L_158 zk_im_yX11_idle zk_se_yX11_idle zk_in_11 zk_cd_yX11_idle) zsg_yX11_idle hR rfl rfl hw hd hf kk
theorem zv_L_161t {p : Program} {l : Launch} {e : Env} {R : Room} {s : State} {m : MethodId} {args : Array Value} {below : List Frame} {meth : Method} {c : Code} {Q : State → Prop} {D : va_G} {B : Nat} {cA : Nat → ClassId} {ad : Nat → Nat} {cc : ByteArray} {nL : Nat} {ret : Option FieldType} {S : List zC} {I : zI} {lv : List (Nat × Value)} {st : List Value} {pc cells slots : Nat} (C : zCx p s m args meth c cc nL RL ret D B cA ad) {K : Int32 → Prop} {xa1 : Int32} (hS : zOkM S)  (h : w_M_idle xa1 I K) (hR : 3 + 1 ≤ R.frames ∧ 8 + (5 + 11) + (69) ≤ R.locals) (hw : (st.map fun v => v.category).sum ≤ 8) (hd : decode cc pc = .ok (.invokevirtual 161, 3)) (hf : cells ≤ R.cells ∧ slots ≤ R.slots) (kk : ∀ v, K v → zX p l e R s m args below meth c Q D B cA nL cells slots S I lv (.int v :: st) (pc + 3)) : zX p l e R s m args below meth c Q D B cA nL cells slots S I lv (.int xa1 :: .ref (B + 491) :: st) pc :=
  zc_VpI C (ci := 12) (q := (RX12, TX12, 82)) (k := 491) (fs := [none, some (some 492), some (some 493), none, some (some 494), none, some (some 495), none, none, none, some (some 496), some (some 497), some (some 498), some (some 499), some (some 500), none, some (some 501), some (some 502), some (some 503), none, some (some 504), some (some 505), some (some 506), some (some 507), some (some 508), none, some (some 509), some (some 510), some (some 511), some (some 512), some (some 513), some (some 514), some (some 515), some (some 516), some (some 517), some (some 518), none, none, some (some 519), none, some (some 520), none, none, none, some (some 521), some (some 522), some (some 523), some (some 524), some (some 525), some (some 526), some (some 527), none, some (some 528), none, some (some 529), none, some (some 530), some (some 531), some (some 532), none, some (some 533), some (some 534), some (some 535), some (some 536), some (some 537), none, none, none, some (some 538), some (some 539), some (some 540), none, none, none, some (some 541), none, none, some (some 542), some (some 543), some (some 544), none, some (some 545)]) (As := [.int xa1]) (st := st) rfl (hS _ _ zs_491) (c_M_idle hS h) (zgV zk_ml_L_161 zk_im_yX12_idle zk_se_yX12_idle zk_in_12 zk_cd_yX12_idle) zsg_yX12_idle hR rfl rfl hw hd hf kk
theorem zv_L_162t {p : Program} {l : Launch} {e : Env} {R : Room} {s : State} {m : MethodId} {args : Array Value} {below : List Frame} {meth : Method} {c : Code} {Q : State → Prop} {D : va_G} {B : Nat} {cA : Nat → ClassId} {ad : Nat → Nat} {cc : ByteArray} {nL : Nat} {ret : Option FieldType} {S : List zC} {I : zI} {lv : List (Nat × Value)} {st : List Value} {pc cells slots : Nat} (C : zCx p s m args meth c cc nL RL ret D B cA ad) {K : Int32 → Prop} {xa1 : Int32} (hS : zOkX S)  (h : w_Desk_firm xa1 I K) (hR : 3 + 1 ≤ R.frames ∧ 8 + (2 + 11) + (66) ≤ R.locals) (hw : (st.map fun v => v.category).sum ≤ 8) (hd : decode cc pc = .ok (.invokevirtual 162, 3)) (hf : cells ≤ R.cells ∧ slots ≤ R.slots) (kk : ∀ v, K v → zX p l e R s m args below meth c Q D B cA nL cells slots S I lv (.int v :: st) (pc + 3)) : zX p l e R s m args below meth c Q D B cA nL cells slots S I lv (.int xa1 :: .ref (B + 0) :: st) pc :=
  zc_VpI C (ci := 11) (q := (RX11, TX11, 19)) (k := 0) (fs := [some (some 1), none, some (some 3), some (some 4), none, none, none, none, some (some 22), some (some 24), some (some 43), some (some 64), some (some 69), some (some 88), some (some 97), some (some 100), some (some 109), some (some 111), none]) (As := [.int xa1]) (st := st) rfl (hS _ _ zs_0) (c_Desk_firm hS h) (zgV zk_ml_L_162 zk_im_yX11_firm zk_se_yX11_firm zk_in_11 zk_cd_yX11_firm) zsg_yX11_firm hR rfl rfl hw hd hf kk
theorem zv_L_165t {p : Program} {l : Launch} {e : Env} {R : Room} {s : State} {m : MethodId} {args : Array Value} {below : List Frame} {meth : Method} {c : Code} {Q : State → Prop} {D : va_G} {B : Nat} {cA : Nat → ClassId} {ad : Nat → Nat} {cc : ByteArray} {nL : Nat} {ret : Option FieldType} {S : List zC} {I : zI} {lv : List (Nat × Value)} {st : List Value} {pc cells slots : Nat} (C : zCx p s m args meth c cc nL RL ret D B cA ad) {K : Int32 → Prop} {xa1 : Int32} (hS : zOkM S)  (h : w_M_firm xa1 I K) (hR : 3 + 1 ≤ R.frames ∧ 8 + (4 + 11) + (64) ≤ R.locals) (hw : (st.map fun v => v.category).sum ≤ 8) (hd : decode cc pc = .ok (.invokevirtual 165, 3)) (hf : cells ≤ R.cells ∧ slots ≤ R.slots) (kk : ∀ v, K v → zX p l e R s m args below meth c Q D B cA nL cells slots S I lv (.int v :: st) (pc + 3)) : zX p l e R s m args below meth c Q D B cA nL cells slots S I lv (.int xa1 :: .ref (B + 491) :: st) pc :=
  zc_VpI C (ci := 12) (q := (RX12, TX12, 82)) (k := 491) (fs := [none, some (some 492), some (some 493), none, some (some 494), none, some (some 495), none, none, none, some (some 496), some (some 497), some (some 498), some (some 499), some (some 500), none, some (some 501), some (some 502), some (some 503), none, some (some 504), some (some 505), some (some 506), some (some 507), some (some 508), none, some (some 509), some (some 510), some (some 511), some (some 512), some (some 513), some (some 514), some (some 515), some (some 516), some (some 517), some (some 518), none, none, some (some 519), none, some (some 520), none, none, none, some (some 521), some (some 522), some (some 523), some (some 524), some (some 525), some (some 526), some (some 527), none, some (some 528), none, some (some 529), none, some (some 530), some (some 531), some (some 532), none, some (some 533), some (some 534), some (some 535), some (some 536), some (some 537), none, none, none, some (some 538), some (some 539), some (some 540), none, none, none, some (some 541), none, none, some (some 542), some (some 543), some (some 544), none, some (some 545)]) (As := [.int xa1]) (st := st) rfl (hS _ _ zs_491) (c_M_firm hS h) (zgV zk_ml_L_165 zk_im_yX12_firm zk_se_yX12_firm zk_in_12 zk_cd_yX12_firm) zsg_yX12_firm hR rfl rfl hw hd hf kk
theorem zv_L_166t {p : Program} {l : Launch} {e : Env} {R : Room} {s : State} {m : MethodId} {args : Array Value} {below : List Frame} {meth : Method} {c : Code} {Q : State → Prop} {D : va_G} {B : Nat} {cA : Nat → ClassId} {ad : Nat → Nat} {cc : ByteArray} {nL : Nat} {ret : Option FieldType} {S : List zC} {I : zI} {lv : List (Nat × Value)} {st : List Value} {pc cells slots : Nat} (C : zCx p s m args meth c cc nL RL ret D B cA ad) {K : Int32 → zI → Prop} {xa1 : Int32} {xa2 : Int32} (hS : zOkX S)  (h : w_Desk_alike xa1 xa2 I K) (hR : 5 + 1 ≤ R.frames ∧ 8 + (3 + 11) + (117) ≤ R.locals) (hw : (st.map fun v => v.category).sum ≤ 8) (hd : decode cc pc = .ok (.invokevirtual 166, 3)) (hf : cells ≤ R.cells ∧ slots ≤ R.slots) (kk : ∀ v I2, K v I2 → zX p l e R s m args below meth c Q D B cA nL cells slots S I2 lv (.int v :: st) (pc + 3)) : zX p l e R s m args below meth c Q D B cA nL cells slots S I lv (.int xa2 :: .int xa1 :: .ref (B + 0) :: st) pc :=
  zc_VqI C (ci := 11) (q := (RX11, TX11, 19)) (k := 0) (fs := [some (some 1), none, some (some 3), some (some 4), none, none, none, none, some (some 22), some (some 24), some (some 43), some (some 64), some (some 69), some (some 88), some (some 97), some (some 100), some (some 109), some (some 111), none]) (As := [.int xa1, .int xa2]) (st := st) rfl (hS _ _ zs_0) (c_Desk_alike hS h) (zgV zk_ml_L_166 zk_im_yX11_alike zk_se_yX11_alike zk_in_11 zk_cd_yX11_alike) zsg_yX11_alike hR rfl rfl hw hd hf kk
theorem zv_L_169t {p : Program} {l : Launch} {e : Env} {R : Room} {s : State} {m : MethodId} {args : Array Value} {below : List Frame} {meth : Method} {c : Code} {Q : State → Prop} {D : va_G} {B : Nat} {cA : Nat → ClassId} {ad : Nat → Nat} {cc : ByteArray} {nL : Nat} {ret : Option FieldType} {S : List zC} {I : zI} {lv : List (Nat × Value)} {st : List Value} {pc cells slots : Nat} (C : zCx p s m args meth c cc nL RL ret D B cA ad) {K : Int32 → zI → Prop} {xa1 : Int32} {xa2 : Int32} (hS : zOkM S)  (h : w_M_alike xa1 xa2 I K) (hR : 3 + 1 ≤ R.frames ∧ 8 + (5 + 11) + (70) ≤ R.locals) (hw : (st.map fun v => v.category).sum ≤ 8) (hd : decode cc pc = .ok (.invokevirtual 169, 3)) (hf : cells ≤ R.cells ∧ slots ≤ R.slots) (kk : ∀ v I2, K v I2 → zX p l e R s m args below meth c Q D B cA nL cells slots S I2 lv (.int v :: st) (pc + 3)) : zX p l e R s m args below meth c Q D B cA nL cells slots S I lv (.int xa2 :: .int xa1 :: .ref (B + 491) :: st) pc :=
  zc_VqI C (ci := 12) (q := (RX12, TX12, 82)) (k := 491) (fs := [none, some (some 492), some (some 493), none, some (some 494), none, some (some 495), none, none, none, some (some 496), some (some 497), some (some 498), some (some 499), some (some 500), none, some (some 501), some (some 502), some (some 503), none, some (some 504), some (some 505), some (some 506), some (some 507), some (some 508), none, some (some 509), some (some 510), some (some 511), some (some 512), some (some 513), some (some 514), some (some 515), some (some 516), some (some 517), some (some 518), none, none, some (some 519), none, some (some 520), none, none, none, some (some 521), some (some 522), some (some 523), some (some 524), some (some 525), some (some 526), some (some 527), none, some (some 528), none, some (some 529), none, some (some 530), some (some 531), some (some 532), none, some (some 533), some (some 534), some (some 535), some (some 536), some (some 537), none, none, none, some (some 538), some (some 539), some (some 540), none, none, none, some (some 541), none, none, some (some 542), some (some 543), some (some 544), none, some (some 545)]) (As := [.int xa1, .int xa2]) (st := st) rfl (hS _ _ zs_491) (c_M_alike hS h) (zgV zk_ml_L_169 zk_im_yX12_alike zk_se_yX12_alike zk_in_12 zk_cd_yX12_alike) zsg_yX12_alike hR rfl rfl hw hd hf kk
theorem zv_L_170t {p : Program} {l : Launch} {e : Env} {R : Room} {s : State} {m : MethodId} {args : Array Value} {below : List Frame} {meth : Method} {c : Code} {Q : State → Prop} {D : va_G} {B : Nat} {cA : Nat → ClassId} {ad : Nat → Nat} {cc : ByteArray} {nL : Nat} {ret : Option FieldType} {S : List zC} {I : zI} {lv : List (Nat × Value)} {st : List Value} {pc cells slots : Nat} (C : zCx p s m args meth c cc nL RL ret D B cA ad) {K : Int32 → Prop} {xa1 : Int32} {xa2 : Int32} (hS : zOkX S)  (h : w_Desk_path xa1 xa2 I K) (hR : 4 + 1 ≤ R.frames ∧ 8 + (4 + 11) + (89) ≤ R.locals) (hw : (st.map fun v => v.category).sum ≤ 8) (hd : decode cc pc = .ok (.invokevirtual 170, 3)) (hf : cells ≤ R.cells ∧ slots ≤ R.slots) (kk : ∀ v, K v → zX p l e R s m args below meth c Q D B cA nL cells slots S I lv (.int v :: st) (pc + 3)) : zX p l e R s m args below meth c Q D B cA nL cells slots S I lv (.int xa2 :: .int xa1 :: .ref (B + 0) :: st) pc :=
  zc_VpI C (ci := 11) (q := (RX11, TX11, 19)) (k := 0) (fs := [some (some 1), none, some (some 3), some (some 4), none, none, none, none, some (some 22), some (some 24), some (some 43), some (some 64), some (some 69), some (some 88), some (some 97), some (some 100), some (some 109), some (some 111), none]) (As := [.int xa1, .int xa2]) (st := st) rfl (hS _ _ zs_0) (c_Desk_path hS h) (zgV zk_ml_L_170 zk_im_yX11_path zk_se_yX11_path zk_in_11 zk_cd_yX11_path) zsg_yX11_path hR rfl rfl hw hd hf kk
theorem zv_L_173t {p : Program} {l : Launch} {e : Env} {R : Room} {s : State} {m : MethodId} {args : Array Value} {below : List Frame} {meth : Method} {c : Code} {Q : State → Prop} {D : va_G} {B : Nat} {cA : Nat → ClassId} {ad : Nat → Nat} {cc : ByteArray} {nL : Nat} {ret : Option FieldType} {S : List zC} {I : zI} {lv : List (Nat × Value)} {st : List Value} {pc cells slots : Nat} (C : zCx p s m args meth c cc nL RL ret D B cA ad) {K : Int32 → Prop} {xa1 : Int32} {xa2 : Int32} (hS : zOkM S)  (h : w_M_path xa1 xa2 I K) (hR : 2 + 1 ≤ R.frames ∧ 8 + (6 + 11) + (43) ≤ R.locals) (hw : (st.map fun v => v.category).sum ≤ 8) (hd : decode cc pc = .ok (.invokevirtual 173, 3)) (hf : cells ≤ R.cells ∧ slots ≤ R.slots) (kk : ∀ v, K v → zX p l e R s m args below meth c Q D B cA nL cells slots S I lv (.int v :: st) (pc + 3)) : zX p l e R s m args below meth c Q D B cA nL cells slots S I lv (.int xa2 :: .int xa1 :: .ref (B + 491) :: st) pc :=
  zc_VpI C (ci := 12) (q := (RX12, TX12, 82)) (k := 491) (fs := [none, some (some 492), some (some 493), none, some (some 494), none, some (some 495), none, none, none, some (some 496), some (some 497), some (some 498), some (some 499), some (some 500), none, some (some 501), some (some 502), some (some 503), none, some (some 504), some (some 505), some (some 506), some (some 507), some (some 508), none, some (some 509), some (some 510), some (some 511), some (some 512), some (some 513), some (some 514), some (some 515), some (some 516), some (some 517), some (some 518), none, none, some (some 519), none, some (some 520), none, none, none, some (some 521), some (some 522), some (some 523), some (some 524), some (some 525), some (some 526), some (some 527), none, some (some 528), none, some (some 529), none, some (some 530), some (some 531), some (some 532), none, some (some 533), some (some 534), some (some 535), some (some 536), some (some 537), none, none, none, some (some 538), some (some 539), some (some 540), none, none, none, some (some 541), none, none, some (some 542), some (some 543), some (some 544), none, some (some 545)]) (As := [.int xa1, .int xa2]) (st := st) rfl (hS _ _ zs_491) (c_M_path hS h) (zgV zk_ml_L_173 zk_im_yX12_path zk_se_yX12_path zk_in_12 zk_cd_yX12_path) zsg_yX12_path hR rfl rfl hw hd hf kk
theorem zv_L_174t {p : Program} {l : Launch} {e : Env} {R : Room} {s : State} {m : MethodId} {args : Array Value} {below : List Frame} {meth : Method} {c : Code} {Q : State → Prop} {D : va_G} {B : Nat} {cA : Nat → ClassId} {ad : Nat → Nat} {cc : ByteArray} {nL : Nat} {ret : Option FieldType} {S : List zC} {I : zI} {lv : List (Nat × Value)} {st : List Value} {pc cells slots : Nat} (C : zCx p s m args meth c cc nL RL ret D B cA ad) {K : Int32 → Prop} {xa1 : Int32} (hS : zOkX S)  (h : w_Desk_sets xa1 I K) (hR : 2 + 1 ≤ R.frames ∧ 8 + (2 + 11) + (43) ≤ R.locals) (hw : (st.map fun v => v.category).sum ≤ 8) (hd : decode cc pc = .ok (.invokevirtual 174, 3)) (hf : cells ≤ R.cells ∧ slots ≤ R.slots) (kk : ∀ v, K v → zX p l e R s m args below meth c Q D B cA nL cells slots S I lv (.int v :: st) (pc + 3)) : zX p l e R s m args below meth c Q D B cA nL cells slots S I lv (.int xa1 :: .ref (B + 0) :: st) pc :=
  zc_VpI C (ci := 11) (q := (RX11, TX11, 19)) (k := 0) (fs := [some (some 1), none, some (some 3), some (some 4), none, none, none, none, some (some 22), some (some 24), some (some 43), some (some 64), some (some 69), some (some 88), some (some 97), some (some 100), some (some 109), some (some 111), none]) (As := [.int xa1]) (st := st) rfl (hS _ _ zs_0) (c_Desk_sets hS h) (zgV zk_ml_L_174 zk_im_yX11_sets zk_se_yX11_sets zk_in_11 zk_cd_yX11_sets) zsg_yX11_sets hR rfl rfl hw hd hf kk
theorem zv_L_177t {p : Program} {l : Launch} {e : Env} {R : Room} {s : State} {m : MethodId} {args : Array Value} {below : List Frame} {meth : Method} {c : Code} {Q : State → Prop} {D : va_G} {B : Nat} {cA : Nat → ClassId} {ad : Nat → Nat} {cc : ByteArray} {nL : Nat} {ret : Option FieldType} {S : List zC} {I : zI} {lv : List (Nat × Value)} {st : List Value} {pc cells slots : Nat} (C : zCx p s m args meth c cc nL RL ret D B cA ad) {K : Int32 → Prop} {xa1 : Int32} (hS : zOkM S)  (h : w_M_sets xa1 I K) (hR : 2 + 1 ≤ R.frames ∧ 8 + (4 + 11) + (43) ≤ R.locals) (hw : (st.map fun v => v.category).sum ≤ 8) (hd : decode cc pc = .ok (.invokevirtual 177, 3)) (hf : cells ≤ R.cells ∧ slots ≤ R.slots) (kk : ∀ v, K v → zX p l e R s m args below meth c Q D B cA nL cells slots S I lv (.int v :: st) (pc + 3)) : zX p l e R s m args below meth c Q D B cA nL cells slots S I lv (.int xa1 :: .ref (B + 491) :: st) pc :=
  zc_VpI C (ci := 12) (q := (RX12, TX12, 82)) (k := 491) (fs := [none, some (some 492), some (some 493), none, some (some 494), none, some (some 495), none, none, none, some (some 496), some (some 497), some (some 498), some (some 499), some (some 500), none, some (some 501), some (some 502), some (some 503), none, some (some 504), some (some 505), some (some 506), some (some 507), some (some 508), none, some (some 509), some (some 510), some (some 511), some (some 512), some (some 513), some (some 514), some (some 515), some (some 516), some (some 517), some (some 518), none, none, some (some 519), none, some (some 520), none, none, none, some (some 521), some (some 522), some (some 523), some (some 524), some (some 525), some (some 526), some (some 527), none, some (some 528), none, some (some 529), none, some (some 530), some (some 531), some (some 532), none, some (some 533), some (some 534), some (some 535), some (some 536), some (some 537), none, none, none, some (some 538), some (some 539), some (some 540), none, none, none, some (some 541), none, none, some (some 542), some (some 543), some (some 544), none, some (some 545)]) (As := [.int xa1]) (st := st) rfl (hS _ _ zs_491) (c_M_sets hS h) (zgV zk_ml_L_177 zk_im_yX12_sets zk_se_yX12_sets zk_in_12 zk_cd_yX12_sets) zsg_yX12_sets hR rfl rfl hw hd hf kk
theorem zv_L_178t {p : Program} {l : Launch} {e : Env} {R : Room} {s : State} {m : MethodId} {args : Array Value} {below : List Frame} {meth : Method} {c : Code} {Q : State → Prop} {D : va_G} {B : Nat} {cA : Nat → ClassId} {ad : Nat → Nat} {cc : ByteArray} {nL : Nat} {ret : Option FieldType} {S : List zC} {I : zI} {lv : List (Nat × Value)} {st : List Value} {pc cells slots : Nat} (C : zCx p s m args meth c cc nL RL ret D B cA ad) {K : Int32 → Prop} {xa1 : Int32} (hS : zOkX S)  (h : w_Desk_count xa1 I K) (hR : 4 + 1 ≤ R.frames ∧ 8 + (3 + 11) + (89) ≤ R.locals) (hw : (st.map fun v => v.category).sum ≤ 8) (hd : decode cc pc = .ok (.invokevirtual 178, 3)) (hf : cells ≤ R.cells ∧ slots ≤ R.slots) (kk : ∀ v, K v → zX p l e R s m args below meth c Q D B cA nL cells slots S I lv (.int v :: st) (pc + 3)) : zX p l e R s m args below meth c Q D B cA nL cells slots S I lv (.int xa1 :: .ref (B + 0) :: st) pc :=
  zc_VpI C (ci := 11) (q := (RX11, TX11, 19)) (k := 0) (fs := [some (some 1), none, some (some 3), some (some 4), none, none, none, none, some (some 22), some (some 24), some (some 43), some (some 64), some (some 69), some (some 88), some (some 97), some (some 100), some (some 109), some (some 111), none]) (As := [.int xa1]) (st := st) rfl (hS _ _ zs_0) (c_Desk_count hS h) (zgV zk_ml_L_178 zk_im_yX11_count zk_se_yX11_count zk_in_11 zk_cd_yX11_count) zsg_yX11_count hR rfl rfl hw hd hf kk
theorem zv_L_181t {p : Program} {l : Launch} {e : Env} {R : Room} {s : State} {m : MethodId} {args : Array Value} {below : List Frame} {meth : Method} {c : Code} {Q : State → Prop} {D : va_G} {B : Nat} {cA : Nat → ClassId} {ad : Nat → Nat} {cc : ByteArray} {nL : Nat} {ret : Option FieldType} {S : List zC} {I : zI} {lv : List (Nat × Value)} {st : List Value} {pc cells slots : Nat} (C : zCx p s m args meth c cc nL RL ret D B cA ad) {K : Int32 → zI → Prop} {xa1 : Int32} (hS : zOkM S)  (h : w_M_count xa1 I K) (hR : 3 + 1 ≤ R.frames ∧ 8 + (4 + 11) + (70) ≤ R.locals) (hw : (st.map fun v => v.category).sum ≤ 8) (hd : decode cc pc = .ok (.invokevirtual 181, 3)) (hf : cells ≤ R.cells ∧ slots ≤ R.slots) (kk : ∀ v I2, K v I2 → zX p l e R s m args below meth c Q D B cA nL cells slots S I2 lv (.int v :: st) (pc + 3)) : zX p l e R s m args below meth c Q D B cA nL cells slots S I lv (.int xa1 :: .ref (B + 491) :: st) pc :=
  zc_VqI C (ci := 12) (q := (RX12, TX12, 82)) (k := 491) (fs := [none, some (some 492), some (some 493), none, some (some 494), none, some (some 495), none, none, none, some (some 496), some (some 497), some (some 498), some (some 499), some (some 500), none, some (some 501), some (some 502), some (some 503), none, some (some 504), some (some 505), some (some 506), some (some 507), some (some 508), none, some (some 509), some (some 510), some (some 511), some (some 512), some (some 513), some (some 514), some (some 515), some (some 516), some (some 517), some (some 518), none, none, some (some 519), none, some (some 520), none, none, none, some (some 521), some (some 522), some (some 523), some (some 524), some (some 525), some (some 526), some (some 527), none, some (some 528), none, some (some 529), none, some (some 530), some (some 531), some (some 532), none, some (some 533), some (some 534), some (some 535), some (some 536), some (some 537), none, none, none, some (some 538), some (some 539), some (some 540), none, none, none, some (some 541), none, none, some (some 542), some (some 543), some (some 544), none, some (some 545)]) (As := [.int xa1]) (st := st) rfl (hS _ _ zs_491) (c_M_count hS h) (zgV zk_ml_L_181 zk_im_yX12_count zk_se_yX12_count zk_in_12 zk_cd_yX12_count) zsg_yX12_count hR rfl rfl hw hd hf kk
theorem zl_callD {p : Program} {l : Launch} {e : Env} {R : Room} {s : State} {m : MethodId} {args : Array Value} {below : List Frame} {meth : Method} {c : Code} {Q : State → Prop} {D : va_G} {cA : Nat → ClassId} {ad : Nat → Nat} {cc : ByteArray} {nL : Nat} {own : String} {ret : Option FieldType} {cells slots : Nat} {S : List zC} {I : zI} {lv : List (Nat × Value)} {st : List Value} {pc : Nat} {B index maxL n mc ms k : Nat} {y : MethodName} {bytes : ByteArray} {rm : Room} {As st0 : List Value} {S2 : List zC} {K : zI → Prop} (C : zCx p s m args meth c cc nL own ret D B cA ad)
    (hM : Met l y (zws y bytes maxL none) rm (zPc D B cA ad [.ref (B + k)] S I) (zQc D B cA (zqV S2 K)) mc ms (fun x => B ≤ x)) (hG : GoodIn zTb (zws y bytes maxL none)) (h1 : Cond.methodLink own index y ∈ zTb) (h2 : Cond.instanceMethod y ∈ zTb) (h3 : Cond.initialized y.cls ∈ zTb) (hy1 : y.name = "<init>") (hrc : rm.cells = mc) (hrs : rm.slots = ms)
    (hy : y.cls ≠ "java/lang/invoke/MethodHandle" ∧ y.cls ≠ "java/lang/invoke/VarHandle" ∧ (parseMethodDescriptor y.desc).map (fun d => d.parameters.length) = some n) (hR : rm.frames + 1 ≤ R.frames ∧ 8 + (maxL + 11) + rm.locals ≤ R.locals)
    (hn : ([] : List Value).length = n) (hst : st0 = .ref (B + k) :: st) (hw : (st.map fun v => v.category).sum ≤ 8) (hd : decode cc pc = .ok (.invokespecial index, 3)) (hf : cells + mc ≤ R.cells ∧ slots + ms ≤ R.slots)
    (kk : ∀ I2, K I2 → zX p l e R s m args below meth c Q D B cA nL (cells + mc) (slots + ms) S2 I2 lv st (pc + 3)) : zX p l e R s m args below meth c Q D B cA nL cells slots S I lv st0 pc :=
  zr_go C (a := ([Value.ref (B + k)] : List Value).toArray) (fun H locs ls a1 a2 a3 a4 => va_runI (As := []) (rest := st) ⟨C.1, C.2.1, C.2.2.1, C.2.2.2.1, C.2.2.2.2.1⟩ hM (cwI n C.2.2.2.2.1 hG rfl hrc hrs (C.2.2.2.2.1 _ h3) (C.2.2.2.2.1 _ h1) (C.2.2.2.2.1 _ h2) hy1 hy hR) ⟨zIn.blind, fun U hU hW => ⟨rfl, zIn_of C a1 a2 a3 hU hW⟩⟩ rfl hn a4.1 hst (lv_room hw) hd hf) (fun r S' I' hq => by
    obtain ⟨rfl, rfl, hK⟩ := hq
    exact kk _ hK)
def w_law_body (L : Nat) (xs : Nat → Int32) (I : zI) : Prop :=
  ∀ (P18 : Int32 → zI → Prop), (∀ (v3_1 : Int32) (I_2 : zI), ((if ((Int32.ofNat L) - 6) < v3_1 then True else (vp_in v3_1 L ∧ (∀ x_3, x_3 = ((xs (Int32.toNatClampNeg v3_1)) &&& 63) → ∀ (P1245 : zI → Prop), (∀ (I_4 : zI), (∀ v3_5, v3_5 = (v3_1 + 6) → P18 v3_5 I_4) → P1245 I_4) → (if x_3 = 0 then (vp_in (v3_1 + 1) L ∧ (vp_in (v3_1 + 2) L ∧ (vp_in (v3_1 + 3) L ∧ (vp_in (v3_1 + 4) L ∧ (vp_in (v3_1 + 5) L ∧ (w_Desk_feed (xs (Int32.toNatClampNeg (v3_1 + 1))) (xs (Int32.toNatClampNeg (v3_1 + 2))) (xs (Int32.toNatClampNeg (v3_1 + 3))) (xs (Int32.toNatClampNeg (v3_1 + 4))) (xs (Int32.toNatClampNeg (v3_1 + 5))) I_2 (fun r_7 I_8 => vp_in (v3_1 + 1) L ∧ (vp_in (v3_1 + 2) L ∧ (vp_in (v3_1 + 3) L ∧ (vp_in (v3_1 + 4) L ∧ (vp_in (v3_1 + 5) L ∧ (w_M_feed (xs (Int32.toNatClampNeg (v3_1 + 1))) (xs (Int32.toNatClampNeg (v3_1 + 2))) (xs (Int32.toNatClampNeg (v3_1 + 3))) (xs (Int32.toNatClampNeg (v3_1 + 4))) (xs (Int32.toNatClampNeg (v3_1 + 5))) I_8 (fun r_9 I_10 => P1245 I_10))))))))))))) else (if x_3 = 1 then (vp_in (v3_1 + 1) L ∧ (w_Desk_back (xs (Int32.toNatClampNeg (v3_1 + 1))) I_2 (fun r_12 I_13 => vp_in (v3_1 + 1) L ∧ (w_M_back (xs (Int32.toNatClampNeg (v3_1 + 1))) I_13 (fun r_14 I_15 => (if r_12 = r_14 then P1245 I_15 else False)))))) else (if x_3 = 2 then (vp_in (v3_1 + 1) L ∧ (vp_in (v3_1 + 2) L ∧ (w_Desk_edit (xs (Int32.toNatClampNeg (v3_1 + 1))) (xs (Int32.toNatClampNeg (v3_1 + 2))) I_2 (fun r_18 I_19 => vp_in (v3_1 + 1) L ∧ (vp_in (v3_1 + 2) L ∧ (w_M_edit (xs (Int32.toNatClampNeg (v3_1 + 1))) (xs (Int32.toNatClampNeg (v3_1 + 2))) I_19 (fun r_20 I_21 => P1245 I_21))))))) else (if x_3 = 3 then (vp_in (v3_1 + 1) L ∧ (w_Desk_rename (xs (Int32.toNatClampNeg (v3_1 + 1))) I_2 (fun r_23 I_24 => vp_in (v3_1 + 1) L ∧ (w_M_rename (xs (Int32.toNatClampNeg (v3_1 + 1))) I_24 (fun r_25 I_26 => P1245 I_26))))) else (if x_3 = 4 then (vp_in (v3_1 + 1) L ∧ (w_Desk_cut (xs (Int32.toNatClampNeg (v3_1 + 1))) I_2 (fun r_28 I_29 => vp_in (v3_1 + 1) L ∧ (w_M_cut (xs (Int32.toNatClampNeg (v3_1 + 1))) I_29 (fun r_30 I_31 => P1245 I_31))))) else (if x_3 = 5 then (vp_in (v3_1 + 1) L ∧ (w_Desk_twin (xs (Int32.toNatClampNeg (v3_1 + 1))) I_2 (fun r_33 I_34 => vp_in (v3_1 + 1) L ∧ (w_M_twin (xs (Int32.toNatClampNeg (v3_1 + 1))) I_34 (fun r_35 I_36 => P1245 I_36))))) else (if x_3 = 6 then (vp_in (v3_1 + 1) L ∧ (w_Desk_swap (xs (Int32.toNatClampNeg (v3_1 + 1))) I_2 (fun r_38 I_39 => vp_in (v3_1 + 1) L ∧ (w_M_swap (xs (Int32.toNatClampNeg (v3_1 + 1))) I_39 (fun r_40 I_41 => P1245 I_41))))) else (if x_3 = 7 then (w_Desk_undo I_2 (fun r_43 I_44 => w_M_undo I_44 (fun r_45 I_46 => P1245 I_46))) else (if x_3 = 8 then (w_Desk_redo I_2 (fun r_48 I_49 => w_M_redo I_49 (fun r_50 I_51 => P1245 I_51))) else (if x_3 = 9 then (vp_in (v3_1 + 1) L ∧ (w_Desk_text (xs (Int32.toNatClampNeg (v3_1 + 1))) I_2 (fun r_53 => vp_in (v3_1 + 1) L ∧ (w_M_text (xs (Int32.toNatClampNeg (v3_1 + 1))) I_2 (fun r_54 => P1245 I_2))))) else (if x_3 = 10 then (vp_in (v3_1 + 1) L ∧ (vp_in (v3_1 + 2) L ∧ (w_Desk_token (xs (Int32.toNatClampNeg (v3_1 + 1))) (xs (Int32.toNatClampNeg (v3_1 + 2))) I_2 (fun r_56 => vp_in (v3_1 + 1) L ∧ (vp_in (v3_1 + 2) L ∧ (w_M_token (xs (Int32.toNatClampNeg (v3_1 + 1))) (xs (Int32.toNatClampNeg (v3_1 + 2))) I_2 (fun r_57 => P1245 I_2))))))) else (if x_3 = 11 then (vp_in (v3_1 + 1) L ∧ (w_Desk_good (xs (Int32.toNatClampNeg (v3_1 + 1))) I_2 (fun r_59 => vp_in (v3_1 + 1) L ∧ (w_M_good (xs (Int32.toNatClampNeg (v3_1 + 1))) I_2 (fun r_60 => P1245 I_2))))) else (if x_3 = 12 then (vp_in (v3_1 + 1) L ∧ (vp_in (v3_1 + 2) L ∧ (w_Desk_node (xs (Int32.toNatClampNeg (v3_1 + 1))) (xs (Int32.toNatClampNeg (v3_1 + 2))) I_2 (fun r_62 => vp_in (v3_1 + 1) L ∧ (vp_in (v3_1 + 2) L ∧ (w_M_node (xs (Int32.toNatClampNeg (v3_1 + 1))) (xs (Int32.toNatClampNeg (v3_1 + 2))) I_2 (fun r_63 => P1245 I_2))))))) else (if x_3 = 13 then (vp_in (v3_1 + 1) L ∧ (vp_in (v3_1 + 2) L ∧ (w_Desk_child (xs (Int32.toNatClampNeg (v3_1 + 1))) (xs (Int32.toNatClampNeg (v3_1 + 2))) I_2 (fun r_65 => vp_in (v3_1 + 1) L ∧ (vp_in (v3_1 + 2) L ∧ (w_M_child (xs (Int32.toNatClampNeg (v3_1 + 1))) (xs (Int32.toNatClampNeg (v3_1 + 2))) I_2 (fun r_66 => P1245 I_2))))))) else (if x_3 = 14 then (vp_in (v3_1 + 1) L ∧ (w_Desk_last (xs (Int32.toNatClampNeg (v3_1 + 1))) I_2 (fun r_68 => vp_in (v3_1 + 1) L ∧ (w_M_last (xs (Int32.toNatClampNeg (v3_1 + 1))) I_2 (fun r_69 => P1245 I_2))))) else (if x_3 = 15 then (w_Desk_fresh I_2 (fun r_71 => w_M_fresh I_2 (fun r_72 I_73 => P1245 I_73))) else (if x_3 = 16 then (vp_in (v3_1 + 1) L ∧ (w_Desk_inTheWay (xs (Int32.toNatClampNeg (v3_1 + 1))) I_2 (fun r_75 I_76 => vp_in (v3_1 + 1) L ∧ (w_M_inTheWay (xs (Int32.toNatClampNeg (v3_1 + 1))) I_76 (fun r_77 I_78 => P1245 I_78))))) else (if x_3 = 17 then (w_Desk_expected I_2 (fun r_80 I_81 => w_M_expected I_81 (fun r_82 I_83 => P1245 I_83))) else (if x_3 = 18 then (vp_in (v3_1 + 1) L ∧ (w_Desk_mend (xs (Int32.toNatClampNeg (v3_1 + 1))) I_2 (fun r_85 I_86 => vp_in (v3_1 + 1) L ∧ (w_M_mend (xs (Int32.toNatClampNeg (v3_1 + 1))) I_86 (fun r_87 I_88 => P1245 I_88))))) else (if x_3 = 19 then (vp_in (v3_1 + 1) L ∧ (w_Desk_print (xs (Int32.toNatClampNeg (v3_1 + 1))) I_2 (fun r_90 => vp_in (v3_1 + 1) L ∧ (w_M_print (xs (Int32.toNatClampNeg (v3_1 + 1))) I_2 (fun r_91 I_92 => P1245 I_92))))) else (if x_3 = 20 then (vp_in (v3_1 + 1) L ∧ (w_Desk_ruled (xs (Int32.toNatClampNeg (v3_1 + 1))) I_2 (fun r_94 => vp_in (v3_1 + 1) L ∧ (w_M_ruled (xs (Int32.toNatClampNeg (v3_1 + 1))) I_2 (fun r_95 => P1245 I_2))))) else (if x_3 = 21 then (vp_in (v3_1 + 1) L ∧ (w_Desk_row (xs (Int32.toNatClampNeg (v3_1 + 1))) I_2 (fun r_97 => vp_in (v3_1 + 1) L ∧ (w_M_row (xs (Int32.toNatClampNeg (v3_1 + 1))) I_2 (fun r_98 I_99 => P1245 I_99))))) else (if x_3 = 22 then (vp_in (v3_1 + 1) L ∧ (vp_in (v3_1 + 2) L ∧ (w_Desk_pair (xs (Int32.toNatClampNeg (v3_1 + 1))) (xs (Int32.toNatClampNeg (v3_1 + 2))) I_2 (fun r_101 => vp_in (v3_1 + 1) L ∧ (vp_in (v3_1 + 2) L ∧ (w_M_pair (xs (Int32.toNatClampNeg (v3_1 + 1))) (xs (Int32.toNatClampNeg (v3_1 + 2))) I_2 (fun r_102 => P1245 I_2))))))) else (if x_3 = 23 then (vp_in (v3_1 + 1) L ∧ (w_Desk_young (xs (Int32.toNatClampNeg (v3_1 + 1))) I_2 (fun r_104 => vp_in (v3_1 + 1) L ∧ (w_M_young (xs (Int32.toNatClampNeg (v3_1 + 1))) I_2 (fun r_105 => P1245 I_2))))) else (if x_3 = 24 then (vp_in (v3_1 + 1) L ∧ (w_Desk_beside (xs (Int32.toNatClampNeg (v3_1 + 1))) I_2 (fun r_107 => vp_in (v3_1 + 1) L ∧ (w_M_beside (xs (Int32.toNatClampNeg (v3_1 + 1))) I_2 (fun r_108 => P1245 I_2))))) else (if x_3 = 25 then (vp_in (v3_1 + 1) L ∧ (vp_in (v3_1 + 2) L ∧ (w_Desk_span (xs (Int32.toNatClampNeg (v3_1 + 1))) (xs (Int32.toNatClampNeg (v3_1 + 2))) I_2 (fun r_110 => vp_in (v3_1 + 1) L ∧ (vp_in (v3_1 + 2) L ∧ (w_M_span (xs (Int32.toNatClampNeg (v3_1 + 1))) (xs (Int32.toNatClampNeg (v3_1 + 2))) I_2 (fun r_111 => P1245 I_2))))))) else (if x_3 = 26 then (vp_in (v3_1 + 1) L ∧ (w_Desk_under (xs (Int32.toNatClampNeg (v3_1 + 1))) I_2 (fun r_113 => vp_in (v3_1 + 1) L ∧ (w_M_under (xs (Int32.toNatClampNeg (v3_1 + 1))) I_2 (fun r_114 => P1245 I_2))))) else (if x_3 = 27 then (vp_in (v3_1 + 1) L ∧ (w_Desk_before (xs (Int32.toNatClampNeg (v3_1 + 1))) I_2 (fun r_116 => vp_in (v3_1 + 1) L ∧ (w_M_before (xs (Int32.toNatClampNeg (v3_1 + 1))) I_2 (fun r_117 => P1245 I_2))))) else (if x_3 = 28 then (w_Desk_runs I_2 (fun r_119 => w_M_runs I_2 (fun r_120 => P1245 I_2))) else (if x_3 = 29 then (vp_in (v3_1 + 1) L ∧ (w_Desk_run (xs (Int32.toNatClampNeg (v3_1 + 1))) I_2 (fun r_122 => vp_in (v3_1 + 1) L ∧ (w_M_run (xs (Int32.toNatClampNeg (v3_1 + 1))) I_2 (fun r_123 => P1245 I_2))))) else (if x_3 = 30 then (vp_in (v3_1 + 1) L ∧ (w_Desk_value (xs (Int32.toNatClampNeg (v3_1 + 1))) I_2 (fun r_125 => vp_in (v3_1 + 1) L ∧ (w_M_value (xs (Int32.toNatClampNeg (v3_1 + 1))) I_2 (fun r_126 I_127 => P1245 I_127))))) else (if x_3 = 31 then (vp_in (v3_1 + 1) L ∧ (w_Desk_worth (xs (Int32.toNatClampNeg (v3_1 + 1))) I_2 (fun r_129 => vp_in (v3_1 + 1) L ∧ (w_M_worth (xs (Int32.toNatClampNeg (v3_1 + 1))) I_2 (fun r_130 I_131 => P1245 I_131))))) else (if x_3 = 32 then (vp_in (v3_1 + 1) L ∧ (vp_in (v3_1 + 2) L ∧ (w_Desk_above (xs (Int32.toNatClampNeg (v3_1 + 1))) (xs (Int32.toNatClampNeg (v3_1 + 2))) I_2 (fun r_133 => vp_in (v3_1 + 1) L ∧ (vp_in (v3_1 + 2) L ∧ (w_M_above (xs (Int32.toNatClampNeg (v3_1 + 1))) (xs (Int32.toNatClampNeg (v3_1 + 2))) I_2 (fun r_134 => P1245 I_2))))))) else (if x_3 = 33 then (vp_in (v3_1 + 1) L ∧ (vp_in (v3_1 + 2) L ∧ (w_Desk_common (xs (Int32.toNatClampNeg (v3_1 + 1))) (xs (Int32.toNatClampNeg (v3_1 + 2))) I_2 (fun r_136 => vp_in (v3_1 + 1) L ∧ (vp_in (v3_1 + 2) L ∧ (w_M_common (xs (Int32.toNatClampNeg (v3_1 + 1))) (xs (Int32.toNatClampNeg (v3_1 + 2))) I_2 (fun r_137 => P1245 I_2))))))) else (if x_3 = 34 then (vp_in (v3_1 + 1) L ∧ (w_Desk_uses (xs (Int32.toNatClampNeg (v3_1 + 1))) I_2 (fun r_139 => vp_in (v3_1 + 1) L ∧ (w_M_uses (xs (Int32.toNatClampNeg (v3_1 + 1))) I_2 (fun r_140 => P1245 I_2))))) else (if x_3 = 35 then (vp_in (v3_1 + 1) L ∧ (w_Desk_idle (xs (Int32.toNatClampNeg (v3_1 + 1))) I_2 (fun r_142 => vp_in (v3_1 + 1) L ∧ (w_M_idle (xs (Int32.toNatClampNeg (v3_1 + 1))) I_2 (fun r_143 => P1245 I_2))))) else (if x_3 = 36 then (vp_in (v3_1 + 1) L ∧ (w_Desk_firm (xs (Int32.toNatClampNeg (v3_1 + 1))) I_2 (fun r_145 => vp_in (v3_1 + 1) L ∧ (w_M_firm (xs (Int32.toNatClampNeg (v3_1 + 1))) I_2 (fun r_146 => P1245 I_2))))) else (if x_3 = 37 then (vp_in (v3_1 + 1) L ∧ (vp_in (v3_1 + 2) L ∧ (w_Desk_alike (xs (Int32.toNatClampNeg (v3_1 + 1))) (xs (Int32.toNatClampNeg (v3_1 + 2))) I_2 (fun r_148 I_149 => vp_in (v3_1 + 1) L ∧ (vp_in (v3_1 + 2) L ∧ (w_M_alike (xs (Int32.toNatClampNeg (v3_1 + 1))) (xs (Int32.toNatClampNeg (v3_1 + 2))) I_149 (fun r_150 I_151 => P1245 I_151))))))) else (if x_3 = 38 then (vp_in (v3_1 + 1) L ∧ (vp_in (v3_1 + 2) L ∧ (w_Desk_path (xs (Int32.toNatClampNeg (v3_1 + 1))) (xs (Int32.toNatClampNeg (v3_1 + 2))) I_2 (fun r_153 => vp_in (v3_1 + 1) L ∧ (vp_in (v3_1 + 2) L ∧ (w_M_path (xs (Int32.toNatClampNeg (v3_1 + 1))) (xs (Int32.toNatClampNeg (v3_1 + 2))) I_2 (fun r_154 => P1245 I_2))))))) else (if x_3 = 39 then (vp_in (v3_1 + 1) L ∧ (w_Desk_sets (xs (Int32.toNatClampNeg (v3_1 + 1))) I_2 (fun r_156 => vp_in (v3_1 + 1) L ∧ (w_M_sets (xs (Int32.toNatClampNeg (v3_1 + 1))) I_2 (fun r_157 => P1245 I_2))))) else (if x_3 = 40 then (vp_in (v3_1 + 1) L ∧ (w_Desk_count (xs (Int32.toNatClampNeg (v3_1 + 1))) I_2 (fun r_159 => vp_in (v3_1 + 1) L ∧ (w_M_count (xs (Int32.toNatClampNeg (v3_1 + 1))) I_2 (fun r_160 I_161 => P1245 I_161))))) else P1245 I_2))))))))))))))))))))))))))))))))))))))))))))) → P18 v3_1 I_2) → P18 0 I
def z00 : zI := (fun _ _ => 0, fun _ _ => 0)
def w_law (L : Nat) (xs : Nat → Int32) : Prop := w_Desk_init z00 (fun I1 => zZ I1 491 ∧ w_M_init I1 (fun I2 => w_law_body L xs I2))
set_option maxHeartbeats 40000000 in
set_option maxRecDepth 20000 in
theorem zl_body {p : Program} {l : Launch} {e : Env} {s : State} {m : MethodId} {below : List Frame} {meth : Method} {c : Code} {D : va_G} {cA : Nat → ClassId} {ad : Nat → Nat} {b L : Nat} {xs : Nat → Int32} {S : List zC} (C : zCx p s m #[Value.ref b] meth c cL_law 4 RL ret D s.heap.size cA ad) (hX : va_X b L xs s s.heap) (hbl : b < s.heap.size) (hbA : ¬ s.heap.size ≤ b) (hS : zOkM S) {I : zI} (h : w_law_body L xs I) : zX p l e room_1 s m #[Value.ref b] below meth c (lw_Z below #[Value.ref b] s) D s.heap.size cA 4 546 406967 S I [(0, .ref b), (1, .ref (B + 0)), (2, .ref (B + 491))] [] 16 := by
  unfold w_law_body at h
  refine zr_iconst C dyL_law_16 zc_i_0 ?_
  refine zr_istore_n C dyL_law_17 rfl (Nat.le_of_ble_eq_true rfl) (lv2 := [(3, .int 0), (0, .ref b), (1, .ref (B + 0)), (2, .ref (B + 491))]) rfl ?_
  refine zjn (h (fun (v3_1 : Int32) (I_2 : zI) => zX p l e room_1 s m #[Value.ref b] below meth c (lw_Z below #[Value.ref b] s) D s.heap.size cA 4 546 406967 S I_2 [(3, .int v3_1), (0, .ref b), (1, .ref (B + 0)), (2, .ref (B + 491))] [] 18) (fun v3_1 I_2 h => ?_)) (fun h => ?_)
  · refine zr_iload_n C dyL_law_18 rfl 0 rfl ?_
    refine zr_aload_n C dyL_law_19 rfl 1 rfl ?_
    refine zr_slen C hX hbl hbA dyL_law_20 ?_
    refine zr_bipush C dyL_law_21 zc_b_6 ?_
    refine zr_isub C dyL_law_23 ?_
    refine zr_icmp_gt C dyL_law_24 (tgt := 1251) (by decide) (fun hc_162 => ?_) (fun hc_162 => ?_)
    · replace h := zif_pos hc_162 h
      refine zr_iconst C dyL_law_1251 zc_i_1 ?_
      exact zr_lend C dyL_law_1252
    · replace h := zif_neg hc_162 h
      refine zr_aload_n C dyL_law_27 rfl 1 rfl ?_
      refine zr_iload_n C dyL_law_28 rfl 0 rfl ?_
      refine zr_sld C hX hbl hbA h.1 dyL_law_29 ?_
      replace h := h.2
      refine zr_bipush C dyL_law_30 zc_b_63 ?_
      refine zr_iand C dyL_law_32 ?_
      refine zn_top C (fun x_3 ex_3 => ?_)
      replace h := h x_3 ex_3
      refine zjn (h (fun (I_4 : zI) => zX p l e room_1 s m #[Value.ref b] below meth c (lw_Z below #[Value.ref b] s) D s.heap.size cA 4 546 406967 S I_4 [(3, .int v3_1), (0, .ref b), (1, .ref (B + 0)), (2, .ref (B + 491))] [] 1245) (fun I_4 h => ?_)) (fun h => ?_)
      · refine zn_iinc C (fun v3_5 => [(3, .int v3_5), (0, .ref b), (1, .ref (B + 0)), (2, .ref (B + 491))]) dyL_law_1245 0 rfl zc_i_6 (Nat.le_of_ble_eq_true rfl) (fun _ => rfl) (fun v3_5 ev3_5 => ?_)
        replace h := h v3_5 ev3_5
        refine zr_goto C dyL_law_1248 (tgt := 18) (by decide) ?_
        exact h
      by_cases hc_6 : x_3 = 0
      · replace h := zif_pos hc_6 h
        refine zr_tableIn C dyL_law_33 (by rw [hc_6]; decide) (by rw [hc_6]; decide) (off := 179) (by rw [hc_6]; decide) (tgt := 212) (by decide) ?_
        refine zr_aload_n C dyL_law_212 rfl 2 rfl ?_
        refine zr_aload_n C dyL_law_213 rfl 1 rfl ?_
        refine zr_iload_n C dyL_law_214 rfl 0 rfl ?_
        refine zr_iconst C dyL_law_215 zc_i_1 ?_
        refine zr_iadd C dyL_law_216 ?_
        refine zr_sld C hX hbl hbA h.1 dyL_law_217 ?_
        replace h := h.2
        refine zr_aload_n C dyL_law_218 rfl 1 rfl ?_
        refine zr_iload_n C dyL_law_219 rfl 0 rfl ?_
        refine zr_iconst C dyL_law_220 zc_i_2 ?_
        refine zr_iadd C dyL_law_221 ?_
        refine zr_sld C hX hbl hbA h.1 dyL_law_222 ?_
        replace h := h.2
        refine zr_aload_n C dyL_law_223 rfl 1 rfl ?_
        refine zr_iload_n C dyL_law_224 rfl 0 rfl ?_
        refine zr_iconst C dyL_law_225 zc_i_3 ?_
        refine zr_iadd C dyL_law_226 ?_
        refine zr_sld C hX hbl hbA h.1 dyL_law_227 ?_
        replace h := h.2
        refine zr_aload_n C dyL_law_228 rfl 1 rfl ?_
        refine zr_iload_n C dyL_law_229 rfl 0 rfl ?_
        refine zr_iconst C dyL_law_230 zc_i_4 ?_
        refine zr_iadd C dyL_law_231 ?_
        refine zr_sld C hX hbl hbA h.1 dyL_law_232 ?_
        replace h := h.2
        refine zr_aload_n C dyL_law_233 rfl 1 rfl ?_
        refine zr_iload_n C dyL_law_234 rfl 0 rfl ?_
        refine zr_iconst C dyL_law_235 zc_i_5 ?_
        refine zr_iadd C dyL_law_236 ?_
        refine zr_sld C hX hbl hbA h.1 dyL_law_237 ?_
        replace h := h.2
        refine zv_L_13t C hS.x (st := []) h ⟨Nat.le_of_ble_eq_true rfl, Nat.le_of_ble_eq_true rfl⟩ (Nat.le_of_ble_eq_true rfl) dyL_law_238 ⟨Nat.le_of_ble_eq_true rfl, Nat.le_of_ble_eq_true rfl⟩ (fun r_7 I_8 h => ?_)
        refine zr_pop C dyL_law_241 rfl ?_
        refine zr_aload_n C dyL_law_242 rfl 3 rfl ?_
        refine zr_aload_n C dyL_law_243 rfl 1 rfl ?_
        refine zr_iload_n C dyL_law_244 rfl 0 rfl ?_
        refine zr_iconst C dyL_law_245 zc_i_1 ?_
        refine zr_iadd C dyL_law_246 ?_
        refine zr_sld C hX hbl hbA h.1 dyL_law_247 ?_
        replace h := h.2
        refine zr_aload_n C dyL_law_248 rfl 1 rfl ?_
        refine zr_iload_n C dyL_law_249 rfl 0 rfl ?_
        refine zr_iconst C dyL_law_250 zc_i_2 ?_
        refine zr_iadd C dyL_law_251 ?_
        refine zr_sld C hX hbl hbA h.1 dyL_law_252 ?_
        replace h := h.2
        refine zr_aload_n C dyL_law_253 rfl 1 rfl ?_
        refine zr_iload_n C dyL_law_254 rfl 0 rfl ?_
        refine zr_iconst C dyL_law_255 zc_i_3 ?_
        refine zr_iadd C dyL_law_256 ?_
        refine zr_sld C hX hbl hbA h.1 dyL_law_257 ?_
        replace h := h.2
        refine zr_aload_n C dyL_law_258 rfl 1 rfl ?_
        refine zr_iload_n C dyL_law_259 rfl 0 rfl ?_
        refine zr_iconst C dyL_law_260 zc_i_4 ?_
        refine zr_iadd C dyL_law_261 ?_
        refine zr_sld C hX hbl hbA h.1 dyL_law_262 ?_
        replace h := h.2
        refine zr_aload_n C dyL_law_263 rfl 1 rfl ?_
        refine zr_iload_n C dyL_law_264 rfl 0 rfl ?_
        refine zr_iconst C dyL_law_265 zc_i_5 ?_
        refine zr_iadd C dyL_law_266 ?_
        refine zr_sld C hX hbl hbA h.1 dyL_law_267 ?_
        replace h := h.2
        refine zv_L_17t C hS (st := []) h ⟨Nat.le_of_ble_eq_true rfl, Nat.le_of_ble_eq_true rfl⟩ (Nat.le_of_ble_eq_true rfl) dyL_law_268 ⟨Nat.le_of_ble_eq_true rfl, Nat.le_of_ble_eq_true rfl⟩ (fun r_9 I_10 h => ?_)
        refine zr_pop C dyL_law_271 rfl ?_
        refine zr_goto C dyL_law_272 (tgt := 1245) (by decide) ?_
        exact h
      replace h := zif_neg hc_6 h
      by_cases hc_11 : x_3 = 1
      · replace h := zif_pos hc_11 h
        refine zr_tableIn C dyL_law_33 (by rw [hc_11]; decide) (by rw [hc_11]; decide) (off := 242) (by rw [hc_11]; decide) (tgt := 275) (by decide) ?_
        refine zr_aload_n C dyL_law_275 rfl 2 rfl ?_
        refine zr_aload_n C dyL_law_276 rfl 1 rfl ?_
        refine zr_iload_n C dyL_law_277 rfl 0 rfl ?_
        refine zr_iconst C dyL_law_278 zc_i_1 ?_
        refine zr_iadd C dyL_law_279 ?_
        refine zr_sld C hX hbl hbA h.1 dyL_law_280 ?_
        replace h := h.2
        refine zv_L_18t C hS.x (st := []) h ⟨Nat.le_of_ble_eq_true rfl, Nat.le_of_ble_eq_true rfl⟩ (Nat.le_of_ble_eq_true rfl) dyL_law_281 ⟨Nat.le_of_ble_eq_true rfl, Nat.le_of_ble_eq_true rfl⟩ (fun r_12 I_13 h => ?_)
        refine zr_aload_n C dyL_law_284 rfl 3 rfl ?_
        refine zr_aload_n C dyL_law_285 rfl 1 rfl ?_
        refine zr_iload_n C dyL_law_286 rfl 0 rfl ?_
        refine zr_iconst C dyL_law_287 zc_i_1 ?_
        refine zr_iadd C dyL_law_288 ?_
        refine zr_sld C hX hbl hbA h.1 dyL_law_289 ?_
        replace h := h.2
        refine zv_L_22t C hS (st := [.int r_12]) h ⟨Nat.le_of_ble_eq_true rfl, Nat.le_of_ble_eq_true rfl⟩ (Nat.le_of_ble_eq_true rfl) dyL_law_290 ⟨Nat.le_of_ble_eq_true rfl, Nat.le_of_ble_eq_true rfl⟩ (fun r_14 I_15 h => ?_)
        refine zr_icmp_eq C dyL_law_293 (tgt := 1245) (by decide) (fun hc_16 => ?_) (fun hc_16 => ?_)
        · replace h := zif_pos hc_16 h
          exact h
        · replace h := zif_neg hc_16 h
          refine zr_iconst C dyL_law_296 zc_i_0 ?_
          exact h.elim
      replace h := zif_neg hc_11 h
      by_cases hc_17 : x_3 = 2
      · replace h := zif_pos hc_17 h
        refine zr_tableIn C dyL_law_33 (by rw [hc_17]; decide) (by rw [hc_17]; decide) (off := 265) (by rw [hc_17]; decide) (tgt := 298) (by decide) ?_
        refine zr_aload_n C dyL_law_298 rfl 2 rfl ?_
        refine zr_aload_n C dyL_law_299 rfl 1 rfl ?_
        refine zr_iload_n C dyL_law_300 rfl 0 rfl ?_
        refine zr_iconst C dyL_law_301 zc_i_1 ?_
        refine zr_iadd C dyL_law_302 ?_
        refine zr_sld C hX hbl hbA h.1 dyL_law_303 ?_
        replace h := h.2
        refine zr_aload_n C dyL_law_304 rfl 1 rfl ?_
        refine zr_iload_n C dyL_law_305 rfl 0 rfl ?_
        refine zr_iconst C dyL_law_306 zc_i_2 ?_
        refine zr_iadd C dyL_law_307 ?_
        refine zr_sld C hX hbl hbA h.1 dyL_law_308 ?_
        replace h := h.2
        refine zv_L_23t C hS.x (st := []) h ⟨Nat.le_of_ble_eq_true rfl, Nat.le_of_ble_eq_true rfl⟩ (Nat.le_of_ble_eq_true rfl) dyL_law_309 ⟨Nat.le_of_ble_eq_true rfl, Nat.le_of_ble_eq_true rfl⟩ (fun r_18 I_19 h => ?_)
        refine zr_pop C dyL_law_312 rfl ?_
        refine zr_aload_n C dyL_law_313 rfl 3 rfl ?_
        refine zr_aload_n C dyL_law_314 rfl 1 rfl ?_
        refine zr_iload_n C dyL_law_315 rfl 0 rfl ?_
        refine zr_iconst C dyL_law_316 zc_i_1 ?_
        refine zr_iadd C dyL_law_317 ?_
        refine zr_sld C hX hbl hbA h.1 dyL_law_318 ?_
        replace h := h.2
        refine zr_aload_n C dyL_law_319 rfl 1 rfl ?_
        refine zr_iload_n C dyL_law_320 rfl 0 rfl ?_
        refine zr_iconst C dyL_law_321 zc_i_2 ?_
        refine zr_iadd C dyL_law_322 ?_
        refine zr_sld C hX hbl hbA h.1 dyL_law_323 ?_
        replace h := h.2
        refine zv_L_27t C hS (st := []) h ⟨Nat.le_of_ble_eq_true rfl, Nat.le_of_ble_eq_true rfl⟩ (Nat.le_of_ble_eq_true rfl) dyL_law_324 ⟨Nat.le_of_ble_eq_true rfl, Nat.le_of_ble_eq_true rfl⟩ (fun r_20 I_21 h => ?_)
        refine zr_pop C dyL_law_327 rfl ?_
        refine zr_goto C dyL_law_328 (tgt := 1245) (by decide) ?_
        exact h
      replace h := zif_neg hc_17 h
      by_cases hc_22 : x_3 = 3
      · replace h := zif_pos hc_22 h
        refine zr_tableIn C dyL_law_33 (by rw [hc_22]; decide) (by rw [hc_22]; decide) (off := 298) (by rw [hc_22]; decide) (tgt := 331) (by decide) ?_
        refine zr_aload_n C dyL_law_331 rfl 2 rfl ?_
        refine zr_aload_n C dyL_law_332 rfl 1 rfl ?_
        refine zr_iload_n C dyL_law_333 rfl 0 rfl ?_
        refine zr_iconst C dyL_law_334 zc_i_1 ?_
        refine zr_iadd C dyL_law_335 ?_
        refine zr_sld C hX hbl hbA h.1 dyL_law_336 ?_
        replace h := h.2
        refine zv_L_28t C hS.x (st := []) h ⟨Nat.le_of_ble_eq_true rfl, Nat.le_of_ble_eq_true rfl⟩ (Nat.le_of_ble_eq_true rfl) dyL_law_337 ⟨Nat.le_of_ble_eq_true rfl, Nat.le_of_ble_eq_true rfl⟩ (fun r_23 I_24 h => ?_)
        refine zr_pop C dyL_law_340 rfl ?_
        refine zr_aload_n C dyL_law_341 rfl 3 rfl ?_
        refine zr_aload_n C dyL_law_342 rfl 1 rfl ?_
        refine zr_iload_n C dyL_law_343 rfl 0 rfl ?_
        refine zr_iconst C dyL_law_344 zc_i_1 ?_
        refine zr_iadd C dyL_law_345 ?_
        refine zr_sld C hX hbl hbA h.1 dyL_law_346 ?_
        replace h := h.2
        refine zv_L_31t C hS (st := []) h ⟨Nat.le_of_ble_eq_true rfl, Nat.le_of_ble_eq_true rfl⟩ (Nat.le_of_ble_eq_true rfl) dyL_law_347 ⟨Nat.le_of_ble_eq_true rfl, Nat.le_of_ble_eq_true rfl⟩ (fun r_25 I_26 h => ?_)
        refine zr_pop C dyL_law_350 rfl ?_
        refine zr_goto C dyL_law_351 (tgt := 1245) (by decide) ?_
        exact h
      replace h := zif_neg hc_22 h
      by_cases hc_27 : x_3 = 4
      · replace h := zif_pos hc_27 h
        refine zr_tableIn C dyL_law_33 (by rw [hc_27]; decide) (by rw [hc_27]; decide) (off := 321) (by rw [hc_27]; decide) (tgt := 354) (by decide) ?_
        refine zr_aload_n C dyL_law_354 rfl 2 rfl ?_
        refine zr_aload_n C dyL_law_355 rfl 1 rfl ?_
        refine zr_iload_n C dyL_law_356 rfl 0 rfl ?_
        refine zr_iconst C dyL_law_357 zc_i_1 ?_
        refine zr_iadd C dyL_law_358 ?_
        refine zr_sld C hX hbl hbA h.1 dyL_law_359 ?_
        replace h := h.2
        refine zv_L_32t C hS.x (st := []) h ⟨Nat.le_of_ble_eq_true rfl, Nat.le_of_ble_eq_true rfl⟩ (Nat.le_of_ble_eq_true rfl) dyL_law_360 ⟨Nat.le_of_ble_eq_true rfl, Nat.le_of_ble_eq_true rfl⟩ (fun r_28 I_29 h => ?_)
        refine zr_pop C dyL_law_363 rfl ?_
        refine zr_aload_n C dyL_law_364 rfl 3 rfl ?_
        refine zr_aload_n C dyL_law_365 rfl 1 rfl ?_
        refine zr_iload_n C dyL_law_366 rfl 0 rfl ?_
        refine zr_iconst C dyL_law_367 zc_i_1 ?_
        refine zr_iadd C dyL_law_368 ?_
        refine zr_sld C hX hbl hbA h.1 dyL_law_369 ?_
        replace h := h.2
        refine zv_L_35t C hS (st := []) h ⟨Nat.le_of_ble_eq_true rfl, Nat.le_of_ble_eq_true rfl⟩ (Nat.le_of_ble_eq_true rfl) dyL_law_370 ⟨Nat.le_of_ble_eq_true rfl, Nat.le_of_ble_eq_true rfl⟩ (fun r_30 I_31 h => ?_)
        refine zr_pop C dyL_law_373 rfl ?_
        refine zr_goto C dyL_law_374 (tgt := 1245) (by decide) ?_
        exact h
      replace h := zif_neg hc_27 h
      by_cases hc_32 : x_3 = 5
      · replace h := zif_pos hc_32 h
        refine zr_tableIn C dyL_law_33 (by rw [hc_32]; decide) (by rw [hc_32]; decide) (off := 344) (by rw [hc_32]; decide) (tgt := 377) (by decide) ?_
        refine zr_aload_n C dyL_law_377 rfl 2 rfl ?_
        refine zr_aload_n C dyL_law_378 rfl 1 rfl ?_
        refine zr_iload_n C dyL_law_379 rfl 0 rfl ?_
        refine zr_iconst C dyL_law_380 zc_i_1 ?_
        refine zr_iadd C dyL_law_381 ?_
        refine zr_sld C hX hbl hbA h.1 dyL_law_382 ?_
        replace h := h.2
        refine zv_L_36t C hS.x (st := []) h ⟨Nat.le_of_ble_eq_true rfl, Nat.le_of_ble_eq_true rfl⟩ (Nat.le_of_ble_eq_true rfl) dyL_law_383 ⟨Nat.le_of_ble_eq_true rfl, Nat.le_of_ble_eq_true rfl⟩ (fun r_33 I_34 h => ?_)
        refine zr_pop C dyL_law_386 rfl ?_
        refine zr_aload_n C dyL_law_387 rfl 3 rfl ?_
        refine zr_aload_n C dyL_law_388 rfl 1 rfl ?_
        refine zr_iload_n C dyL_law_389 rfl 0 rfl ?_
        refine zr_iconst C dyL_law_390 zc_i_1 ?_
        refine zr_iadd C dyL_law_391 ?_
        refine zr_sld C hX hbl hbA h.1 dyL_law_392 ?_
        replace h := h.2
        refine zv_L_39t C hS (st := []) h ⟨Nat.le_of_ble_eq_true rfl, Nat.le_of_ble_eq_true rfl⟩ (Nat.le_of_ble_eq_true rfl) dyL_law_393 ⟨Nat.le_of_ble_eq_true rfl, Nat.le_of_ble_eq_true rfl⟩ (fun r_35 I_36 h => ?_)
        refine zr_pop C dyL_law_396 rfl ?_
        refine zr_goto C dyL_law_397 (tgt := 1245) (by decide) ?_
        exact h
      replace h := zif_neg hc_32 h
      by_cases hc_37 : x_3 = 6
      · replace h := zif_pos hc_37 h
        refine zr_tableIn C dyL_law_33 (by rw [hc_37]; decide) (by rw [hc_37]; decide) (off := 367) (by rw [hc_37]; decide) (tgt := 400) (by decide) ?_
        refine zr_aload_n C dyL_law_400 rfl 2 rfl ?_
        refine zr_aload_n C dyL_law_401 rfl 1 rfl ?_
        refine zr_iload_n C dyL_law_402 rfl 0 rfl ?_
        refine zr_iconst C dyL_law_403 zc_i_1 ?_
        refine zr_iadd C dyL_law_404 ?_
        refine zr_sld C hX hbl hbA h.1 dyL_law_405 ?_
        replace h := h.2
        refine zv_L_40t C hS.x (st := []) h ⟨Nat.le_of_ble_eq_true rfl, Nat.le_of_ble_eq_true rfl⟩ (Nat.le_of_ble_eq_true rfl) dyL_law_406 ⟨Nat.le_of_ble_eq_true rfl, Nat.le_of_ble_eq_true rfl⟩ (fun r_38 I_39 h => ?_)
        refine zr_pop C dyL_law_409 rfl ?_
        refine zr_aload_n C dyL_law_410 rfl 3 rfl ?_
        refine zr_aload_n C dyL_law_411 rfl 1 rfl ?_
        refine zr_iload_n C dyL_law_412 rfl 0 rfl ?_
        refine zr_iconst C dyL_law_413 zc_i_1 ?_
        refine zr_iadd C dyL_law_414 ?_
        refine zr_sld C hX hbl hbA h.1 dyL_law_415 ?_
        replace h := h.2
        refine zv_L_43t C hS (st := []) h ⟨Nat.le_of_ble_eq_true rfl, Nat.le_of_ble_eq_true rfl⟩ (Nat.le_of_ble_eq_true rfl) dyL_law_416 ⟨Nat.le_of_ble_eq_true rfl, Nat.le_of_ble_eq_true rfl⟩ (fun r_40 I_41 h => ?_)
        refine zr_pop C dyL_law_419 rfl ?_
        refine zr_goto C dyL_law_420 (tgt := 1245) (by decide) ?_
        exact h
      replace h := zif_neg hc_37 h
      by_cases hc_42 : x_3 = 7
      · replace h := zif_pos hc_42 h
        refine zr_tableIn C dyL_law_33 (by rw [hc_42]; decide) (by rw [hc_42]; decide) (off := 390) (by rw [hc_42]; decide) (tgt := 423) (by decide) ?_
        refine zr_aload_n C dyL_law_423 rfl 2 rfl ?_
        refine zv_L_44t C hS.x (st := []) h ⟨Nat.le_of_ble_eq_true rfl, Nat.le_of_ble_eq_true rfl⟩ (Nat.le_of_ble_eq_true rfl) dyL_law_424 ⟨Nat.le_of_ble_eq_true rfl, Nat.le_of_ble_eq_true rfl⟩ (fun r_43 I_44 h => ?_)
        refine zr_pop C dyL_law_427 rfl ?_
        refine zr_aload_n C dyL_law_428 rfl 3 rfl ?_
        refine zv_L_48t C hS (st := []) h ⟨Nat.le_of_ble_eq_true rfl, Nat.le_of_ble_eq_true rfl⟩ (Nat.le_of_ble_eq_true rfl) dyL_law_429 ⟨Nat.le_of_ble_eq_true rfl, Nat.le_of_ble_eq_true rfl⟩ (fun r_45 I_46 h => ?_)
        refine zr_pop C dyL_law_432 rfl ?_
        refine zr_goto C dyL_law_433 (tgt := 1245) (by decide) ?_
        exact h
      replace h := zif_neg hc_42 h
      by_cases hc_47 : x_3 = 8
      · replace h := zif_pos hc_47 h
        refine zr_tableIn C dyL_law_33 (by rw [hc_47]; decide) (by rw [hc_47]; decide) (off := 403) (by rw [hc_47]; decide) (tgt := 436) (by decide) ?_
        refine zr_aload_n C dyL_law_436 rfl 2 rfl ?_
        refine zv_L_49t C hS.x (st := []) h ⟨Nat.le_of_ble_eq_true rfl, Nat.le_of_ble_eq_true rfl⟩ (Nat.le_of_ble_eq_true rfl) dyL_law_437 ⟨Nat.le_of_ble_eq_true rfl, Nat.le_of_ble_eq_true rfl⟩ (fun r_48 I_49 h => ?_)
        refine zr_pop C dyL_law_440 rfl ?_
        refine zr_aload_n C dyL_law_441 rfl 3 rfl ?_
        refine zv_L_52t C hS (st := []) h ⟨Nat.le_of_ble_eq_true rfl, Nat.le_of_ble_eq_true rfl⟩ (Nat.le_of_ble_eq_true rfl) dyL_law_442 ⟨Nat.le_of_ble_eq_true rfl, Nat.le_of_ble_eq_true rfl⟩ (fun r_50 I_51 h => ?_)
        refine zr_pop C dyL_law_445 rfl ?_
        refine zr_goto C dyL_law_446 (tgt := 1245) (by decide) ?_
        exact h
      replace h := zif_neg hc_47 h
      by_cases hc_52 : x_3 = 9
      · replace h := zif_pos hc_52 h
        refine zr_tableIn C dyL_law_33 (by rw [hc_52]; decide) (by rw [hc_52]; decide) (off := 416) (by rw [hc_52]; decide) (tgt := 449) (by decide) ?_
        refine zr_aload_n C dyL_law_449 rfl 2 rfl ?_
        refine zr_aload_n C dyL_law_450 rfl 1 rfl ?_
        refine zr_iload_n C dyL_law_451 rfl 0 rfl ?_
        refine zr_iconst C dyL_law_452 zc_i_1 ?_
        refine zr_iadd C dyL_law_453 ?_
        refine zr_sld C hX hbl hbA h.1 dyL_law_454 ?_
        replace h := h.2
        refine zv_L_53t C hS.x (st := []) h ⟨Nat.le_of_ble_eq_true rfl, Nat.le_of_ble_eq_true rfl⟩ (Nat.le_of_ble_eq_true rfl) dyL_law_455 ⟨Nat.le_of_ble_eq_true rfl, Nat.le_of_ble_eq_true rfl⟩ (fun r_53 h => ?_)
        refine zr_pop C dyL_law_458 rfl ?_
        refine zr_aload_n C dyL_law_459 rfl 3 rfl ?_
        refine zr_aload_n C dyL_law_460 rfl 1 rfl ?_
        refine zr_iload_n C dyL_law_461 rfl 0 rfl ?_
        refine zr_iconst C dyL_law_462 zc_i_1 ?_
        refine zr_iadd C dyL_law_463 ?_
        refine zr_sld C hX hbl hbA h.1 dyL_law_464 ?_
        replace h := h.2
        refine zv_L_56t C hS (st := []) h ⟨Nat.le_of_ble_eq_true rfl, Nat.le_of_ble_eq_true rfl⟩ (Nat.le_of_ble_eq_true rfl) dyL_law_465 ⟨Nat.le_of_ble_eq_true rfl, Nat.le_of_ble_eq_true rfl⟩ (fun r_54 h => ?_)
        refine zr_pop C dyL_law_468 rfl ?_
        refine zr_goto C dyL_law_469 (tgt := 1245) (by decide) ?_
        exact h
      replace h := zif_neg hc_52 h
      by_cases hc_55 : x_3 = 10
      · replace h := zif_pos hc_55 h
        refine zr_tableIn C dyL_law_33 (by rw [hc_55]; decide) (by rw [hc_55]; decide) (off := 439) (by rw [hc_55]; decide) (tgt := 472) (by decide) ?_
        refine zr_aload_n C dyL_law_472 rfl 2 rfl ?_
        refine zr_aload_n C dyL_law_473 rfl 1 rfl ?_
        refine zr_iload_n C dyL_law_474 rfl 0 rfl ?_
        refine zr_iconst C dyL_law_475 zc_i_1 ?_
        refine zr_iadd C dyL_law_476 ?_
        refine zr_sld C hX hbl hbA h.1 dyL_law_477 ?_
        replace h := h.2
        refine zr_aload_n C dyL_law_478 rfl 1 rfl ?_
        refine zr_iload_n C dyL_law_479 rfl 0 rfl ?_
        refine zr_iconst C dyL_law_480 zc_i_2 ?_
        refine zr_iadd C dyL_law_481 ?_
        refine zr_sld C hX hbl hbA h.1 dyL_law_482 ?_
        replace h := h.2
        refine zv_L_57t C hS.x (st := []) h ⟨Nat.le_of_ble_eq_true rfl, Nat.le_of_ble_eq_true rfl⟩ (Nat.le_of_ble_eq_true rfl) dyL_law_483 ⟨Nat.le_of_ble_eq_true rfl, Nat.le_of_ble_eq_true rfl⟩ (fun r_56 h => ?_)
        refine zr_pop C dyL_law_486 rfl ?_
        refine zr_aload_n C dyL_law_487 rfl 3 rfl ?_
        refine zr_aload_n C dyL_law_488 rfl 1 rfl ?_
        refine zr_iload_n C dyL_law_489 rfl 0 rfl ?_
        refine zr_iconst C dyL_law_490 zc_i_1 ?_
        refine zr_iadd C dyL_law_491 ?_
        refine zr_sld C hX hbl hbA h.1 dyL_law_492 ?_
        replace h := h.2
        refine zr_aload_n C dyL_law_493 rfl 1 rfl ?_
        refine zr_iload_n C dyL_law_494 rfl 0 rfl ?_
        refine zr_iconst C dyL_law_495 zc_i_2 ?_
        refine zr_iadd C dyL_law_496 ?_
        refine zr_sld C hX hbl hbA h.1 dyL_law_497 ?_
        replace h := h.2
        refine zv_L_60t C hS (st := []) h ⟨Nat.le_of_ble_eq_true rfl, Nat.le_of_ble_eq_true rfl⟩ (Nat.le_of_ble_eq_true rfl) dyL_law_498 ⟨Nat.le_of_ble_eq_true rfl, Nat.le_of_ble_eq_true rfl⟩ (fun r_57 h => ?_)
        refine zr_pop C dyL_law_501 rfl ?_
        refine zr_goto C dyL_law_502 (tgt := 1245) (by decide) ?_
        exact h
      replace h := zif_neg hc_55 h
      by_cases hc_58 : x_3 = 11
      · replace h := zif_pos hc_58 h
        refine zr_tableIn C dyL_law_33 (by rw [hc_58]; decide) (by rw [hc_58]; decide) (off := 472) (by rw [hc_58]; decide) (tgt := 505) (by decide) ?_
        refine zr_aload_n C dyL_law_505 rfl 2 rfl ?_
        refine zr_aload_n C dyL_law_506 rfl 1 rfl ?_
        refine zr_iload_n C dyL_law_507 rfl 0 rfl ?_
        refine zr_iconst C dyL_law_508 zc_i_1 ?_
        refine zr_iadd C dyL_law_509 ?_
        refine zr_sld C hX hbl hbA h.1 dyL_law_510 ?_
        replace h := h.2
        refine zv_L_61t C hS.x (st := []) h ⟨Nat.le_of_ble_eq_true rfl, Nat.le_of_ble_eq_true rfl⟩ (Nat.le_of_ble_eq_true rfl) dyL_law_511 ⟨Nat.le_of_ble_eq_true rfl, Nat.le_of_ble_eq_true rfl⟩ (fun r_59 h => ?_)
        refine zr_pop C dyL_law_514 rfl ?_
        refine zr_aload_n C dyL_law_515 rfl 3 rfl ?_
        refine zr_aload_n C dyL_law_516 rfl 1 rfl ?_
        refine zr_iload_n C dyL_law_517 rfl 0 rfl ?_
        refine zr_iconst C dyL_law_518 zc_i_1 ?_
        refine zr_iadd C dyL_law_519 ?_
        refine zr_sld C hX hbl hbA h.1 dyL_law_520 ?_
        replace h := h.2
        refine zv_L_64t C hS (st := []) h ⟨Nat.le_of_ble_eq_true rfl, Nat.le_of_ble_eq_true rfl⟩ (Nat.le_of_ble_eq_true rfl) dyL_law_521 ⟨Nat.le_of_ble_eq_true rfl, Nat.le_of_ble_eq_true rfl⟩ (fun r_60 h => ?_)
        refine zr_pop C dyL_law_524 rfl ?_
        refine zr_goto C dyL_law_525 (tgt := 1245) (by decide) ?_
        exact h
      replace h := zif_neg hc_58 h
      by_cases hc_61 : x_3 = 12
      · replace h := zif_pos hc_61 h
        refine zr_tableIn C dyL_law_33 (by rw [hc_61]; decide) (by rw [hc_61]; decide) (off := 495) (by rw [hc_61]; decide) (tgt := 528) (by decide) ?_
        refine zr_aload_n C dyL_law_528 rfl 2 rfl ?_
        refine zr_aload_n C dyL_law_529 rfl 1 rfl ?_
        refine zr_iload_n C dyL_law_530 rfl 0 rfl ?_
        refine zr_iconst C dyL_law_531 zc_i_1 ?_
        refine zr_iadd C dyL_law_532 ?_
        refine zr_sld C hX hbl hbA h.1 dyL_law_533 ?_
        replace h := h.2
        refine zr_aload_n C dyL_law_534 rfl 1 rfl ?_
        refine zr_iload_n C dyL_law_535 rfl 0 rfl ?_
        refine zr_iconst C dyL_law_536 zc_i_2 ?_
        refine zr_iadd C dyL_law_537 ?_
        refine zr_sld C hX hbl hbA h.1 dyL_law_538 ?_
        replace h := h.2
        refine zv_L_65t C hS.x (st := []) h ⟨Nat.le_of_ble_eq_true rfl, Nat.le_of_ble_eq_true rfl⟩ (Nat.le_of_ble_eq_true rfl) dyL_law_539 ⟨Nat.le_of_ble_eq_true rfl, Nat.le_of_ble_eq_true rfl⟩ (fun r_62 h => ?_)
        refine zr_pop C dyL_law_542 rfl ?_
        refine zr_aload_n C dyL_law_543 rfl 3 rfl ?_
        refine zr_aload_n C dyL_law_544 rfl 1 rfl ?_
        refine zr_iload_n C dyL_law_545 rfl 0 rfl ?_
        refine zr_iconst C dyL_law_546 zc_i_1 ?_
        refine zr_iadd C dyL_law_547 ?_
        refine zr_sld C hX hbl hbA h.1 dyL_law_548 ?_
        replace h := h.2
        refine zr_aload_n C dyL_law_549 rfl 1 rfl ?_
        refine zr_iload_n C dyL_law_550 rfl 0 rfl ?_
        refine zr_iconst C dyL_law_551 zc_i_2 ?_
        refine zr_iadd C dyL_law_552 ?_
        refine zr_sld C hX hbl hbA h.1 dyL_law_553 ?_
        replace h := h.2
        refine zv_L_68t C hS (st := []) h ⟨Nat.le_of_ble_eq_true rfl, Nat.le_of_ble_eq_true rfl⟩ (Nat.le_of_ble_eq_true rfl) dyL_law_554 ⟨Nat.le_of_ble_eq_true rfl, Nat.le_of_ble_eq_true rfl⟩ (fun r_63 h => ?_)
        refine zr_pop C dyL_law_557 rfl ?_
        refine zr_goto C dyL_law_558 (tgt := 1245) (by decide) ?_
        exact h
      replace h := zif_neg hc_61 h
      by_cases hc_64 : x_3 = 13
      · replace h := zif_pos hc_64 h
        refine zr_tableIn C dyL_law_33 (by rw [hc_64]; decide) (by rw [hc_64]; decide) (off := 528) (by rw [hc_64]; decide) (tgt := 561) (by decide) ?_
        refine zr_aload_n C dyL_law_561 rfl 2 rfl ?_
        refine zr_aload_n C dyL_law_562 rfl 1 rfl ?_
        refine zr_iload_n C dyL_law_563 rfl 0 rfl ?_
        refine zr_iconst C dyL_law_564 zc_i_1 ?_
        refine zr_iadd C dyL_law_565 ?_
        refine zr_sld C hX hbl hbA h.1 dyL_law_566 ?_
        replace h := h.2
        refine zr_aload_n C dyL_law_567 rfl 1 rfl ?_
        refine zr_iload_n C dyL_law_568 rfl 0 rfl ?_
        refine zr_iconst C dyL_law_569 zc_i_2 ?_
        refine zr_iadd C dyL_law_570 ?_
        refine zr_sld C hX hbl hbA h.1 dyL_law_571 ?_
        replace h := h.2
        refine zv_L_69t C hS.x (st := []) h ⟨Nat.le_of_ble_eq_true rfl, Nat.le_of_ble_eq_true rfl⟩ (Nat.le_of_ble_eq_true rfl) dyL_law_572 ⟨Nat.le_of_ble_eq_true rfl, Nat.le_of_ble_eq_true rfl⟩ (fun r_65 h => ?_)
        refine zr_pop C dyL_law_575 rfl ?_
        refine zr_aload_n C dyL_law_576 rfl 3 rfl ?_
        refine zr_aload_n C dyL_law_577 rfl 1 rfl ?_
        refine zr_iload_n C dyL_law_578 rfl 0 rfl ?_
        refine zr_iconst C dyL_law_579 zc_i_1 ?_
        refine zr_iadd C dyL_law_580 ?_
        refine zr_sld C hX hbl hbA h.1 dyL_law_581 ?_
        replace h := h.2
        refine zr_aload_n C dyL_law_582 rfl 1 rfl ?_
        refine zr_iload_n C dyL_law_583 rfl 0 rfl ?_
        refine zr_iconst C dyL_law_584 zc_i_2 ?_
        refine zr_iadd C dyL_law_585 ?_
        refine zr_sld C hX hbl hbA h.1 dyL_law_586 ?_
        replace h := h.2
        refine zv_L_72t C hS (st := []) h ⟨Nat.le_of_ble_eq_true rfl, Nat.le_of_ble_eq_true rfl⟩ (Nat.le_of_ble_eq_true rfl) dyL_law_587 ⟨Nat.le_of_ble_eq_true rfl, Nat.le_of_ble_eq_true rfl⟩ (fun r_66 h => ?_)
        refine zr_pop C dyL_law_590 rfl ?_
        refine zr_goto C dyL_law_591 (tgt := 1245) (by decide) ?_
        exact h
      replace h := zif_neg hc_64 h
      by_cases hc_67 : x_3 = 14
      · replace h := zif_pos hc_67 h
        refine zr_tableIn C dyL_law_33 (by rw [hc_67]; decide) (by rw [hc_67]; decide) (off := 561) (by rw [hc_67]; decide) (tgt := 594) (by decide) ?_
        refine zr_aload_n C dyL_law_594 rfl 2 rfl ?_
        refine zr_aload_n C dyL_law_595 rfl 1 rfl ?_
        refine zr_iload_n C dyL_law_596 rfl 0 rfl ?_
        refine zr_iconst C dyL_law_597 zc_i_1 ?_
        refine zr_iadd C dyL_law_598 ?_
        refine zr_sld C hX hbl hbA h.1 dyL_law_599 ?_
        replace h := h.2
        refine zv_L_73t C hS.x (st := []) h ⟨Nat.le_of_ble_eq_true rfl, Nat.le_of_ble_eq_true rfl⟩ (Nat.le_of_ble_eq_true rfl) dyL_law_600 ⟨Nat.le_of_ble_eq_true rfl, Nat.le_of_ble_eq_true rfl⟩ (fun r_68 h => ?_)
        refine zr_pop C dyL_law_603 rfl ?_
        refine zr_aload_n C dyL_law_604 rfl 3 rfl ?_
        refine zr_aload_n C dyL_law_605 rfl 1 rfl ?_
        refine zr_iload_n C dyL_law_606 rfl 0 rfl ?_
        refine zr_iconst C dyL_law_607 zc_i_1 ?_
        refine zr_iadd C dyL_law_608 ?_
        refine zr_sld C hX hbl hbA h.1 dyL_law_609 ?_
        replace h := h.2
        refine zv_L_76t C hS (st := []) h ⟨Nat.le_of_ble_eq_true rfl, Nat.le_of_ble_eq_true rfl⟩ (Nat.le_of_ble_eq_true rfl) dyL_law_610 ⟨Nat.le_of_ble_eq_true rfl, Nat.le_of_ble_eq_true rfl⟩ (fun r_69 h => ?_)
        refine zr_pop C dyL_law_613 rfl ?_
        refine zr_goto C dyL_law_614 (tgt := 1245) (by decide) ?_
        exact h
      replace h := zif_neg hc_67 h
      by_cases hc_70 : x_3 = 15
      · replace h := zif_pos hc_70 h
        refine zr_tableIn C dyL_law_33 (by rw [hc_70]; decide) (by rw [hc_70]; decide) (off := 584) (by rw [hc_70]; decide) (tgt := 617) (by decide) ?_
        refine zr_aload_n C dyL_law_617 rfl 2 rfl ?_
        refine zv_L_77t C hS.x (st := []) h ⟨Nat.le_of_ble_eq_true rfl, Nat.le_of_ble_eq_true rfl⟩ (Nat.le_of_ble_eq_true rfl) dyL_law_618 ⟨Nat.le_of_ble_eq_true rfl, Nat.le_of_ble_eq_true rfl⟩ (fun r_71 h => ?_)
        refine zr_pop C dyL_law_621 rfl ?_
        refine zr_aload_n C dyL_law_622 rfl 3 rfl ?_
        refine zv_L_81t C hS (st := []) h ⟨Nat.le_of_ble_eq_true rfl, Nat.le_of_ble_eq_true rfl⟩ (Nat.le_of_ble_eq_true rfl) dyL_law_623 ⟨Nat.le_of_ble_eq_true rfl, Nat.le_of_ble_eq_true rfl⟩ (fun r_72 I_73 h => ?_)
        refine zr_pop C dyL_law_626 rfl ?_
        refine zr_goto C dyL_law_627 (tgt := 1245) (by decide) ?_
        exact h
      replace h := zif_neg hc_70 h
      by_cases hc_74 : x_3 = 16
      · replace h := zif_pos hc_74 h
        refine zr_tableIn C dyL_law_33 (by rw [hc_74]; decide) (by rw [hc_74]; decide) (off := 597) (by rw [hc_74]; decide) (tgt := 630) (by decide) ?_
        refine zr_aload_n C dyL_law_630 rfl 2 rfl ?_
        refine zr_aload_n C dyL_law_631 rfl 1 rfl ?_
        refine zr_iload_n C dyL_law_632 rfl 0 rfl ?_
        refine zr_iconst C dyL_law_633 zc_i_1 ?_
        refine zr_iadd C dyL_law_634 ?_
        refine zr_sld C hX hbl hbA h.1 dyL_law_635 ?_
        replace h := h.2
        refine zv_L_82t C hS.x (st := []) h ⟨Nat.le_of_ble_eq_true rfl, Nat.le_of_ble_eq_true rfl⟩ (Nat.le_of_ble_eq_true rfl) dyL_law_636 ⟨Nat.le_of_ble_eq_true rfl, Nat.le_of_ble_eq_true rfl⟩ (fun r_75 I_76 h => ?_)
        refine zr_pop C dyL_law_639 rfl ?_
        refine zr_aload_n C dyL_law_640 rfl 3 rfl ?_
        refine zr_aload_n C dyL_law_641 rfl 1 rfl ?_
        refine zr_iload_n C dyL_law_642 rfl 0 rfl ?_
        refine zr_iconst C dyL_law_643 zc_i_1 ?_
        refine zr_iadd C dyL_law_644 ?_
        refine zr_sld C hX hbl hbA h.1 dyL_law_645 ?_
        replace h := h.2
        refine zv_L_85t C hS (st := []) h ⟨Nat.le_of_ble_eq_true rfl, Nat.le_of_ble_eq_true rfl⟩ (Nat.le_of_ble_eq_true rfl) dyL_law_646 ⟨Nat.le_of_ble_eq_true rfl, Nat.le_of_ble_eq_true rfl⟩ (fun r_77 I_78 h => ?_)
        refine zr_pop C dyL_law_649 rfl ?_
        refine zr_goto C dyL_law_650 (tgt := 1245) (by decide) ?_
        exact h
      replace h := zif_neg hc_74 h
      by_cases hc_79 : x_3 = 17
      · replace h := zif_pos hc_79 h
        refine zr_tableIn C dyL_law_33 (by rw [hc_79]; decide) (by rw [hc_79]; decide) (off := 620) (by rw [hc_79]; decide) (tgt := 653) (by decide) ?_
        refine zr_aload_n C dyL_law_653 rfl 2 rfl ?_
        refine zv_L_86t C hS.x (st := []) h ⟨Nat.le_of_ble_eq_true rfl, Nat.le_of_ble_eq_true rfl⟩ (Nat.le_of_ble_eq_true rfl) dyL_law_654 ⟨Nat.le_of_ble_eq_true rfl, Nat.le_of_ble_eq_true rfl⟩ (fun r_80 I_81 h => ?_)
        refine zr_pop C dyL_law_657 rfl ?_
        refine zr_aload_n C dyL_law_658 rfl 3 rfl ?_
        refine zv_L_89t C hS (st := []) h ⟨Nat.le_of_ble_eq_true rfl, Nat.le_of_ble_eq_true rfl⟩ (Nat.le_of_ble_eq_true rfl) dyL_law_659 ⟨Nat.le_of_ble_eq_true rfl, Nat.le_of_ble_eq_true rfl⟩ (fun r_82 I_83 h => ?_)
        refine zr_pop C dyL_law_662 rfl ?_
        refine zr_goto C dyL_law_663 (tgt := 1245) (by decide) ?_
        exact h
      replace h := zif_neg hc_79 h
      by_cases hc_84 : x_3 = 18
      · replace h := zif_pos hc_84 h
        refine zr_tableIn C dyL_law_33 (by rw [hc_84]; decide) (by rw [hc_84]; decide) (off := 633) (by rw [hc_84]; decide) (tgt := 666) (by decide) ?_
        refine zr_aload_n C dyL_law_666 rfl 2 rfl ?_
        refine zr_aload_n C dyL_law_667 rfl 1 rfl ?_
        refine zr_iload_n C dyL_law_668 rfl 0 rfl ?_
        refine zr_iconst C dyL_law_669 zc_i_1 ?_
        refine zr_iadd C dyL_law_670 ?_
        refine zr_sld C hX hbl hbA h.1 dyL_law_671 ?_
        replace h := h.2
        refine zv_L_90t C hS.x (st := []) h ⟨Nat.le_of_ble_eq_true rfl, Nat.le_of_ble_eq_true rfl⟩ (Nat.le_of_ble_eq_true rfl) dyL_law_672 ⟨Nat.le_of_ble_eq_true rfl, Nat.le_of_ble_eq_true rfl⟩ (fun r_85 I_86 h => ?_)
        refine zr_pop C dyL_law_675 rfl ?_
        refine zr_aload_n C dyL_law_676 rfl 3 rfl ?_
        refine zr_aload_n C dyL_law_677 rfl 1 rfl ?_
        refine zr_iload_n C dyL_law_678 rfl 0 rfl ?_
        refine zr_iconst C dyL_law_679 zc_i_1 ?_
        refine zr_iadd C dyL_law_680 ?_
        refine zr_sld C hX hbl hbA h.1 dyL_law_681 ?_
        replace h := h.2
        refine zv_L_93t C hS (st := []) h ⟨Nat.le_of_ble_eq_true rfl, Nat.le_of_ble_eq_true rfl⟩ (Nat.le_of_ble_eq_true rfl) dyL_law_682 ⟨Nat.le_of_ble_eq_true rfl, Nat.le_of_ble_eq_true rfl⟩ (fun r_87 I_88 h => ?_)
        refine zr_pop C dyL_law_685 rfl ?_
        refine zr_goto C dyL_law_686 (tgt := 1245) (by decide) ?_
        exact h
      replace h := zif_neg hc_84 h
      by_cases hc_89 : x_3 = 19
      · replace h := zif_pos hc_89 h
        refine zr_tableIn C dyL_law_33 (by rw [hc_89]; decide) (by rw [hc_89]; decide) (off := 656) (by rw [hc_89]; decide) (tgt := 689) (by decide) ?_
        refine zr_aload_n C dyL_law_689 rfl 2 rfl ?_
        refine zr_aload_n C dyL_law_690 rfl 1 rfl ?_
        refine zr_iload_n C dyL_law_691 rfl 0 rfl ?_
        refine zr_iconst C dyL_law_692 zc_i_1 ?_
        refine zr_iadd C dyL_law_693 ?_
        refine zr_sld C hX hbl hbA h.1 dyL_law_694 ?_
        replace h := h.2
        refine zv_L_94t C hS.x (st := []) h ⟨Nat.le_of_ble_eq_true rfl, Nat.le_of_ble_eq_true rfl⟩ (Nat.le_of_ble_eq_true rfl) dyL_law_695 ⟨Nat.le_of_ble_eq_true rfl, Nat.le_of_ble_eq_true rfl⟩ (fun r_90 h => ?_)
        refine zr_pop C dyL_law_698 rfl ?_
        refine zr_aload_n C dyL_law_699 rfl 3 rfl ?_
        refine zr_aload_n C dyL_law_700 rfl 1 rfl ?_
        refine zr_iload_n C dyL_law_701 rfl 0 rfl ?_
        refine zr_iconst C dyL_law_702 zc_i_1 ?_
        refine zr_iadd C dyL_law_703 ?_
        refine zr_sld C hX hbl hbA h.1 dyL_law_704 ?_
        replace h := h.2
        refine zv_L_97t C hS (st := []) h ⟨Nat.le_of_ble_eq_true rfl, Nat.le_of_ble_eq_true rfl⟩ (Nat.le_of_ble_eq_true rfl) dyL_law_705 ⟨Nat.le_of_ble_eq_true rfl, Nat.le_of_ble_eq_true rfl⟩ (fun r_91 I_92 h => ?_)
        refine zr_pop C dyL_law_708 rfl ?_
        refine zr_goto C dyL_law_709 (tgt := 1245) (by decide) ?_
        exact h
      replace h := zif_neg hc_89 h
      by_cases hc_93 : x_3 = 20
      · replace h := zif_pos hc_93 h
        refine zr_tableIn C dyL_law_33 (by rw [hc_93]; decide) (by rw [hc_93]; decide) (off := 679) (by rw [hc_93]; decide) (tgt := 712) (by decide) ?_
        refine zr_aload_n C dyL_law_712 rfl 2 rfl ?_
        refine zr_aload_n C dyL_law_713 rfl 1 rfl ?_
        refine zr_iload_n C dyL_law_714 rfl 0 rfl ?_
        refine zr_iconst C dyL_law_715 zc_i_1 ?_
        refine zr_iadd C dyL_law_716 ?_
        refine zr_sld C hX hbl hbA h.1 dyL_law_717 ?_
        replace h := h.2
        refine zv_L_98t C hS.x (st := []) h ⟨Nat.le_of_ble_eq_true rfl, Nat.le_of_ble_eq_true rfl⟩ (Nat.le_of_ble_eq_true rfl) dyL_law_718 ⟨Nat.le_of_ble_eq_true rfl, Nat.le_of_ble_eq_true rfl⟩ (fun r_94 h => ?_)
        refine zr_pop C dyL_law_721 rfl ?_
        refine zr_aload_n C dyL_law_722 rfl 3 rfl ?_
        refine zr_aload_n C dyL_law_723 rfl 1 rfl ?_
        refine zr_iload_n C dyL_law_724 rfl 0 rfl ?_
        refine zr_iconst C dyL_law_725 zc_i_1 ?_
        refine zr_iadd C dyL_law_726 ?_
        refine zr_sld C hX hbl hbA h.1 dyL_law_727 ?_
        replace h := h.2
        refine zv_L_101t C hS (st := []) h ⟨Nat.le_of_ble_eq_true rfl, Nat.le_of_ble_eq_true rfl⟩ (Nat.le_of_ble_eq_true rfl) dyL_law_728 ⟨Nat.le_of_ble_eq_true rfl, Nat.le_of_ble_eq_true rfl⟩ (fun r_95 h => ?_)
        refine zr_pop C dyL_law_731 rfl ?_
        refine zr_goto C dyL_law_732 (tgt := 1245) (by decide) ?_
        exact h
      replace h := zif_neg hc_93 h
      by_cases hc_96 : x_3 = 21
      · replace h := zif_pos hc_96 h
        refine zr_tableIn C dyL_law_33 (by rw [hc_96]; decide) (by rw [hc_96]; decide) (off := 702) (by rw [hc_96]; decide) (tgt := 735) (by decide) ?_
        refine zr_aload_n C dyL_law_735 rfl 2 rfl ?_
        refine zr_aload_n C dyL_law_736 rfl 1 rfl ?_
        refine zr_iload_n C dyL_law_737 rfl 0 rfl ?_
        refine zr_iconst C dyL_law_738 zc_i_1 ?_
        refine zr_iadd C dyL_law_739 ?_
        refine zr_sld C hX hbl hbA h.1 dyL_law_740 ?_
        replace h := h.2
        refine zv_L_102t C hS.x (st := []) h ⟨Nat.le_of_ble_eq_true rfl, Nat.le_of_ble_eq_true rfl⟩ (Nat.le_of_ble_eq_true rfl) dyL_law_741 ⟨Nat.le_of_ble_eq_true rfl, Nat.le_of_ble_eq_true rfl⟩ (fun r_97 h => ?_)
        refine zr_pop C dyL_law_744 rfl ?_
        refine zr_aload_n C dyL_law_745 rfl 3 rfl ?_
        refine zr_aload_n C dyL_law_746 rfl 1 rfl ?_
        refine zr_iload_n C dyL_law_747 rfl 0 rfl ?_
        refine zr_iconst C dyL_law_748 zc_i_1 ?_
        refine zr_iadd C dyL_law_749 ?_
        refine zr_sld C hX hbl hbA h.1 dyL_law_750 ?_
        replace h := h.2
        refine zv_L_105t C hS (st := []) h ⟨Nat.le_of_ble_eq_true rfl, Nat.le_of_ble_eq_true rfl⟩ (Nat.le_of_ble_eq_true rfl) dyL_law_751 ⟨Nat.le_of_ble_eq_true rfl, Nat.le_of_ble_eq_true rfl⟩ (fun r_98 I_99 h => ?_)
        refine zr_pop C dyL_law_754 rfl ?_
        refine zr_goto C dyL_law_755 (tgt := 1245) (by decide) ?_
        exact h
      replace h := zif_neg hc_96 h
      by_cases hc_100 : x_3 = 22
      · replace h := zif_pos hc_100 h
        refine zr_tableIn C dyL_law_33 (by rw [hc_100]; decide) (by rw [hc_100]; decide) (off := 725) (by rw [hc_100]; decide) (tgt := 758) (by decide) ?_
        refine zr_aload_n C dyL_law_758 rfl 2 rfl ?_
        refine zr_aload_n C dyL_law_759 rfl 1 rfl ?_
        refine zr_iload_n C dyL_law_760 rfl 0 rfl ?_
        refine zr_iconst C dyL_law_761 zc_i_1 ?_
        refine zr_iadd C dyL_law_762 ?_
        refine zr_sld C hX hbl hbA h.1 dyL_law_763 ?_
        replace h := h.2
        refine zr_aload_n C dyL_law_764 rfl 1 rfl ?_
        refine zr_iload_n C dyL_law_765 rfl 0 rfl ?_
        refine zr_iconst C dyL_law_766 zc_i_2 ?_
        refine zr_iadd C dyL_law_767 ?_
        refine zr_sld C hX hbl hbA h.1 dyL_law_768 ?_
        replace h := h.2
        refine zv_L_106t C hS.x (st := []) h ⟨Nat.le_of_ble_eq_true rfl, Nat.le_of_ble_eq_true rfl⟩ (Nat.le_of_ble_eq_true rfl) dyL_law_769 ⟨Nat.le_of_ble_eq_true rfl, Nat.le_of_ble_eq_true rfl⟩ (fun r_101 h => ?_)
        refine zr_pop C dyL_law_772 rfl ?_
        refine zr_aload_n C dyL_law_773 rfl 3 rfl ?_
        refine zr_aload_n C dyL_law_774 rfl 1 rfl ?_
        refine zr_iload_n C dyL_law_775 rfl 0 rfl ?_
        refine zr_iconst C dyL_law_776 zc_i_1 ?_
        refine zr_iadd C dyL_law_777 ?_
        refine zr_sld C hX hbl hbA h.1 dyL_law_778 ?_
        replace h := h.2
        refine zr_aload_n C dyL_law_779 rfl 1 rfl ?_
        refine zr_iload_n C dyL_law_780 rfl 0 rfl ?_
        refine zr_iconst C dyL_law_781 zc_i_2 ?_
        refine zr_iadd C dyL_law_782 ?_
        refine zr_sld C hX hbl hbA h.1 dyL_law_783 ?_
        replace h := h.2
        refine zv_L_109t C hS (st := []) h ⟨Nat.le_of_ble_eq_true rfl, Nat.le_of_ble_eq_true rfl⟩ (Nat.le_of_ble_eq_true rfl) dyL_law_784 ⟨Nat.le_of_ble_eq_true rfl, Nat.le_of_ble_eq_true rfl⟩ (fun r_102 h => ?_)
        refine zr_pop C dyL_law_787 rfl ?_
        refine zr_goto C dyL_law_788 (tgt := 1245) (by decide) ?_
        exact h
      replace h := zif_neg hc_100 h
      by_cases hc_103 : x_3 = 23
      · replace h := zif_pos hc_103 h
        refine zr_tableIn C dyL_law_33 (by rw [hc_103]; decide) (by rw [hc_103]; decide) (off := 758) (by rw [hc_103]; decide) (tgt := 791) (by decide) ?_
        refine zr_aload_n C dyL_law_791 rfl 2 rfl ?_
        refine zr_aload_n C dyL_law_792 rfl 1 rfl ?_
        refine zr_iload_n C dyL_law_793 rfl 0 rfl ?_
        refine zr_iconst C dyL_law_794 zc_i_1 ?_
        refine zr_iadd C dyL_law_795 ?_
        refine zr_sld C hX hbl hbA h.1 dyL_law_796 ?_
        replace h := h.2
        refine zv_L_110t C hS.x (st := []) h ⟨Nat.le_of_ble_eq_true rfl, Nat.le_of_ble_eq_true rfl⟩ (Nat.le_of_ble_eq_true rfl) dyL_law_797 ⟨Nat.le_of_ble_eq_true rfl, Nat.le_of_ble_eq_true rfl⟩ (fun r_104 h => ?_)
        refine zr_pop C dyL_law_800 rfl ?_
        refine zr_aload_n C dyL_law_801 rfl 3 rfl ?_
        refine zr_aload_n C dyL_law_802 rfl 1 rfl ?_
        refine zr_iload_n C dyL_law_803 rfl 0 rfl ?_
        refine zr_iconst C dyL_law_804 zc_i_1 ?_
        refine zr_iadd C dyL_law_805 ?_
        refine zr_sld C hX hbl hbA h.1 dyL_law_806 ?_
        replace h := h.2
        refine zv_L_113t C hS (st := []) h ⟨Nat.le_of_ble_eq_true rfl, Nat.le_of_ble_eq_true rfl⟩ (Nat.le_of_ble_eq_true rfl) dyL_law_807 ⟨Nat.le_of_ble_eq_true rfl, Nat.le_of_ble_eq_true rfl⟩ (fun r_105 h => ?_)
        refine zr_pop C dyL_law_810 rfl ?_
        refine zr_goto C dyL_law_811 (tgt := 1245) (by decide) ?_
        exact h
      replace h := zif_neg hc_103 h
      by_cases hc_106 : x_3 = 24
      · replace h := zif_pos hc_106 h
        refine zr_tableIn C dyL_law_33 (by rw [hc_106]; decide) (by rw [hc_106]; decide) (off := 781) (by rw [hc_106]; decide) (tgt := 814) (by decide) ?_
        refine zr_aload_n C dyL_law_814 rfl 2 rfl ?_
        refine zr_aload_n C dyL_law_815 rfl 1 rfl ?_
        refine zr_iload_n C dyL_law_816 rfl 0 rfl ?_
        refine zr_iconst C dyL_law_817 zc_i_1 ?_
        refine zr_iadd C dyL_law_818 ?_
        refine zr_sld C hX hbl hbA h.1 dyL_law_819 ?_
        replace h := h.2
        refine zv_L_114t C hS.x (st := []) h ⟨Nat.le_of_ble_eq_true rfl, Nat.le_of_ble_eq_true rfl⟩ (Nat.le_of_ble_eq_true rfl) dyL_law_820 ⟨Nat.le_of_ble_eq_true rfl, Nat.le_of_ble_eq_true rfl⟩ (fun r_107 h => ?_)
        refine zr_pop C dyL_law_823 rfl ?_
        refine zr_aload_n C dyL_law_824 rfl 3 rfl ?_
        refine zr_aload_n C dyL_law_825 rfl 1 rfl ?_
        refine zr_iload_n C dyL_law_826 rfl 0 rfl ?_
        refine zr_iconst C dyL_law_827 zc_i_1 ?_
        refine zr_iadd C dyL_law_828 ?_
        refine zr_sld C hX hbl hbA h.1 dyL_law_829 ?_
        replace h := h.2
        refine zv_L_117t C hS (st := []) h ⟨Nat.le_of_ble_eq_true rfl, Nat.le_of_ble_eq_true rfl⟩ (Nat.le_of_ble_eq_true rfl) dyL_law_830 ⟨Nat.le_of_ble_eq_true rfl, Nat.le_of_ble_eq_true rfl⟩ (fun r_108 h => ?_)
        refine zr_pop C dyL_law_833 rfl ?_
        refine zr_goto C dyL_law_834 (tgt := 1245) (by decide) ?_
        exact h
      replace h := zif_neg hc_106 h
      by_cases hc_109 : x_3 = 25
      · replace h := zif_pos hc_109 h
        refine zr_tableIn C dyL_law_33 (by rw [hc_109]; decide) (by rw [hc_109]; decide) (off := 804) (by rw [hc_109]; decide) (tgt := 837) (by decide) ?_
        refine zr_aload_n C dyL_law_837 rfl 2 rfl ?_
        refine zr_aload_n C dyL_law_838 rfl 1 rfl ?_
        refine zr_iload_n C dyL_law_839 rfl 0 rfl ?_
        refine zr_iconst C dyL_law_840 zc_i_1 ?_
        refine zr_iadd C dyL_law_841 ?_
        refine zr_sld C hX hbl hbA h.1 dyL_law_842 ?_
        replace h := h.2
        refine zr_aload_n C dyL_law_843 rfl 1 rfl ?_
        refine zr_iload_n C dyL_law_844 rfl 0 rfl ?_
        refine zr_iconst C dyL_law_845 zc_i_2 ?_
        refine zr_iadd C dyL_law_846 ?_
        refine zr_sld C hX hbl hbA h.1 dyL_law_847 ?_
        replace h := h.2
        refine zv_L_118t C hS.x (st := []) h ⟨Nat.le_of_ble_eq_true rfl, Nat.le_of_ble_eq_true rfl⟩ (Nat.le_of_ble_eq_true rfl) dyL_law_848 ⟨Nat.le_of_ble_eq_true rfl, Nat.le_of_ble_eq_true rfl⟩ (fun r_110 h => ?_)
        refine zr_pop C dyL_law_851 rfl ?_
        refine zr_aload_n C dyL_law_852 rfl 3 rfl ?_
        refine zr_aload_n C dyL_law_853 rfl 1 rfl ?_
        refine zr_iload_n C dyL_law_854 rfl 0 rfl ?_
        refine zr_iconst C dyL_law_855 zc_i_1 ?_
        refine zr_iadd C dyL_law_856 ?_
        refine zr_sld C hX hbl hbA h.1 dyL_law_857 ?_
        replace h := h.2
        refine zr_aload_n C dyL_law_858 rfl 1 rfl ?_
        refine zr_iload_n C dyL_law_859 rfl 0 rfl ?_
        refine zr_iconst C dyL_law_860 zc_i_2 ?_
        refine zr_iadd C dyL_law_861 ?_
        refine zr_sld C hX hbl hbA h.1 dyL_law_862 ?_
        replace h := h.2
        refine zv_L_121t C hS (st := []) h ⟨Nat.le_of_ble_eq_true rfl, Nat.le_of_ble_eq_true rfl⟩ (Nat.le_of_ble_eq_true rfl) dyL_law_863 ⟨Nat.le_of_ble_eq_true rfl, Nat.le_of_ble_eq_true rfl⟩ (fun r_111 h => ?_)
        refine zr_pop C dyL_law_866 rfl ?_
        refine zr_goto C dyL_law_867 (tgt := 1245) (by decide) ?_
        exact h
      replace h := zif_neg hc_109 h
      by_cases hc_112 : x_3 = 26
      · replace h := zif_pos hc_112 h
        refine zr_tableIn C dyL_law_33 (by rw [hc_112]; decide) (by rw [hc_112]; decide) (off := 837) (by rw [hc_112]; decide) (tgt := 870) (by decide) ?_
        refine zr_aload_n C dyL_law_870 rfl 2 rfl ?_
        refine zr_aload_n C dyL_law_871 rfl 1 rfl ?_
        refine zr_iload_n C dyL_law_872 rfl 0 rfl ?_
        refine zr_iconst C dyL_law_873 zc_i_1 ?_
        refine zr_iadd C dyL_law_874 ?_
        refine zr_sld C hX hbl hbA h.1 dyL_law_875 ?_
        replace h := h.2
        refine zv_L_122t C hS.x (st := []) h ⟨Nat.le_of_ble_eq_true rfl, Nat.le_of_ble_eq_true rfl⟩ (Nat.le_of_ble_eq_true rfl) dyL_law_876 ⟨Nat.le_of_ble_eq_true rfl, Nat.le_of_ble_eq_true rfl⟩ (fun r_113 h => ?_)
        refine zr_pop C dyL_law_879 rfl ?_
        refine zr_aload_n C dyL_law_880 rfl 3 rfl ?_
        refine zr_aload_n C dyL_law_881 rfl 1 rfl ?_
        refine zr_iload_n C dyL_law_882 rfl 0 rfl ?_
        refine zr_iconst C dyL_law_883 zc_i_1 ?_
        refine zr_iadd C dyL_law_884 ?_
        refine zr_sld C hX hbl hbA h.1 dyL_law_885 ?_
        replace h := h.2
        refine zv_L_125t C hS (st := []) h ⟨Nat.le_of_ble_eq_true rfl, Nat.le_of_ble_eq_true rfl⟩ (Nat.le_of_ble_eq_true rfl) dyL_law_886 ⟨Nat.le_of_ble_eq_true rfl, Nat.le_of_ble_eq_true rfl⟩ (fun r_114 h => ?_)
        refine zr_pop C dyL_law_889 rfl ?_
        refine zr_goto C dyL_law_890 (tgt := 1245) (by decide) ?_
        exact h
      replace h := zif_neg hc_112 h
      by_cases hc_115 : x_3 = 27
      · replace h := zif_pos hc_115 h
        refine zr_tableIn C dyL_law_33 (by rw [hc_115]; decide) (by rw [hc_115]; decide) (off := 860) (by rw [hc_115]; decide) (tgt := 893) (by decide) ?_
        refine zr_aload_n C dyL_law_893 rfl 2 rfl ?_
        refine zr_aload_n C dyL_law_894 rfl 1 rfl ?_
        refine zr_iload_n C dyL_law_895 rfl 0 rfl ?_
        refine zr_iconst C dyL_law_896 zc_i_1 ?_
        refine zr_iadd C dyL_law_897 ?_
        refine zr_sld C hX hbl hbA h.1 dyL_law_898 ?_
        replace h := h.2
        refine zv_L_126t C hS.x (st := []) h ⟨Nat.le_of_ble_eq_true rfl, Nat.le_of_ble_eq_true rfl⟩ (Nat.le_of_ble_eq_true rfl) dyL_law_899 ⟨Nat.le_of_ble_eq_true rfl, Nat.le_of_ble_eq_true rfl⟩ (fun r_116 h => ?_)
        refine zr_pop C dyL_law_902 rfl ?_
        refine zr_aload_n C dyL_law_903 rfl 3 rfl ?_
        refine zr_aload_n C dyL_law_904 rfl 1 rfl ?_
        refine zr_iload_n C dyL_law_905 rfl 0 rfl ?_
        refine zr_iconst C dyL_law_906 zc_i_1 ?_
        refine zr_iadd C dyL_law_907 ?_
        refine zr_sld C hX hbl hbA h.1 dyL_law_908 ?_
        replace h := h.2
        refine zv_L_129t C hS (st := []) h ⟨Nat.le_of_ble_eq_true rfl, Nat.le_of_ble_eq_true rfl⟩ (Nat.le_of_ble_eq_true rfl) dyL_law_909 ⟨Nat.le_of_ble_eq_true rfl, Nat.le_of_ble_eq_true rfl⟩ (fun r_117 h => ?_)
        refine zr_pop C dyL_law_912 rfl ?_
        refine zr_goto C dyL_law_913 (tgt := 1245) (by decide) ?_
        exact h
      replace h := zif_neg hc_115 h
      by_cases hc_118 : x_3 = 28
      · replace h := zif_pos hc_118 h
        refine zr_tableIn C dyL_law_33 (by rw [hc_118]; decide) (by rw [hc_118]; decide) (off := 883) (by rw [hc_118]; decide) (tgt := 916) (by decide) ?_
        refine zr_aload_n C dyL_law_916 rfl 2 rfl ?_
        refine zv_L_130t C hS.x (st := []) h ⟨Nat.le_of_ble_eq_true rfl, Nat.le_of_ble_eq_true rfl⟩ (Nat.le_of_ble_eq_true rfl) dyL_law_917 ⟨Nat.le_of_ble_eq_true rfl, Nat.le_of_ble_eq_true rfl⟩ (fun r_119 h => ?_)
        refine zr_pop C dyL_law_920 rfl ?_
        refine zr_aload_n C dyL_law_921 rfl 3 rfl ?_
        refine zv_L_133t C hS (st := []) h ⟨Nat.le_of_ble_eq_true rfl, Nat.le_of_ble_eq_true rfl⟩ (Nat.le_of_ble_eq_true rfl) dyL_law_922 ⟨Nat.le_of_ble_eq_true rfl, Nat.le_of_ble_eq_true rfl⟩ (fun r_120 h => ?_)
        refine zr_pop C dyL_law_925 rfl ?_
        refine zr_goto C dyL_law_926 (tgt := 1245) (by decide) ?_
        exact h
      replace h := zif_neg hc_118 h
      by_cases hc_121 : x_3 = 29
      · replace h := zif_pos hc_121 h
        refine zr_tableIn C dyL_law_33 (by rw [hc_121]; decide) (by rw [hc_121]; decide) (off := 896) (by rw [hc_121]; decide) (tgt := 929) (by decide) ?_
        refine zr_aload_n C dyL_law_929 rfl 2 rfl ?_
        refine zr_aload_n C dyL_law_930 rfl 1 rfl ?_
        refine zr_iload_n C dyL_law_931 rfl 0 rfl ?_
        refine zr_iconst C dyL_law_932 zc_i_1 ?_
        refine zr_iadd C dyL_law_933 ?_
        refine zr_sld C hX hbl hbA h.1 dyL_law_934 ?_
        replace h := h.2
        refine zv_L_134t C hS.x (st := []) h ⟨Nat.le_of_ble_eq_true rfl, Nat.le_of_ble_eq_true rfl⟩ (Nat.le_of_ble_eq_true rfl) dyL_law_935 ⟨Nat.le_of_ble_eq_true rfl, Nat.le_of_ble_eq_true rfl⟩ (fun r_122 h => ?_)
        refine zr_pop C dyL_law_938 rfl ?_
        refine zr_aload_n C dyL_law_939 rfl 3 rfl ?_
        refine zr_aload_n C dyL_law_940 rfl 1 rfl ?_
        refine zr_iload_n C dyL_law_941 rfl 0 rfl ?_
        refine zr_iconst C dyL_law_942 zc_i_1 ?_
        refine zr_iadd C dyL_law_943 ?_
        refine zr_sld C hX hbl hbA h.1 dyL_law_944 ?_
        replace h := h.2
        refine zv_L_137t C hS (st := []) h ⟨Nat.le_of_ble_eq_true rfl, Nat.le_of_ble_eq_true rfl⟩ (Nat.le_of_ble_eq_true rfl) dyL_law_945 ⟨Nat.le_of_ble_eq_true rfl, Nat.le_of_ble_eq_true rfl⟩ (fun r_123 h => ?_)
        refine zr_pop C dyL_law_948 rfl ?_
        refine zr_goto C dyL_law_949 (tgt := 1245) (by decide) ?_
        exact h
      replace h := zif_neg hc_121 h
      by_cases hc_124 : x_3 = 30
      · replace h := zif_pos hc_124 h
        refine zr_tableIn C dyL_law_33 (by rw [hc_124]; decide) (by rw [hc_124]; decide) (off := 919) (by rw [hc_124]; decide) (tgt := 952) (by decide) ?_
        refine zr_aload_n C dyL_law_952 rfl 2 rfl ?_
        refine zr_aload_n C dyL_law_953 rfl 1 rfl ?_
        refine zr_iload_n C dyL_law_954 rfl 0 rfl ?_
        refine zr_iconst C dyL_law_955 zc_i_1 ?_
        refine zr_iadd C dyL_law_956 ?_
        refine zr_sld C hX hbl hbA h.1 dyL_law_957 ?_
        replace h := h.2
        refine zv_L_138t C hS.x (st := []) h ⟨Nat.le_of_ble_eq_true rfl, Nat.le_of_ble_eq_true rfl⟩ (Nat.le_of_ble_eq_true rfl) dyL_law_958 ⟨Nat.le_of_ble_eq_true rfl, Nat.le_of_ble_eq_true rfl⟩ (fun r_125 h => ?_)
        refine zr_pop C dyL_law_961 rfl ?_
        refine zr_aload_n C dyL_law_962 rfl 3 rfl ?_
        refine zr_aload_n C dyL_law_963 rfl 1 rfl ?_
        refine zr_iload_n C dyL_law_964 rfl 0 rfl ?_
        refine zr_iconst C dyL_law_965 zc_i_1 ?_
        refine zr_iadd C dyL_law_966 ?_
        refine zr_sld C hX hbl hbA h.1 dyL_law_967 ?_
        replace h := h.2
        refine zv_L_141t C hS (st := []) h ⟨Nat.le_of_ble_eq_true rfl, Nat.le_of_ble_eq_true rfl⟩ (Nat.le_of_ble_eq_true rfl) dyL_law_968 ⟨Nat.le_of_ble_eq_true rfl, Nat.le_of_ble_eq_true rfl⟩ (fun r_126 I_127 h => ?_)
        refine zr_pop C dyL_law_971 rfl ?_
        refine zr_goto C dyL_law_972 (tgt := 1245) (by decide) ?_
        exact h
      replace h := zif_neg hc_124 h
      by_cases hc_128 : x_3 = 31
      · replace h := zif_pos hc_128 h
        refine zr_tableIn C dyL_law_33 (by rw [hc_128]; decide) (by rw [hc_128]; decide) (off := 942) (by rw [hc_128]; decide) (tgt := 975) (by decide) ?_
        refine zr_aload_n C dyL_law_975 rfl 2 rfl ?_
        refine zr_aload_n C dyL_law_976 rfl 1 rfl ?_
        refine zr_iload_n C dyL_law_977 rfl 0 rfl ?_
        refine zr_iconst C dyL_law_978 zc_i_1 ?_
        refine zr_iadd C dyL_law_979 ?_
        refine zr_sld C hX hbl hbA h.1 dyL_law_980 ?_
        replace h := h.2
        refine zv_L_142t C hS.x (st := []) h ⟨Nat.le_of_ble_eq_true rfl, Nat.le_of_ble_eq_true rfl⟩ (Nat.le_of_ble_eq_true rfl) dyL_law_981 ⟨Nat.le_of_ble_eq_true rfl, Nat.le_of_ble_eq_true rfl⟩ (fun r_129 h => ?_)
        refine zr_pop C dyL_law_984 rfl ?_
        refine zr_aload_n C dyL_law_985 rfl 3 rfl ?_
        refine zr_aload_n C dyL_law_986 rfl 1 rfl ?_
        refine zr_iload_n C dyL_law_987 rfl 0 rfl ?_
        refine zr_iconst C dyL_law_988 zc_i_1 ?_
        refine zr_iadd C dyL_law_989 ?_
        refine zr_sld C hX hbl hbA h.1 dyL_law_990 ?_
        replace h := h.2
        refine zv_L_145t C hS (st := []) h ⟨Nat.le_of_ble_eq_true rfl, Nat.le_of_ble_eq_true rfl⟩ (Nat.le_of_ble_eq_true rfl) dyL_law_991 ⟨Nat.le_of_ble_eq_true rfl, Nat.le_of_ble_eq_true rfl⟩ (fun r_130 I_131 h => ?_)
        refine zr_pop C dyL_law_994 rfl ?_
        refine zr_goto C dyL_law_995 (tgt := 1245) (by decide) ?_
        exact h
      replace h := zif_neg hc_128 h
      by_cases hc_132 : x_3 = 32
      · replace h := zif_pos hc_132 h
        refine zr_tableIn C dyL_law_33 (by rw [hc_132]; decide) (by rw [hc_132]; decide) (off := 965) (by rw [hc_132]; decide) (tgt := 998) (by decide) ?_
        refine zr_aload_n C dyL_law_998 rfl 2 rfl ?_
        refine zr_aload_n C dyL_law_999 rfl 1 rfl ?_
        refine zr_iload_n C dyL_law_1000 rfl 0 rfl ?_
        refine zr_iconst C dyL_law_1001 zc_i_1 ?_
        refine zr_iadd C dyL_law_1002 ?_
        refine zr_sld C hX hbl hbA h.1 dyL_law_1003 ?_
        replace h := h.2
        refine zr_aload_n C dyL_law_1004 rfl 1 rfl ?_
        refine zr_iload_n C dyL_law_1005 rfl 0 rfl ?_
        refine zr_iconst C dyL_law_1006 zc_i_2 ?_
        refine zr_iadd C dyL_law_1007 ?_
        refine zr_sld C hX hbl hbA h.1 dyL_law_1008 ?_
        replace h := h.2
        refine zv_L_146t C hS.x (st := []) h ⟨Nat.le_of_ble_eq_true rfl, Nat.le_of_ble_eq_true rfl⟩ (Nat.le_of_ble_eq_true rfl) dyL_law_1009 ⟨Nat.le_of_ble_eq_true rfl, Nat.le_of_ble_eq_true rfl⟩ (fun r_133 h => ?_)
        refine zr_pop C dyL_law_1012 rfl ?_
        refine zr_aload_n C dyL_law_1013 rfl 3 rfl ?_
        refine zr_aload_n C dyL_law_1014 rfl 1 rfl ?_
        refine zr_iload_n C dyL_law_1015 rfl 0 rfl ?_
        refine zr_iconst C dyL_law_1016 zc_i_1 ?_
        refine zr_iadd C dyL_law_1017 ?_
        refine zr_sld C hX hbl hbA h.1 dyL_law_1018 ?_
        replace h := h.2
        refine zr_aload_n C dyL_law_1019 rfl 1 rfl ?_
        refine zr_iload_n C dyL_law_1020 rfl 0 rfl ?_
        refine zr_iconst C dyL_law_1021 zc_i_2 ?_
        refine zr_iadd C dyL_law_1022 ?_
        refine zr_sld C hX hbl hbA h.1 dyL_law_1023 ?_
        replace h := h.2
        refine zv_L_149t C hS (st := []) h ⟨Nat.le_of_ble_eq_true rfl, Nat.le_of_ble_eq_true rfl⟩ (Nat.le_of_ble_eq_true rfl) dyL_law_1024 ⟨Nat.le_of_ble_eq_true rfl, Nat.le_of_ble_eq_true rfl⟩ (fun r_134 h => ?_)
        refine zr_pop C dyL_law_1027 rfl ?_
        refine zr_goto C dyL_law_1028 (tgt := 1245) (by decide) ?_
        exact h
      replace h := zif_neg hc_132 h
      by_cases hc_135 : x_3 = 33
      · replace h := zif_pos hc_135 h
        refine zr_tableIn C dyL_law_33 (by rw [hc_135]; decide) (by rw [hc_135]; decide) (off := 998) (by rw [hc_135]; decide) (tgt := 1031) (by decide) ?_
        refine zr_aload_n C dyL_law_1031 rfl 2 rfl ?_
        refine zr_aload_n C dyL_law_1032 rfl 1 rfl ?_
        refine zr_iload_n C dyL_law_1033 rfl 0 rfl ?_
        refine zr_iconst C dyL_law_1034 zc_i_1 ?_
        refine zr_iadd C dyL_law_1035 ?_
        refine zr_sld C hX hbl hbA h.1 dyL_law_1036 ?_
        replace h := h.2
        refine zr_aload_n C dyL_law_1037 rfl 1 rfl ?_
        refine zr_iload_n C dyL_law_1038 rfl 0 rfl ?_
        refine zr_iconst C dyL_law_1039 zc_i_2 ?_
        refine zr_iadd C dyL_law_1040 ?_
        refine zr_sld C hX hbl hbA h.1 dyL_law_1041 ?_
        replace h := h.2
        refine zv_L_150t C hS.x (st := []) h ⟨Nat.le_of_ble_eq_true rfl, Nat.le_of_ble_eq_true rfl⟩ (Nat.le_of_ble_eq_true rfl) dyL_law_1042 ⟨Nat.le_of_ble_eq_true rfl, Nat.le_of_ble_eq_true rfl⟩ (fun r_136 h => ?_)
        refine zr_pop C dyL_law_1045 rfl ?_
        refine zr_aload_n C dyL_law_1046 rfl 3 rfl ?_
        refine zr_aload_n C dyL_law_1047 rfl 1 rfl ?_
        refine zr_iload_n C dyL_law_1048 rfl 0 rfl ?_
        refine zr_iconst C dyL_law_1049 zc_i_1 ?_
        refine zr_iadd C dyL_law_1050 ?_
        refine zr_sld C hX hbl hbA h.1 dyL_law_1051 ?_
        replace h := h.2
        refine zr_aload_n C dyL_law_1052 rfl 1 rfl ?_
        refine zr_iload_n C dyL_law_1053 rfl 0 rfl ?_
        refine zr_iconst C dyL_law_1054 zc_i_2 ?_
        refine zr_iadd C dyL_law_1055 ?_
        refine zr_sld C hX hbl hbA h.1 dyL_law_1056 ?_
        replace h := h.2
        refine zv_L_153t C hS (st := []) h ⟨Nat.le_of_ble_eq_true rfl, Nat.le_of_ble_eq_true rfl⟩ (Nat.le_of_ble_eq_true rfl) dyL_law_1057 ⟨Nat.le_of_ble_eq_true rfl, Nat.le_of_ble_eq_true rfl⟩ (fun r_137 h => ?_)
        refine zr_pop C dyL_law_1060 rfl ?_
        refine zr_goto C dyL_law_1061 (tgt := 1245) (by decide) ?_
        exact h
      replace h := zif_neg hc_135 h
      by_cases hc_138 : x_3 = 34
      · replace h := zif_pos hc_138 h
        refine zr_tableIn C dyL_law_33 (by rw [hc_138]; decide) (by rw [hc_138]; decide) (off := 1031) (by rw [hc_138]; decide) (tgt := 1064) (by decide) ?_
        refine zr_aload_n C dyL_law_1064 rfl 2 rfl ?_
        refine zr_aload_n C dyL_law_1065 rfl 1 rfl ?_
        refine zr_iload_n C dyL_law_1066 rfl 0 rfl ?_
        refine zr_iconst C dyL_law_1067 zc_i_1 ?_
        refine zr_iadd C dyL_law_1068 ?_
        refine zr_sld C hX hbl hbA h.1 dyL_law_1069 ?_
        replace h := h.2
        refine zv_L_154t C hS.x (st := []) h ⟨Nat.le_of_ble_eq_true rfl, Nat.le_of_ble_eq_true rfl⟩ (Nat.le_of_ble_eq_true rfl) dyL_law_1070 ⟨Nat.le_of_ble_eq_true rfl, Nat.le_of_ble_eq_true rfl⟩ (fun r_139 h => ?_)
        refine zr_pop C dyL_law_1073 rfl ?_
        refine zr_aload_n C dyL_law_1074 rfl 3 rfl ?_
        refine zr_aload_n C dyL_law_1075 rfl 1 rfl ?_
        refine zr_iload_n C dyL_law_1076 rfl 0 rfl ?_
        refine zr_iconst C dyL_law_1077 zc_i_1 ?_
        refine zr_iadd C dyL_law_1078 ?_
        refine zr_sld C hX hbl hbA h.1 dyL_law_1079 ?_
        replace h := h.2
        refine zv_L_157t C hS (st := []) h ⟨Nat.le_of_ble_eq_true rfl, Nat.le_of_ble_eq_true rfl⟩ (Nat.le_of_ble_eq_true rfl) dyL_law_1080 ⟨Nat.le_of_ble_eq_true rfl, Nat.le_of_ble_eq_true rfl⟩ (fun r_140 h => ?_)
        refine zr_pop C dyL_law_1083 rfl ?_
        refine zr_goto C dyL_law_1084 (tgt := 1245) (by decide) ?_
        exact h
      replace h := zif_neg hc_138 h
      by_cases hc_141 : x_3 = 35
      · replace h := zif_pos hc_141 h
        refine zr_tableIn C dyL_law_33 (by rw [hc_141]; decide) (by rw [hc_141]; decide) (off := 1054) (by rw [hc_141]; decide) (tgt := 1087) (by decide) ?_
        refine zr_aload_n C dyL_law_1087 rfl 2 rfl ?_
        refine zr_aload_n C dyL_law_1088 rfl 1 rfl ?_
        refine zr_iload_n C dyL_law_1089 rfl 0 rfl ?_
        refine zr_iconst C dyL_law_1090 zc_i_1 ?_
        refine zr_iadd C dyL_law_1091 ?_
        refine zr_sld C hX hbl hbA h.1 dyL_law_1092 ?_
        replace h := h.2
        refine zv_L_158t C hS.x (st := []) h ⟨Nat.le_of_ble_eq_true rfl, Nat.le_of_ble_eq_true rfl⟩ (Nat.le_of_ble_eq_true rfl) dyL_law_1093 ⟨Nat.le_of_ble_eq_true rfl, Nat.le_of_ble_eq_true rfl⟩ (fun r_142 h => ?_)
        refine zr_pop C dyL_law_1096 rfl ?_
        refine zr_aload_n C dyL_law_1097 rfl 3 rfl ?_
        refine zr_aload_n C dyL_law_1098 rfl 1 rfl ?_
        refine zr_iload_n C dyL_law_1099 rfl 0 rfl ?_
        refine zr_iconst C dyL_law_1100 zc_i_1 ?_
        refine zr_iadd C dyL_law_1101 ?_
        refine zr_sld C hX hbl hbA h.1 dyL_law_1102 ?_
        replace h := h.2
        refine zv_L_161t C hS (st := []) h ⟨Nat.le_of_ble_eq_true rfl, Nat.le_of_ble_eq_true rfl⟩ (Nat.le_of_ble_eq_true rfl) dyL_law_1103 ⟨Nat.le_of_ble_eq_true rfl, Nat.le_of_ble_eq_true rfl⟩ (fun r_143 h => ?_)
        refine zr_pop C dyL_law_1106 rfl ?_
        refine zr_goto C dyL_law_1107 (tgt := 1245) (by decide) ?_
        exact h
      replace h := zif_neg hc_141 h
      by_cases hc_144 : x_3 = 36
      · replace h := zif_pos hc_144 h
        refine zr_tableIn C dyL_law_33 (by rw [hc_144]; decide) (by rw [hc_144]; decide) (off := 1077) (by rw [hc_144]; decide) (tgt := 1110) (by decide) ?_
        refine zr_aload_n C dyL_law_1110 rfl 2 rfl ?_
        refine zr_aload_n C dyL_law_1111 rfl 1 rfl ?_
        refine zr_iload_n C dyL_law_1112 rfl 0 rfl ?_
        refine zr_iconst C dyL_law_1113 zc_i_1 ?_
        refine zr_iadd C dyL_law_1114 ?_
        refine zr_sld C hX hbl hbA h.1 dyL_law_1115 ?_
        replace h := h.2
        refine zv_L_162t C hS.x (st := []) h ⟨Nat.le_of_ble_eq_true rfl, Nat.le_of_ble_eq_true rfl⟩ (Nat.le_of_ble_eq_true rfl) dyL_law_1116 ⟨Nat.le_of_ble_eq_true rfl, Nat.le_of_ble_eq_true rfl⟩ (fun r_145 h => ?_)
        refine zr_pop C dyL_law_1119 rfl ?_
        refine zr_aload_n C dyL_law_1120 rfl 3 rfl ?_
        refine zr_aload_n C dyL_law_1121 rfl 1 rfl ?_
        refine zr_iload_n C dyL_law_1122 rfl 0 rfl ?_
        refine zr_iconst C dyL_law_1123 zc_i_1 ?_
        refine zr_iadd C dyL_law_1124 ?_
        refine zr_sld C hX hbl hbA h.1 dyL_law_1125 ?_
        replace h := h.2
        refine zv_L_165t C hS (st := []) h ⟨Nat.le_of_ble_eq_true rfl, Nat.le_of_ble_eq_true rfl⟩ (Nat.le_of_ble_eq_true rfl) dyL_law_1126 ⟨Nat.le_of_ble_eq_true rfl, Nat.le_of_ble_eq_true rfl⟩ (fun r_146 h => ?_)
        refine zr_pop C dyL_law_1129 rfl ?_
        refine zr_goto C dyL_law_1130 (tgt := 1245) (by decide) ?_
        exact h
      replace h := zif_neg hc_144 h
      by_cases hc_147 : x_3 = 37
      · replace h := zif_pos hc_147 h
        refine zr_tableIn C dyL_law_33 (by rw [hc_147]; decide) (by rw [hc_147]; decide) (off := 1100) (by rw [hc_147]; decide) (tgt := 1133) (by decide) ?_
        refine zr_aload_n C dyL_law_1133 rfl 2 rfl ?_
        refine zr_aload_n C dyL_law_1134 rfl 1 rfl ?_
        refine zr_iload_n C dyL_law_1135 rfl 0 rfl ?_
        refine zr_iconst C dyL_law_1136 zc_i_1 ?_
        refine zr_iadd C dyL_law_1137 ?_
        refine zr_sld C hX hbl hbA h.1 dyL_law_1138 ?_
        replace h := h.2
        refine zr_aload_n C dyL_law_1139 rfl 1 rfl ?_
        refine zr_iload_n C dyL_law_1140 rfl 0 rfl ?_
        refine zr_iconst C dyL_law_1141 zc_i_2 ?_
        refine zr_iadd C dyL_law_1142 ?_
        refine zr_sld C hX hbl hbA h.1 dyL_law_1143 ?_
        replace h := h.2
        refine zv_L_166t C hS.x (st := []) h ⟨Nat.le_of_ble_eq_true rfl, Nat.le_of_ble_eq_true rfl⟩ (Nat.le_of_ble_eq_true rfl) dyL_law_1144 ⟨Nat.le_of_ble_eq_true rfl, Nat.le_of_ble_eq_true rfl⟩ (fun r_148 I_149 h => ?_)
        refine zr_pop C dyL_law_1147 rfl ?_
        refine zr_aload_n C dyL_law_1148 rfl 3 rfl ?_
        refine zr_aload_n C dyL_law_1149 rfl 1 rfl ?_
        refine zr_iload_n C dyL_law_1150 rfl 0 rfl ?_
        refine zr_iconst C dyL_law_1151 zc_i_1 ?_
        refine zr_iadd C dyL_law_1152 ?_
        refine zr_sld C hX hbl hbA h.1 dyL_law_1153 ?_
        replace h := h.2
        refine zr_aload_n C dyL_law_1154 rfl 1 rfl ?_
        refine zr_iload_n C dyL_law_1155 rfl 0 rfl ?_
        refine zr_iconst C dyL_law_1156 zc_i_2 ?_
        refine zr_iadd C dyL_law_1157 ?_
        refine zr_sld C hX hbl hbA h.1 dyL_law_1158 ?_
        replace h := h.2
        refine zv_L_169t C hS (st := []) h ⟨Nat.le_of_ble_eq_true rfl, Nat.le_of_ble_eq_true rfl⟩ (Nat.le_of_ble_eq_true rfl) dyL_law_1159 ⟨Nat.le_of_ble_eq_true rfl, Nat.le_of_ble_eq_true rfl⟩ (fun r_150 I_151 h => ?_)
        refine zr_pop C dyL_law_1162 rfl ?_
        refine zr_goto C dyL_law_1163 (tgt := 1245) (by decide) ?_
        exact h
      replace h := zif_neg hc_147 h
      by_cases hc_152 : x_3 = 38
      · replace h := zif_pos hc_152 h
        refine zr_tableIn C dyL_law_33 (by rw [hc_152]; decide) (by rw [hc_152]; decide) (off := 1133) (by rw [hc_152]; decide) (tgt := 1166) (by decide) ?_
        refine zr_aload_n C dyL_law_1166 rfl 2 rfl ?_
        refine zr_aload_n C dyL_law_1167 rfl 1 rfl ?_
        refine zr_iload_n C dyL_law_1168 rfl 0 rfl ?_
        refine zr_iconst C dyL_law_1169 zc_i_1 ?_
        refine zr_iadd C dyL_law_1170 ?_
        refine zr_sld C hX hbl hbA h.1 dyL_law_1171 ?_
        replace h := h.2
        refine zr_aload_n C dyL_law_1172 rfl 1 rfl ?_
        refine zr_iload_n C dyL_law_1173 rfl 0 rfl ?_
        refine zr_iconst C dyL_law_1174 zc_i_2 ?_
        refine zr_iadd C dyL_law_1175 ?_
        refine zr_sld C hX hbl hbA h.1 dyL_law_1176 ?_
        replace h := h.2
        refine zv_L_170t C hS.x (st := []) h ⟨Nat.le_of_ble_eq_true rfl, Nat.le_of_ble_eq_true rfl⟩ (Nat.le_of_ble_eq_true rfl) dyL_law_1177 ⟨Nat.le_of_ble_eq_true rfl, Nat.le_of_ble_eq_true rfl⟩ (fun r_153 h => ?_)
        refine zr_pop C dyL_law_1180 rfl ?_
        refine zr_aload_n C dyL_law_1181 rfl 3 rfl ?_
        refine zr_aload_n C dyL_law_1182 rfl 1 rfl ?_
        refine zr_iload_n C dyL_law_1183 rfl 0 rfl ?_
        refine zr_iconst C dyL_law_1184 zc_i_1 ?_
        refine zr_iadd C dyL_law_1185 ?_
        refine zr_sld C hX hbl hbA h.1 dyL_law_1186 ?_
        replace h := h.2
        refine zr_aload_n C dyL_law_1187 rfl 1 rfl ?_
        refine zr_iload_n C dyL_law_1188 rfl 0 rfl ?_
        refine zr_iconst C dyL_law_1189 zc_i_2 ?_
        refine zr_iadd C dyL_law_1190 ?_
        refine zr_sld C hX hbl hbA h.1 dyL_law_1191 ?_
        replace h := h.2
        refine zv_L_173t C hS (st := []) h ⟨Nat.le_of_ble_eq_true rfl, Nat.le_of_ble_eq_true rfl⟩ (Nat.le_of_ble_eq_true rfl) dyL_law_1192 ⟨Nat.le_of_ble_eq_true rfl, Nat.le_of_ble_eq_true rfl⟩ (fun r_154 h => ?_)
        refine zr_pop C dyL_law_1195 rfl ?_
        refine zr_goto C dyL_law_1196 (tgt := 1245) (by decide) ?_
        exact h
      replace h := zif_neg hc_152 h
      by_cases hc_155 : x_3 = 39
      · replace h := zif_pos hc_155 h
        refine zr_tableIn C dyL_law_33 (by rw [hc_155]; decide) (by rw [hc_155]; decide) (off := 1166) (by rw [hc_155]; decide) (tgt := 1199) (by decide) ?_
        refine zr_aload_n C dyL_law_1199 rfl 2 rfl ?_
        refine zr_aload_n C dyL_law_1200 rfl 1 rfl ?_
        refine zr_iload_n C dyL_law_1201 rfl 0 rfl ?_
        refine zr_iconst C dyL_law_1202 zc_i_1 ?_
        refine zr_iadd C dyL_law_1203 ?_
        refine zr_sld C hX hbl hbA h.1 dyL_law_1204 ?_
        replace h := h.2
        refine zv_L_174t C hS.x (st := []) h ⟨Nat.le_of_ble_eq_true rfl, Nat.le_of_ble_eq_true rfl⟩ (Nat.le_of_ble_eq_true rfl) dyL_law_1205 ⟨Nat.le_of_ble_eq_true rfl, Nat.le_of_ble_eq_true rfl⟩ (fun r_156 h => ?_)
        refine zr_pop C dyL_law_1208 rfl ?_
        refine zr_aload_n C dyL_law_1209 rfl 3 rfl ?_
        refine zr_aload_n C dyL_law_1210 rfl 1 rfl ?_
        refine zr_iload_n C dyL_law_1211 rfl 0 rfl ?_
        refine zr_iconst C dyL_law_1212 zc_i_1 ?_
        refine zr_iadd C dyL_law_1213 ?_
        refine zr_sld C hX hbl hbA h.1 dyL_law_1214 ?_
        replace h := h.2
        refine zv_L_177t C hS (st := []) h ⟨Nat.le_of_ble_eq_true rfl, Nat.le_of_ble_eq_true rfl⟩ (Nat.le_of_ble_eq_true rfl) dyL_law_1215 ⟨Nat.le_of_ble_eq_true rfl, Nat.le_of_ble_eq_true rfl⟩ (fun r_157 h => ?_)
        refine zr_pop C dyL_law_1218 rfl ?_
        refine zr_goto C dyL_law_1219 (tgt := 1245) (by decide) ?_
        exact h
      replace h := zif_neg hc_155 h
      by_cases hc_158 : x_3 = 40
      · replace h := zif_pos hc_158 h
        refine zr_tableIn C dyL_law_33 (by rw [hc_158]; decide) (by rw [hc_158]; decide) (off := 1189) (by rw [hc_158]; decide) (tgt := 1222) (by decide) ?_
        refine zr_aload_n C dyL_law_1222 rfl 2 rfl ?_
        refine zr_aload_n C dyL_law_1223 rfl 1 rfl ?_
        refine zr_iload_n C dyL_law_1224 rfl 0 rfl ?_
        refine zr_iconst C dyL_law_1225 zc_i_1 ?_
        refine zr_iadd C dyL_law_1226 ?_
        refine zr_sld C hX hbl hbA h.1 dyL_law_1227 ?_
        replace h := h.2
        refine zv_L_178t C hS.x (st := []) h ⟨Nat.le_of_ble_eq_true rfl, Nat.le_of_ble_eq_true rfl⟩ (Nat.le_of_ble_eq_true rfl) dyL_law_1228 ⟨Nat.le_of_ble_eq_true rfl, Nat.le_of_ble_eq_true rfl⟩ (fun r_159 h => ?_)
        refine zr_pop C dyL_law_1231 rfl ?_
        refine zr_aload_n C dyL_law_1232 rfl 3 rfl ?_
        refine zr_aload_n C dyL_law_1233 rfl 1 rfl ?_
        refine zr_iload_n C dyL_law_1234 rfl 0 rfl ?_
        refine zr_iconst C dyL_law_1235 zc_i_1 ?_
        refine zr_iadd C dyL_law_1236 ?_
        refine zr_sld C hX hbl hbA h.1 dyL_law_1237 ?_
        replace h := h.2
        refine zv_L_181t C hS (st := []) h ⟨Nat.le_of_ble_eq_true rfl, Nat.le_of_ble_eq_true rfl⟩ (Nat.le_of_ble_eq_true rfl) dyL_law_1238 ⟨Nat.le_of_ble_eq_true rfl, Nat.le_of_ble_eq_true rfl⟩ (fun r_160 I_161 h => ?_)
        refine zr_pop C dyL_law_1241 rfl ?_
        refine zr_goto C dyL_law_1242 (tgt := 1245) (by decide) ?_
        exact h
      replace h := zif_neg hc_158 h
      refine zr_tableOut C dyL_law_33 (ztab_out (fun i h1 h2 => ?_)) (tgt := 1245) (by decide) ?_
      · rcases (by omega : i = 0 ∨ i = 1 ∨ i = 2 ∨ i = 3 ∨ i = 4 ∨ i = 5 ∨ i = 6 ∨ i = 7 ∨ i = 8 ∨ i = 9 ∨ i = 10 ∨ i = 11 ∨ i = 12 ∨ i = 13 ∨ i = 14 ∨ i = 15 ∨ i = 16 ∨ i = 17 ∨ i = 18 ∨ i = 19 ∨ i = 20 ∨ i = 21 ∨ i = 22 ∨ i = 23 ∨ i = 24 ∨ i = 25 ∨ i = 26 ∨ i = 27 ∨ i = 28 ∨ i = 29 ∨ i = 30 ∨ i = 31 ∨ i = 32 ∨ i = 33 ∨ i = 34 ∨ i = 35 ∨ i = 36 ∨ i = 37 ∨ i = 38 ∨ i = 39 ∨ i = 40) with rfl | rfl | rfl | rfl | rfl | rfl | rfl | rfl | rfl | rfl | rfl | rfl | rfl | rfl | rfl | rfl | rfl | rfl | rfl | rfl | rfl | rfl | rfl | rfl | rfl | rfl | rfl | rfl | rfl | rfl | rfl | rfl | rfl | rfl | rfl | rfl | rfl | rfl | rfl | rfl | rfl
        · exact hc_6
        · exact hc_11
        · exact hc_17
        · exact hc_22
        · exact hc_27
        · exact hc_32
        · exact hc_37
        · exact hc_42
        · exact hc_47
        · exact hc_52
        · exact hc_55
        · exact hc_58
        · exact hc_61
        · exact hc_64
        · exact hc_67
        · exact hc_70
        · exact hc_74
        · exact hc_79
        · exact hc_84
        · exact hc_89
        · exact hc_93
        · exact hc_96
        · exact hc_100
        · exact hc_103
        · exact hc_106
        · exact hc_109
        · exact hc_112
        · exact hc_115
        · exact hc_118
        · exact hc_121
        · exact hc_124
        · exact hc_128
        · exact hc_132
        · exact hc_135
        · exact hc_138
        · exact hc_141
        · exact hc_144
        · exact hc_147
        · exact hc_152
        · exact hc_155
        · exact hc_158
      exact h
  exact h
set_option maxHeartbeats 4000000 in
set_option maxRecDepth 20000 in
theorem zl_start {p : Program} {l : Launch} {e : Env} {s : State} {m : MethodId} {below : List Frame} {meth : Method} {c : Code} {D : va_G} {cA : Nat → ClassId} {ad : Nat → Nat} {b L : Nat} {xs : Nat → Int32} (C : zCx p s m #[Value.ref b] meth c cL_law 4 RL ret D s.heap.size cA ad) (hX : va_X b L xs s s.heap) (hbl : b < s.heap.size) (hbA : ¬ s.heap.size ≤ b) (h : w_law L xs) : zX p l e room_1 s m #[Value.ref b] below meth c (lw_Z below #[Value.ref b] s) D s.heap.size cA 4 0 0 [] z00 [(0, .ref b)] [] 0 := by
  have hz : zZ z00 0 := fun a _ => ⟨fun _ => rfl, fun _ => rfl⟩
  refine za_new C (ci := 11) (fs := [some none, none, some none, some none, none, none, none, none, some none, some none, some none, some none, some none, some none, some none, some none, some none, some none, none]) rfl zin_11 tyX11 tyX11_ok zk_cl_L_7 zk_ia_11 zk_in_11 zdf_11 (hz.up (Nat.zero_le _)) (Nat.le_of_ble_eq_true rfl) (Nat.le_of_ble_eq_true rfl) dyL_law_0 ?_
  refine zr_dup C dyL_law_3 rfl ?_
  refine zl_callD C (st := [.ref (s.heap.size + ([] : List zC).length)]) (ci_Desk [] rfl (hz.up (Nat.zero_le _)) h) (zgM zk_cd_yX11_init) zk_ml_L_9 zk_im_yX11_init zk_in_11 rfl rfl rfl zsg_yX11_init ⟨Nat.le_of_ble_eq_true rfl, Nat.le_of_ble_eq_true rfl⟩ rfl rfl (Nat.le_of_ble_eq_true rfl) dyL_law_4 ⟨Nat.le_of_ble_eq_true rfl, Nat.le_of_ble_eq_true rfl⟩ (fun I1 h => ?_)
  obtain ⟨hz1, h⟩ := h
  refine zr_astore_n C dyL_law_7 rfl (Nat.le_of_ble_eq_true rfl) (lv2 := [(1, .ref (s.heap.size + 0)), (0, .ref b)]) rfl ?_
  refine za_new C (ci := 12) (fs := zmO 0) rfl zin_12 tyX12 tyX12_ok zk_cl_L_10 zk_ia_12 zk_in_12 zdf_12 (by rw [zSx_len]; exact hz1) (Nat.le_of_ble_eq_true rfl) (Nat.le_of_ble_eq_true rfl) dyL_law_8 ?_
  rw [zSx_len]
  refine zr_dup C dyL_law_11 rfl ?_
  refine zr_S (S2 := zmS 0) rfl ?_
  refine zl_callD C (st := [.ref (s.heap.size + 491)]) (ci_M hz1 h) (zgM zk_cd_yX12_init) zk_ml_L_12 zk_im_yX12_init zk_in_12 rfl rfl rfl zsg_yX12_init ⟨Nat.le_of_ble_eq_true rfl, Nat.le_of_ble_eq_true rfl⟩ rfl rfl (Nat.le_of_ble_eq_true rfl) dyL_law_12 ⟨Nat.le_of_ble_eq_true rfl, Nat.le_of_ble_eq_true rfl⟩ (fun I2 h => ?_)
  refine zr_astore_n C dyL_law_15 rfl (Nat.le_of_ble_eq_true rfl) (lv2 := [(2, .ref (s.heap.size + 491)), (1, .ref (s.heap.size + 0)), (0, .ref b)]) rfl ?_
  refine zr_sub (lv2 := [(0, .ref b), (1, .ref (s.heap.size + 0)), (2, .ref (s.heap.size + 491))]) [2, 1, 0] rfl ?_
  exact zl_body C hX hbl hbA zOkM_self h
theorem zlw_in {w : Cond} (h : w ∈ zTb) : w ∈ lw_tbl := (List.mem_filter.mp h).1
theorem zlw_ao : Cond.arrayOver (.object "RegrowDesk$Moment") ∈ lw_tbl := List.mem_of_getElem? (i := 143) (by decide +kernel)
theorem zlw_ls_LEADS : Cond.laysStatic "RegrowDesk" "LEADS" "[I" ∈ lw_tbl := List.mem_of_getElem? (i := 959) (by decide +kernel)
theorem zlw_ls_STATE_RULE : Cond.laysStatic "RegrowDesk" "STATE_RULE" "[I" ∈ lw_tbl := List.mem_of_getElem? (i := 976) (by decide +kernel)
theorem zlw_ls_RULE_SYMBOL : Cond.laysStatic "RegrowDesk" "RULE_SYMBOL" "[I" ∈ lw_tbl := List.mem_of_getElem? (i := 602) (by decide +kernel)
theorem zlw_ls_FOLLOWERS : Cond.laysStatic "RegrowDesk" "FOLLOWERS" "[I" ∈ lw_tbl := List.mem_of_getElem? (i := 1132) (by decide +kernel)
theorem zlw_ls_RULE_LENGTH : Cond.laysStatic "RegrowDesk" "RULE_LENGTH" "[I" ∈ lw_tbl := List.mem_of_getElem? (i := 705) (by decide +kernel)
theorem zlw_a_LEADS : Cond.arrayOf (Term.static "RegrowDesk" "LEADS" "[I") .int ∈ flatC (Cond.and given_1 narrow_1) := by decide +kernel
theorem zlw_l_LEADS : Cond.eq (Term.length (Term.static "RegrowDesk" "LEADS" "[I")) (Term.int 357) ∈ flatC (Cond.and given_1 narrow_1) := by decide +kernel
set_option maxRecDepth 100000 in
theorem zlw_e_LEADS : ∀ j, j < 357 → Cond.eq (Term.elem (Term.static "RegrowDesk" "LEADS" "[I") (Term.int (Int32.ofNat j))) (Term.int (zst_LEADS.getD j 0)) ∈ flatC (Cond.and given_1 narrow_1) := by decide +kernel
theorem zlw_LEADS {args : Array Value} {s : State} (hs : ∀ c ∈ flatC (Cond.and given_1 narrow_1), c.before args s = true) (ht : ∀ w ∈ lw_tbl, w.before args s = true) : ∃ t : Nat, va_Z "RegrowDesk" "LEADS" "[I" (.ref t) (fun a => s.heap.size ≤ a) s s.heap ∧ va_T .int t zst_LEADS.length (fun j => .int (zst_LEADS.getD j 0)) (fun a => s.heap.size ≤ a) s s.heap := by
  obtain ⟨t, h1, h2⟩ := va_Tof (tm := (Term.static "RegrowDesk" "LEADS" "[I")) (ty := .int) (N := 357) (f := fun j => .int (zst_LEADS.getD j 0)) (A := fun a => s.heap.size ≤ a) (by decide) (hs _ zlw_a_LEADS) (va_eqt (hs _ zlw_l_LEADS)) (fun j hj => va_eqt (hs _ (zlw_e_LEADS j hj))) (fun a h => Nat.not_le.mpr h)
  exact ⟨t, va_Zof (ht _ zlw_ls_LEADS) (ht _ (zlw_in zk_in_11)) h1 (fun a h => Nat.not_le.mpr h), h2⟩
theorem zlw_a_STATE_RULE : Cond.arrayOf (Term.static "RegrowDesk" "STATE_RULE" "[I") .int ∈ flatC (Cond.and given_1 narrow_1) := by decide +kernel
theorem zlw_l_STATE_RULE : Cond.eq (Term.length (Term.static "RegrowDesk" "STATE_RULE" "[I")) (Term.int 21) ∈ flatC (Cond.and given_1 narrow_1) := by decide +kernel
set_option maxRecDepth 100000 in
theorem zlw_e_STATE_RULE : ∀ j, j < 21 → Cond.eq (Term.elem (Term.static "RegrowDesk" "STATE_RULE" "[I") (Term.int (Int32.ofNat j))) (Term.int (zst_STATE_RULE.getD j 0)) ∈ flatC (Cond.and given_1 narrow_1) := by decide +kernel
theorem zlw_STATE_RULE {args : Array Value} {s : State} (hs : ∀ c ∈ flatC (Cond.and given_1 narrow_1), c.before args s = true) (ht : ∀ w ∈ lw_tbl, w.before args s = true) : ∃ t : Nat, va_Z "RegrowDesk" "STATE_RULE" "[I" (.ref t) (fun a => s.heap.size ≤ a) s s.heap ∧ va_T .int t zst_STATE_RULE.length (fun j => .int (zst_STATE_RULE.getD j 0)) (fun a => s.heap.size ≤ a) s s.heap := by
  obtain ⟨t, h1, h2⟩ := va_Tof (tm := (Term.static "RegrowDesk" "STATE_RULE" "[I")) (ty := .int) (N := 21) (f := fun j => .int (zst_STATE_RULE.getD j 0)) (A := fun a => s.heap.size ≤ a) (by decide) (hs _ zlw_a_STATE_RULE) (va_eqt (hs _ zlw_l_STATE_RULE)) (fun j hj => va_eqt (hs _ (zlw_e_STATE_RULE j hj))) (fun a h => Nat.not_le.mpr h)
  exact ⟨t, va_Zof (ht _ zlw_ls_STATE_RULE) (ht _ (zlw_in zk_in_11)) h1 (fun a h => Nat.not_le.mpr h), h2⟩
theorem zlw_a_RULE_SYMBOL : Cond.arrayOf (Term.static "RegrowDesk" "RULE_SYMBOL" "[I") .int ∈ flatC (Cond.and given_1 narrow_1) := by decide +kernel
theorem zlw_l_RULE_SYMBOL : Cond.eq (Term.length (Term.static "RegrowDesk" "RULE_SYMBOL" "[I")) (Term.int 11) ∈ flatC (Cond.and given_1 narrow_1) := by decide +kernel
set_option maxRecDepth 100000 in
theorem zlw_e_RULE_SYMBOL : ∀ j, j < 11 → Cond.eq (Term.elem (Term.static "RegrowDesk" "RULE_SYMBOL" "[I") (Term.int (Int32.ofNat j))) (Term.int (zst_RULE_SYMBOL.getD j 0)) ∈ flatC (Cond.and given_1 narrow_1) := by decide +kernel
theorem zlw_RULE_SYMBOL {args : Array Value} {s : State} (hs : ∀ c ∈ flatC (Cond.and given_1 narrow_1), c.before args s = true) (ht : ∀ w ∈ lw_tbl, w.before args s = true) : ∃ t : Nat, va_Z "RegrowDesk" "RULE_SYMBOL" "[I" (.ref t) (fun a => s.heap.size ≤ a) s s.heap ∧ va_T .int t zst_RULE_SYMBOL.length (fun j => .int (zst_RULE_SYMBOL.getD j 0)) (fun a => s.heap.size ≤ a) s s.heap := by
  obtain ⟨t, h1, h2⟩ := va_Tof (tm := (Term.static "RegrowDesk" "RULE_SYMBOL" "[I")) (ty := .int) (N := 11) (f := fun j => .int (zst_RULE_SYMBOL.getD j 0)) (A := fun a => s.heap.size ≤ a) (by decide) (hs _ zlw_a_RULE_SYMBOL) (va_eqt (hs _ zlw_l_RULE_SYMBOL)) (fun j hj => va_eqt (hs _ (zlw_e_RULE_SYMBOL j hj))) (fun a h => Nat.not_le.mpr h)
  exact ⟨t, va_Zof (ht _ zlw_ls_RULE_SYMBOL) (ht _ (zlw_in zk_in_11)) h1 (fun a h => Nat.not_le.mpr h), h2⟩
theorem zlw_a_FOLLOWERS : Cond.arrayOf (Term.static "RegrowDesk" "FOLLOWERS" "[I") .int ∈ flatC (Cond.and given_1 narrow_1) := by decide +kernel
theorem zlw_l_FOLLOWERS : Cond.eq (Term.length (Term.static "RegrowDesk" "FOLLOWERS" "[I")) (Term.int 13) ∈ flatC (Cond.and given_1 narrow_1) := by decide +kernel
set_option maxRecDepth 100000 in
theorem zlw_e_FOLLOWERS : ∀ j, j < 13 → Cond.eq (Term.elem (Term.static "RegrowDesk" "FOLLOWERS" "[I") (Term.int (Int32.ofNat j))) (Term.int (zst_FOLLOWERS.getD j 0)) ∈ flatC (Cond.and given_1 narrow_1) := by decide +kernel
theorem zlw_FOLLOWERS {args : Array Value} {s : State} (hs : ∀ c ∈ flatC (Cond.and given_1 narrow_1), c.before args s = true) (ht : ∀ w ∈ lw_tbl, w.before args s = true) : ∃ t : Nat, va_Z "RegrowDesk" "FOLLOWERS" "[I" (.ref t) (fun a => s.heap.size ≤ a) s s.heap ∧ va_T .int t zst_FOLLOWERS.length (fun j => .int (zst_FOLLOWERS.getD j 0)) (fun a => s.heap.size ≤ a) s s.heap := by
  obtain ⟨t, h1, h2⟩ := va_Tof (tm := (Term.static "RegrowDesk" "FOLLOWERS" "[I")) (ty := .int) (N := 13) (f := fun j => .int (zst_FOLLOWERS.getD j 0)) (A := fun a => s.heap.size ≤ a) (by decide) (hs _ zlw_a_FOLLOWERS) (va_eqt (hs _ zlw_l_FOLLOWERS)) (fun j hj => va_eqt (hs _ (zlw_e_FOLLOWERS j hj))) (fun a h => Nat.not_le.mpr h)
  exact ⟨t, va_Zof (ht _ zlw_ls_FOLLOWERS) (ht _ (zlw_in zk_in_11)) h1 (fun a h => Nat.not_le.mpr h), h2⟩
theorem zlw_a_RULE_LENGTH : Cond.arrayOf (Term.static "RegrowDesk" "RULE_LENGTH" "[I") .int ∈ flatC (Cond.and given_1 narrow_1) := by decide +kernel
theorem zlw_l_RULE_LENGTH : Cond.eq (Term.length (Term.static "RegrowDesk" "RULE_LENGTH" "[I")) (Term.int 11) ∈ flatC (Cond.and given_1 narrow_1) := by decide +kernel
set_option maxRecDepth 100000 in
theorem zlw_e_RULE_LENGTH : ∀ j, j < 11 → Cond.eq (Term.elem (Term.static "RegrowDesk" "RULE_LENGTH" "[I") (Term.int (Int32.ofNat j))) (Term.int (zst_RULE_LENGTH.getD j 0)) ∈ flatC (Cond.and given_1 narrow_1) := by decide +kernel
theorem zlw_RULE_LENGTH {args : Array Value} {s : State} (hs : ∀ c ∈ flatC (Cond.and given_1 narrow_1), c.before args s = true) (ht : ∀ w ∈ lw_tbl, w.before args s = true) : ∃ t : Nat, va_Z "RegrowDesk" "RULE_LENGTH" "[I" (.ref t) (fun a => s.heap.size ≤ a) s s.heap ∧ va_T .int t zst_RULE_LENGTH.length (fun j => .int (zst_RULE_LENGTH.getD j 0)) (fun a => s.heap.size ≤ a) s s.heap := by
  obtain ⟨t, h1, h2⟩ := va_Tof (tm := (Term.static "RegrowDesk" "RULE_LENGTH" "[I")) (ty := .int) (N := 11) (f := fun j => .int (zst_RULE_LENGTH.getD j 0)) (A := fun a => s.heap.size ≤ a) (by decide) (hs _ zlw_a_RULE_LENGTH) (va_eqt (hs _ zlw_l_RULE_LENGTH)) (fun j hj => va_eqt (hs _ (zlw_e_RULE_LENGTH j hj))) (fun a h => Nat.not_le.mpr h)
  exact ⟨t, va_Zof (ht _ zlw_ls_RULE_LENGTH) (ht _ (zlw_in zk_in_11)) h1 (fun a h => Nat.not_le.mpr h), h2⟩
theorem zl_all {p : Program} {e : Env} {s : State} {m : MethodId} {below : List Frame} {meth : Method} {c : Code} (l : Launch) {b L : Nat} {xs : Nat → Int32} (C0 : lw_At p s m meth c b L xs) (h : w_law L xs) : W p l e room_1 s m #[Value.ref b] below meth c s.heap [] 0 0 (lw_Z below #[Value.ref b] s) (entryFrame m ([Value.ref b] : List Value).toArray 4) := by
  obtain ⟨hx, hb, hr, hml, hown, ht, hX, hbl, hlocks, hgv⟩ := C0
  have hs := flat_of_before _ hgv
  have hW : ∀ w ∈ zTb, w.before #[Value.ref b] s = true := fun w hw => ht w (zlw_in hw)
  obtain ⟨t0, z0⟩ := zlw_LEADS hs ht
  obtain ⟨t1, z1⟩ := zlw_STATE_RULE hs ht
  obtain ⟨t2, z2⟩ := zlw_RULE_SYMBOL hs ht
  obtain ⟨t3, z3⟩ := zlw_FOLLOWERS hs ht
  obtain ⟨t4, z4⟩ := zlw_RULE_LENGTH hs ht
  have hkn : ∀ k : Nat, ∃ q : ClassId × (Nat → Nat), ∀ r : vw_C, classes[k]? = some r → u_Kn s r.1 r.2.1 r.2.2 q.1 q.2 := by
    intro k
    match k with
    | 0 =>
      obtain ⟨cC, iS, hk⟩ := u_known hW zin_0 (hW _ zk_ia_0)
      exact ⟨(cC, iS), fun r hr => by cases hr; exact hk⟩
    | 1 =>
      obtain ⟨cC, iS, hk⟩ := u_known hW zin_1 (hW _ zk_ia_1)
      exact ⟨(cC, iS), fun r hr => by cases hr; exact hk⟩
    | 2 =>
      obtain ⟨cC, iS, hk⟩ := u_known hW zin_2 (hW _ zk_ia_2)
      exact ⟨(cC, iS), fun r hr => by cases hr; exact hk⟩
    | 3 =>
      obtain ⟨cC, iS, hk⟩ := u_known hW zin_3 (hW _ zk_ia_3)
      exact ⟨(cC, iS), fun r hr => by cases hr; exact hk⟩
    | 4 =>
      obtain ⟨cC, iS, hk⟩ := u_known hW zin_4 (hW _ zk_ia_4)
      exact ⟨(cC, iS), fun r hr => by cases hr; exact hk⟩
    | 5 =>
      obtain ⟨cC, iS, hk⟩ := u_known hW zin_5 (hW _ zk_ia_5)
      exact ⟨(cC, iS), fun r hr => by cases hr; exact hk⟩
    | 6 =>
      obtain ⟨cC, iS, hk⟩ := u_known hW zin_6 (hW _ zk_ia_6)
      exact ⟨(cC, iS), fun r hr => by cases hr; exact hk⟩
    | 7 =>
      obtain ⟨cC, iS, hk⟩ := u_known hW zin_7 (hW _ zk_ia_7)
      exact ⟨(cC, iS), fun r hr => by cases hr; exact hk⟩
    | 8 =>
      obtain ⟨cC, iS, hk⟩ := u_known hW zin_8 (hW _ zk_ia_8)
      exact ⟨(cC, iS), fun r hr => by cases hr; exact hk⟩
    | 9 =>
      obtain ⟨cC, iS, hk⟩ := u_known hW zin_9 (hW _ zk_ia_9)
      exact ⟨(cC, iS), fun r hr => by cases hr; exact hk⟩
    | 10 =>
      obtain ⟨cC, iS, hk⟩ := u_known hW zin_10 (hW _ zk_ia_10)
      exact ⟨(cC, iS), fun r hr => by cases hr; exact hk⟩
    | 11 =>
      obtain ⟨cC, iS, hk⟩ := u_known hW zin_11 (hW _ zk_ia_11)
      exact ⟨(cC, iS), fun r hr => by cases hr; exact hk⟩
    | 12 =>
      obtain ⟨cC, iS, hk⟩ := u_known hW zin_12 (hW _ zk_ia_12)
      exact ⟨(cC, iS), fun r hr => by cases hr; exact hk⟩
    | k + 13 => exact ⟨(0, fun _ => 0), fun r hr => by cases hr⟩
  obtain ⟨f, hf⟩ := Classical.axiomOfChoice hkn
  obtain ⟨cI, kI, oI, i1, i2, i3⟩ := Cond.arrayClass_spec (hW _ zk_ac_int)
  obtain ⟨cJ, kJ, oJ, j1, j2, j3⟩ := Cond.arrayClass_spec (hW _ zk_ac_long)
  obtain ⟨om, cM, kM, m1, -, m3, m4, m5⟩ := Cond.arrayOver_spec (ht _ zlw_ao)
  have hC : zCx p s m #[Value.ref b] meth c cL_law 4 RL ret ((fun k => (f k).1, fun k => (f k).2)) s.heap.size (fun i => match i with | 0 => cI | 1 => cJ | _ => cM) (fun i => match i with | 0 => t0 | 1 => t1 | 2 => t2 | 3 => t3 | 4 => t4 | _ => 0) := by
    refine ⟨hx, hb, hml, hown, hW, hr, hlocks, ⟨fun k q hq => hf k q hq, fun k q hq => ?_⟩, fun i q hq => ?_, Nat.le_refl _, fun q hq => va_Nw.of rfl (ht _ (zNs_tbl q hq)), va_AO.of (ht _ zlw_ao)⟩
    · match k with
      | 0 => cases hq; exact ⟨fun n z => ⟨fun k h => (by cases h), kI, i2, oI, i3⟩, i1⟩
      | 1 => cases hq; exact ⟨fun n z => ⟨fun k h => (by cases h), kJ, j2, oJ, j3⟩, j1⟩
      | 2 => cases hq; exact ⟨fun n z => ⟨fun k h => (by cases h), kM, m3, om, m4⟩, kM, om, m3, m4, m1, m5⟩
      | k + 3 => cases hq
    · match i with
      | 0 => cases hq; exact z0
      | 1 => cases hq; exact z1
      | 2 => cases hq; exact z2
      | 3 => cases hq; exact z3
      | 4 => cases hq; exact z4
      | i + 5 => cases hq
  have h0 := zl_start (l := l) (e := e) (below := below) hC hX hbl (Nat.not_le.mpr hbl) h
  have hl := lv_entry ([.ref b]) (n := 4) (Nat.le_of_ble_eq_true rfl)
  rw [lg_entry_eq]
  exact h0 s.heap [] _ (fun k q hq => by cases hq) rfl va_S.rf hl
