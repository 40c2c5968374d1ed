-- ===== end of PART A; then your names; then what follows =====
/-! THE CLAIM OUT OF ONE WALK OF THE LAW'S BODY. Your part is whole_start (and what it stands on); all else here is the same for every law, but numbers. -/
def R_law : String := "RegrowDeskLaw"
def lw_P (b : Addr) (xs : List Int32) (args : Array Value) (s : State) : Prop := args = #[.ref b] ∧ s.IntsAt b xs ∧ xs.length ≤ 3072 ∧ (Jvm.Cond.and given_1 narrow_1).before args s = true
def lw_Q (_ : Array Value) (s : State) (o : Outcome) (t : State) : Prop := o = .returned (some (.int 1)) ∧ Framed s o t [] 600000 7302250
def lw_Z (below : List Frame) (a : Array Value) (s : State) : State → Prop := fun t => ∃ o, t.status = .running ∧ Ended t below o ∧ lw_Q a s o t
/-- the law's own end, with 1 on the stack, nothing written that was there before, its room as the claim has it -/
theorem lw_ret {p : Program} {l : Launch} {e : Env} {s : State} {m : MethodId} {below : List Frame} {meth : Method} {c : Code} {b : Nat} (hx : p.tables.exec = Jvm.exec) (hb : c.code = code) (hr : meth.sig.returnType = ret) (hlocks : meth.locks = false) {pc : Nat} {H : Heap} {ls : Array Slot} (hdg : decode code pc = .ok (.ireturn, 1)) : W p l e room_1 s m #[Value.ref b] below meth c H [] 600000 7302250 (lw_Z below #[Value.ref b] s) (F0 m pc ls [.int 1]) := by
  intro T hT X
  obtain ⟨fs, hret, hrun, hended, hW, hframe⟩ := X.leave (v := some (.int 1)) (hlocks := hlocks) (fun h => by rw [hr] at h; cases h)
  have hmeth' : T.vm.method? m = some meth := X.method'
  refine ⟨T.setFrames fs, ?_, .returned (some (.int 1)), hrun, hended, rfl, ⟨_, rfl⟩, hW, hframe⟩
  jvm_step X.here [X.here.top, hx, hb, hdg, hmeth', hr, ret, narrow_b1]
  (try refine ⟨rfl, ?_⟩); (try refine ⟨rfl, ?_⟩)
  first | (intro acts; rw [hret _ acts rfl rfl rfl]) | rw [hret _ _ rfl rfl rfl]
  exact Steps.refl _
/-- what holds at the law's entry: the machine, the code, the tables' words (any of lw_tbl by 'hts w (by decide +kernel)'), the script of L ints xs at the cell b, what the Statement gives of the start (any of its parts by flat_of_before) -/
def lw_At (p : Program) (s : State) (m : MethodId) (meth : Method) (c : Code) (b L : Nat) (xs : Nat → Int32) : Prop :=
  p.tables.exec = Jvm.exec ∧ c.code = code ∧ meth.sig.returnType = ret ∧ c.maxLocals = 4 ∧ s.vm.findClass R_law = some m.cls ∧ (∀ w ∈ lw_tbl, w.before #[Value.ref b] s = true) ∧ va_X b L xs s s.heap ∧ b < s.heap.size ∧ meth.locks = false ∧ (Jvm.Cond.and given_1 narrow_1).before #[Value.ref b] s = true
section ZL
variable {p : Program} {l : Launch} {e : Env} {R : Room} {s : State} {m : MethodId} {args : Array Value} {below : List Frame} {meth : Method} {c : Code} {Q : State → Prop} {D : va_G} {cA : Nat → ClassId} {ad : Nat → Nat} {cc : ByteArray} {nL : Nat} {own : String} {ret : Option FieldType} {cells slots : Nat} {S : List zC} {I : zI} {lv : List (Nat × Value)} {st : List Value} {pc : Nat}
theorem zr_slen {B b L : Nat} {xs : Nat → Int32} (C : zCx p s m args meth c cc nL own ret D B cA ad) (hX : va_X b L xs s s.heap) (hbl : b < s.heap.size) (hbA : ¬ B ≤ b) (hd : decode cc pc = .ok (.arraylength, 1)) (kk : zX p l e R s m args below meth c Q D B cA nL cells slots S I lv (.int (Int32.ofNat L) :: st) (pc + 1)) : zX p l e R s m args below meth c Q D B cA nL cells slots S I lv (.ref b :: st) pc :=
  fun H locs ls a1 a2 a3 a4 => va_slen C.1 C.2.1 hX hbl hbA a3 hd (kk H locs ls a1 a2 a3 a4)
theorem zr_sld {B b L : Nat} {xs : Nat → Int32} {i : Int32} (C : zCx p s m args meth c cc nL own ret D B cA ad) (hX : va_X b L xs s s.heap) (hbl : b < s.heap.size) (hbA : ¬ B ≤ b) (hin : vp_in i L) (hd : decode cc pc = .ok (.iaload, 1)) (kk : zX p l e R s m args below meth c Q D B cA nL cells slots S I lv (.int (xs i.toNatClampNeg) :: st) (pc + 1)) : zX p l e R s m args below meth c Q D B cA nL cells slots S I lv (.int i :: .ref b :: st) pc :=
  fun H locs ls a1 a2 a3 a4 => va_sld C.1 C.2.1 hX hbl hbA a3 hin hd (kk H locs ls a1 a2 a3 a4)
theorem zr_lend {b B : Nat} {xs0 : List zC} (C : zCx p s m #[Value.ref b] meth c code nL own _root_.Jvm.Pilot.@@N@@.ret D B cA ad) (hB : B = s.heap.size) (hd : decode code pc = .ok (.ireturn, 1)) : zX p l e room_1 s m #[Value.ref b] below meth c (lw_Z below #[Value.ref b] s) D B cA nL 546 406967 xs0 I lv [.int 1] pc :=
  fun H locs ls a1 a2 a3 a4 => va_forget (fun q hq => hB ▸ a3.2.2 q hq) (W.widen (k := 600000) (n := 7302250) (Nat.le_of_ble_eq_true rfl) (Nat.le_of_ble_eq_true rfl) (lw_ret C.1 C.2.1 C.2.2.2.2.2.1 C.2.2.2.2.2.2.1 hd))
end ZL
theorem zv_L_13t {p : Program} {l : Launch} {e : Env} {R : Room} {s : State} {m : MethodId} {args : Array Value} {below : List Frame} {meth : Method} {c : Code} {Q : State → Prop} {D : va_G} {B : Nat} {cA : Nat → ClassId} {ad : Nat → Nat} {cc : ByteArray} {nL : Nat} {ret : Option FieldType} {S : List zC} {I : zI} {lv : List (Nat × Value)} {st : List Value} {pc cells slots : Nat} (C : zCx p s m args meth c cc nL RL ret D B cA ad) {K : Int32 → zI → Prop} {xa1 : Int32} {xa2 : Int32} {xa3 : Int32} {xa4 : Int32} {xa5 : Int32} (hS : zOkX S)  (h : w_Desk_feed xa1 xa2 xa3 xa4 xa5 I K) (hR : 2 + 1 ≤ R.frames ∧ 8 + (6 + 11) + (44) ≤ R.locals) (hw : (st.map fun v => v.category).sum ≤ 8) (hd : decode cc pc = .ok (.invokevirtual 13, 3)) (hf : cells ≤ R.cells ∧ slots ≤ R.slots) (kk : ∀ v I2, K v I2 → zX p l e R s m args below meth c Q D B cA nL cells slots S I2 lv (.int v :: st) (pc + 3)) : zX p l e R s m args below meth c Q D B cA nL cells slots S I lv (.int xa5 :: .int xa4 :: .int xa3 :: .int xa2 :: .int xa1 :: .ref (B + 0) :: st) pc :=
  zc_VqI C (ci := 11) (q := (RX11, TX11, 19)) (k := 0) (fs := [some (some 1), none, some (some 3), some (some 4), none, none, none, none, some (some 22), some (some 24), some (some 43), some (some 64), some (some 69), some (some 88), some (some 97), some (some 100), some (some 109), some (some 111), none]) (As := [.int xa1, .int xa2, .int xa3, .int xa4, .int xa5]) (st := st) rfl (hS _ _ zs_0) (c_Desk_feed hS h) (zgV zk_ml_L_13 zk_im_yX11_feed zk_se_yX11_feed zk_in_11 zk_cd_yX11_feed) zsg_yX11_feed hR rfl rfl hw hd hf kk
theorem zv_L_17t {p : Program} {l : Launch} {e : Env} {R : Room} {s : State} {m : MethodId} {args : Array Value} {below : List Frame} {meth : Method} {c : Code} {Q : State → Prop} {D : va_G} {B : Nat} {cA : Nat → ClassId} {ad : Nat → Nat} {cc : ByteArray} {nL : Nat} {ret : Option FieldType} {S : List zC} {I : zI} {lv : List (Nat × Value)} {st : List Value} {pc cells slots : Nat} (C : zCx p s m args meth c cc nL RL ret D B cA ad) {K : Int32 → zI → Prop} {xa1 : Int32} {xa2 : Int32} {xa3 : Int32} {xa4 : Int32} {xa5 : Int32} (hS : zOkM S)  (h : w_M_feed xa1 xa2 xa3 xa4 xa5 I K) (hR : 1 + 1 ≤ R.frames ∧ 8 + (6 + 11) + (22) ≤ R.locals) (hw : (st.map fun v => v.category).sum ≤ 8) (hd : decode cc pc = .ok (.invokevirtual 17, 3)) (hf : cells ≤ R.cells ∧ slots ≤ R.slots) (kk : ∀ v I2, K v I2 → zX p l e R s m args below meth c Q D B cA nL cells slots S I2 lv (.int v :: st) (pc + 3)) : zX p l e R s m args below meth c Q D B cA nL cells slots S I lv (.int xa5 :: .int xa4 :: .int xa3 :: .int xa2 :: .int xa1 :: .ref (B + 491) :: st) pc :=
  zc_VqI C (ci := 12) (q := (RX12, TX12, 82)) (k := 491) (fs := [none, some (some 492), some (some 493), none, some (some 494), none, some (some 495), none, none, none, some (some 496), some (some 497), some (some 498), some (some 499), some (some 500), none, some (some 501), some (some 502), some (some 503), none, some (some 504), some (some 505), some (some 506), some (some 507), some (some 508), none, some (some 509), some (some 510), some (some 511), some (some 512), some (some 513), some (some 514), some (some 515), some (some 516), some (some 517), some (some 518), none, none, some (some 519), none, some (some 520), none, none, none, some (some 521), some (some 522), some (some 523), some (some 524), some (some 525), some (some 526), some (some 527), none, some (some 528), none, some (some 529), none, some (some 530), some (some 531), some (some 532), none, some (some 533), some (some 534), some (some 535), some (some 536), some (some 537), none, none, none, some (some 538), some (some 539), some (some 540), none, none, none, some (some 541), none, none, some (some 542), some (some 543), some (some 544), none, some (some 545)]) (As := [.int xa1, .int xa2, .int xa3, .int xa4, .int xa5]) (st := st) rfl (hS _ _ zs_491) (c_M_feed hS h) (zgV zk_ml_L_17 zk_im_yX12_feed zk_se_yX12_feed zk_in_12 zk_cd_yX12_feed) zsg_yX12_feed hR rfl rfl hw hd hf kk
theorem zl_callD {p : Program} {l : Launch} {e : Env} {R : Room} {s : State} {m : MethodId} {args : Array Value} {below : List Frame} {meth : Method} {c : Code} {Q : State → Prop} {D : va_G} {cA : Nat → ClassId} {ad : Nat → Nat} {cc : ByteArray} {nL : Nat} {own : String} {ret : Option FieldType} {cells slots : Nat} {S : List zC} {I : zI} {lv : List (Nat × Value)} {st : List Value} {pc : Nat} {B index maxL n mc ms k : Nat} {y : MethodName} {bytes : ByteArray} {rm : Room} {st0 : List Value} {S2 : List zC} {K : zI → Prop} (C : zCx p s m args meth c cc nL own ret D B cA ad)
    (hM : Met l y (zws y bytes maxL none) rm (zPc D B cA ad [.ref (B + k)] S I) (zQc D B cA (zqV S2 K)) mc ms (fun x => B ≤ x)) (hG : GoodIn zTb (zws y bytes maxL none)) (h1 : Cond.methodLink own index y ∈ zTb) (h2 : Cond.instanceMethod y ∈ zTb) (h3 : Cond.initialized y.cls ∈ zTb) (hy1 : y.name = "<init>") (hrc : rm.cells = mc) (hrs : rm.slots = ms)
    (hy : y.cls ≠ "java/lang/invoke/MethodHandle" ∧ y.cls ≠ "java/lang/invoke/VarHandle" ∧ (parseMethodDescriptor y.desc).map (fun d => d.parameters.length) = some n) (hR : rm.frames + 1 ≤ R.frames ∧ 8 + (maxL + 11) + rm.locals ≤ R.locals)
    (hn : ([] : List Value).length = n) (hst : st0 = .ref (B + k) :: st) (hw : (st.map fun v => v.category).sum ≤ 8) (hd : decode cc pc = .ok (.invokespecial index, 3)) (hf : cells + mc ≤ R.cells ∧ slots + ms ≤ R.slots)
    (kk : ∀ I2, K I2 → zX p l e R s m args below meth c Q D B cA nL (cells + mc) (slots + ms) S2 I2 lv st (pc + 3)) : zX p l e R s m args below meth c Q D B cA nL cells slots S I lv st0 pc :=
  zr_go C (a := ([Value.ref (B + k)] : List Value).toArray) (fun H locs ls a1 a2 a3 a4 => va_runI (As := []) (rest := st) ⟨C.1, C.2.1, C.2.2.1, C.2.2.2.1, C.2.2.2.2.1⟩ hM (cwI n C.2.2.2.2.1 hG rfl hrc hrs (C.2.2.2.2.1 _ h3) (C.2.2.2.2.1 _ h1) (C.2.2.2.2.1 _ h2) hy1 hy hR) ⟨zIn.blind, fun U hU hW => ⟨rfl, zIn_of C a1 a2 a3 hU hW⟩⟩ rfl hn a4.1 hst (lv_room hw) hd hf) (fun r S' I' hq => by
    obtain ⟨rfl, rfl, hK⟩ := hq
    exact kk _ hK)
def w_lawc_0 (L : Nat) (xs : Nat → Int32) (v3 : Int32) (I : zI) (J : zI → Prop) : Prop :=
  vp_in (v3 + 1) L ∧ (vp_in (v3 + 2) L ∧ (vp_in (v3 + 3) L ∧ (vp_in (v3 + 4) L ∧ (vp_in (v3 + 5) L ∧ (w_Desk_feed (xs (Int32.toNatClampNeg (v3 + 1))) (xs (Int32.toNatClampNeg (v3 + 2))) (xs (Int32.toNatClampNeg (v3 + 3))) (xs (Int32.toNatClampNeg (v3 + 4))) (xs (Int32.toNatClampNeg (v3 + 5))) I (fun r_1 I_2 => vp_in (v3 + 1) L ∧ (vp_in (v3 + 2) L ∧ (vp_in (v3 + 3) L ∧ (vp_in (v3 + 4) L ∧ (vp_in (v3 + 5) L ∧ (w_M_feed (xs (Int32.toNatClampNeg (v3 + 1))) (xs (Int32.toNatClampNeg (v3 + 2))) (xs (Int32.toNatClampNeg (v3 + 3))) (xs (Int32.toNatClampNeg (v3 + 4))) (xs (Int32.toNatClampNeg (v3 + 5))) I_2 (fun r_3 I_4 => J I_4))))))))))))
set_option maxHeartbeats 4000000 in
set_option maxRecDepth 20000 in
theorem zl_c0 {p : Program} {l : Launch} {e : Env} {s : State} {m : MethodId} {below : List Frame} {meth : Method} {c : Code} {D : va_G} {B : Nat} {cA : Nat → ClassId} {ad : Nat → Nat} {b L : Nat} {xs : Nat → Int32} {S : List zC} (C : zCx p s m #[Value.ref b] meth c cL_law 4 RL ret D B cA ad) (hX : va_X b L xs s s.heap) (hbl : b < s.heap.size) (hbA : ¬ B ≤ b) (hS : zOkM S) (hB : B = s.heap.size) {v3 : Int32} {I : zI} {J : zI → Prop} (h : w_lawc_0 L xs v3 I J) (kk : ∀ I2, J I2 → zX p l e room_1 s m #[Value.ref b] below meth c (lw_Z below #[Value.ref b] s) D B cA 4 546 406967 S I2 [(3, .int v3), (0, .ref b), (1, .ref (B + 0)), (2, .ref (B + 491))] [] 1245) : zX p l e room_1 s m #[Value.ref b] below meth c (lw_Z below #[Value.ref b] s) D B cA 4 546 406967 S I [(3, .int v3), (0, .ref b), (1, .ref (B + 0)), (2, .ref (B + 491))] [] 212 := by
  unfold w_lawc_0 at h
  refine zr_aload_n C dyL_law_212 rfl 2 rfl ?_
  refine zr_aload_n C dyL_law_213 rfl 1 rfl ?_
  refine zr_iload_n C dyL_law_214 rfl 0 rfl ?_
  refine zr_iconst C dyL_law_215 zc_i_1 ?_
  refine zr_iadd C dyL_law_216 ?_
  refine zr_sld C hX hbl hbA h.1 dyL_law_217 ?_
  replace h := h.2
  refine zr_aload_n C dyL_law_218 rfl 1 rfl ?_
  refine zr_iload_n C dyL_law_219 rfl 0 rfl ?_
  refine zr_iconst C dyL_law_220 zc_i_2 ?_
  refine zr_iadd C dyL_law_221 ?_
  refine zr_sld C hX hbl hbA h.1 dyL_law_222 ?_
  replace h := h.2
  refine zr_aload_n C dyL_law_223 rfl 1 rfl ?_
  refine zr_iload_n C dyL_law_224 rfl 0 rfl ?_
  refine zr_iconst C dyL_law_225 zc_i_3 ?_
  refine zr_iadd C dyL_law_226 ?_
  refine zr_sld C hX hbl hbA h.1 dyL_law_227 ?_
  replace h := h.2
  refine zr_aload_n C dyL_law_228 rfl 1 rfl ?_
  refine zr_iload_n C dyL_law_229 rfl 0 rfl ?_
  refine zr_iconst C dyL_law_230 zc_i_4 ?_
  refine zr_iadd C dyL_law_231 ?_
  refine zr_sld C hX hbl hbA h.1 dyL_law_232 ?_
  replace h := h.2
  refine zr_aload_n C dyL_law_233 rfl 1 rfl ?_
  refine zr_iload_n C dyL_law_234 rfl 0 rfl ?_
  refine zr_iconst C dyL_law_235 zc_i_5 ?_
  refine zr_iadd C dyL_law_236 ?_
  refine zr_sld C hX hbl hbA h.1 dyL_law_237 ?_
  replace h := h.2
  refine zv_L_13t C hS.x (st := []) h ⟨Nat.le_of_ble_eq_true rfl, Nat.le_of_ble_eq_true rfl⟩ (Nat.le_of_ble_eq_true rfl) dyL_law_238 ⟨Nat.le_of_ble_eq_true rfl, Nat.le_of_ble_eq_true rfl⟩ (fun r_1 I_2 h => ?_)
  refine zr_pop C dyL_law_241 rfl ?_
  refine zr_aload_n C dyL_law_242 rfl 3 rfl ?_
  refine zr_aload_n C dyL_law_243 rfl 1 rfl ?_
  refine zr_iload_n C dyL_law_244 rfl 0 rfl ?_
  refine zr_iconst C dyL_law_245 zc_i_1 ?_
  refine zr_iadd C dyL_law_246 ?_
  refine zr_sld C hX hbl hbA h.1 dyL_law_247 ?_
  replace h := h.2
  refine zr_aload_n C dyL_law_248 rfl 1 rfl ?_
  refine zr_iload_n C dyL_law_249 rfl 0 rfl ?_
  refine zr_iconst C dyL_law_250 zc_i_2 ?_
  refine zr_iadd C dyL_law_251 ?_
  refine zr_sld C hX hbl hbA h.1 dyL_law_252 ?_
  replace h := h.2
  refine zr_aload_n C dyL_law_253 rfl 1 rfl ?_
  refine zr_iload_n C dyL_law_254 rfl 0 rfl ?_
  refine zr_iconst C dyL_law_255 zc_i_3 ?_
  refine zr_iadd C dyL_law_256 ?_
  refine zr_sld C hX hbl hbA h.1 dyL_law_257 ?_
  replace h := h.2
  refine zr_aload_n C dyL_law_258 rfl 1 rfl ?_
  refine zr_iload_n C dyL_law_259 rfl 0 rfl ?_
  refine zr_iconst C dyL_law_260 zc_i_4 ?_
  refine zr_iadd C dyL_law_261 ?_
  refine zr_sld C hX hbl hbA h.1 dyL_law_262 ?_
  replace h := h.2
  refine zr_aload_n C dyL_law_263 rfl 1 rfl ?_
  refine zr_iload_n C dyL_law_264 rfl 0 rfl ?_
  refine zr_iconst C dyL_law_265 zc_i_5 ?_
  refine zr_iadd C dyL_law_266 ?_
  refine zr_sld C hX hbl hbA h.1 dyL_law_267 ?_
  replace h := h.2
  refine zv_L_17t C hS (st := []) h ⟨Nat.le_of_ble_eq_true rfl, Nat.le_of_ble_eq_true rfl⟩ (Nat.le_of_ble_eq_true rfl) dyL_law_268 ⟨Nat.le_of_ble_eq_true rfl, Nat.le_of_ble_eq_true rfl⟩ (fun r_3 I_4 h => ?_)
  refine zr_pop C dyL_law_271 rfl ?_
  refine zr_goto C dyL_law_272 (tgt := 1245) (by decide) ?_
  exact kk _ h
theorem zv_L_18t {p : Program} {l : Launch} {e : Env} {R : Room} {s : State} {m : MethodId} {args : Array Value} {below : List Frame} {meth : Method} {c : Code} {Q : State → Prop} {D : va_G} {B : Nat} {cA : Nat → ClassId} {ad : Nat → Nat} {cc : ByteArray} {nL : Nat} {ret : Option FieldType} {S : List zC} {I : zI} {lv : List (Nat × Value)} {st : List Value} {pc cells slots : Nat} (C : zCx p s m args meth c cc nL RL ret D B cA ad) {K : Int32 → zI → Prop} {xa1 : Int32} (hS : zOkX S)  (h : w_Desk_back xa1 I K) (hR : 0 + 1 ≤ R.frames ∧ 8 + (2 + 11) + (0) ≤ R.locals) (hw : (st.map fun v => v.category).sum ≤ 8) (hd : decode cc pc = .ok (.invokevirtual 18, 3)) (hf : cells ≤ R.cells ∧ slots ≤ R.slots) (kk : ∀ v I2, K v I2 → zX p l e R s m args below meth c Q D B cA nL cells slots S I2 lv (.int v :: st) (pc + 3)) : zX p l e R s m args below meth c Q D B cA nL cells slots S I lv (.int xa1 :: .ref (B + 0) :: st) pc :=
  zc_VqI C (ci := 11) (q := (RX11, TX11, 19)) (k := 0) (fs := [some (some 1), none, some (some 3), some (some 4), none, none, none, none, some (some 22), some (some 24), some (some 43), some (some 64), some (some 69), some (some 88), some (some 97), some (some 100), some (some 109), some (some 111), none]) (As := [.int xa1]) (st := st) rfl (hS _ _ zs_0) (c_Desk_back hS h) (zgV zk_ml_L_18 zk_im_yX11_back zk_se_yX11_back zk_in_11 zk_cd_yX11_back) zsg_yX11_back hR rfl rfl hw hd hf kk
theorem zv_L_22t {p : Program} {l : Launch} {e : Env} {R : Room} {s : State} {m : MethodId} {args : Array Value} {below : List Frame} {meth : Method} {c : Code} {Q : State → Prop} {D : va_G} {B : Nat} {cA : Nat → ClassId} {ad : Nat → Nat} {cc : ByteArray} {nL : Nat} {ret : Option FieldType} {S : List zC} {I : zI} {lv : List (Nat × Value)} {st : List Value} {pc cells slots : Nat} (C : zCx p s m args meth c cc nL RL ret D B cA ad) {K : Int32 → zI → Prop} {xa1 : Int32} (hS : zOkM S)  (h : w_M_back xa1 I K) (hR : 0 + 1 ≤ R.frames ∧ 8 + (2 + 11) + (0) ≤ R.locals) (hw : (st.map fun v => v.category).sum ≤ 8) (hd : decode cc pc = .ok (.invokevirtual 22, 3)) (hf : cells ≤ R.cells ∧ slots ≤ R.slots) (kk : ∀ v I2, K v I2 → zX p l e R s m args below meth c Q D B cA nL cells slots S I2 lv (.int v :: st) (pc + 3)) : zX p l e R s m args below meth c Q D B cA nL cells slots S I lv (.int xa1 :: .ref (B + 491) :: st) pc :=
  zc_VqI C (ci := 12) (q := (RX12, TX12, 82)) (k := 491) (fs := [none, some (some 492), some (some 493), none, some (some 494), none, some (some 495), none, none, none, some (some 496), some (some 497), some (some 498), some (some 499), some (some 500), none, some (some 501), some (some 502), some (some 503), none, some (some 504), some (some 505), some (some 506), some (some 507), some (some 508), none, some (some 509), some (some 510), some (some 511), some (some 512), some (some 513), some (some 514), some (some 515), some (some 516), some (some 517), some (some 518), none, none, some (some 519), none, some (some 520), none, none, none, some (some 521), some (some 522), some (some 523), some (some 524), some (some 525), some (some 526), some (some 527), none, some (some 528), none, some (some 529), none, some (some 530), some (some 531), some (some 532), none, some (some 533), some (some 534), some (some 535), some (some 536), some (some 537), none, none, none, some (some 538), some (some 539), some (some 540), none, none, none, some (some 541), none, none, some (some 542), some (some 543), some (some 544), none, some (some 545)]) (As := [.int xa1]) (st := st) rfl (hS _ _ zs_491) (c_M_back hS h) (zgV zk_ml_L_22 zk_im_yX12_back zk_se_yX12_back zk_in_12 zk_cd_yX12_back) zsg_yX12_back hR rfl rfl hw hd hf kk
def w_lawc_1 (L : Nat) (xs : Nat → Int32) (v3 : Int32) (I : zI) (J : zI → Prop) : Prop :=
  vp_in (v3 + 1) L ∧ (w_Desk_back (xs (Int32.toNatClampNeg (v3 + 1))) I (fun r_1 I_2 => vp_in (v3 + 1) L ∧ (w_M_back (xs (Int32.toNatClampNeg (v3 + 1))) I_2 (fun r_3 I_4 => J I_4))))
set_option maxHeartbeats 4000000 in
set_option maxRecDepth 20000 in
theorem zl_c1 {p : Program} {l : Launch} {e : Env} {s : State} {m : MethodId} {below : List Frame} {meth : Method} {c : Code} {D : va_G} {B : Nat} {cA : Nat → ClassId} {ad : Nat → Nat} {b L : Nat} {xs : Nat → Int32} {S : List zC} (C : zCx p s m #[Value.ref b] meth c cL_law 4 RL ret D B cA ad) (hX : va_X b L xs s s.heap) (hbl : b < s.heap.size) (hbA : ¬ B ≤ b) (hS : zOkM S) (hB : B = s.heap.size) {v3 : Int32} {I : zI} {J : zI → Prop} (h : w_lawc_1 L xs v3 I J) (kk : ∀ I2, J I2 → zX p l e room_1 s m #[Value.ref b] below meth c (lw_Z below #[Value.ref b] s) D B cA 4 546 406967 S I2 [(3, .int v3), (0, .ref b), (1, .ref (B + 0)), (2, .ref (B + 491))] [] 1245) : zX p l e room_1 s m #[Value.ref b] below meth c (lw_Z below #[Value.ref b] s) D B cA 4 546 406967 S I [(3, .int v3), (0, .ref b), (1, .ref (B + 0)), (2, .ref (B + 491))] [] 275 := by
  unfold w_lawc_1 at h
  refine zr_aload_n C dyL_law_275 rfl 2 rfl ?_
  refine zr_aload_n C dyL_law_276 rfl 1 rfl ?_
  refine zr_iload_n C dyL_law_277 rfl 0 rfl ?_
  refine zr_iconst C dyL_law_278 zc_i_1 ?_
  refine zr_iadd C dyL_law_279 ?_
  refine zr_sld C hX hbl hbA h.1 dyL_law_280 ?_
  replace h := h.2
  refine zv_L_18t C hS.x (st := []) h ⟨Nat.le_of_ble_eq_true rfl, Nat.le_of_ble_eq_true rfl⟩ (Nat.le_of_ble_eq_true rfl) dyL_law_281 ⟨Nat.le_of_ble_eq_true rfl, Nat.le_of_ble_eq_true rfl⟩ (fun r_1 I_2 h => ?_)
  refine zr_pop C dyL_law_284 rfl ?_
  refine zr_aload_n C dyL_law_285 rfl 3 rfl ?_
  refine zr_aload_n C dyL_law_286 rfl 1 rfl ?_
  refine zr_iload_n C dyL_law_287 rfl 0 rfl ?_
  refine zr_iconst C dyL_law_288 zc_i_1 ?_
  refine zr_iadd C dyL_law_289 ?_
  refine zr_sld C hX hbl hbA h.1 dyL_law_290 ?_
  replace h := h.2
  refine zv_L_22t C hS (st := []) h ⟨Nat.le_of_ble_eq_true rfl, Nat.le_of_ble_eq_true rfl⟩ (Nat.le_of_ble_eq_true rfl) dyL_law_291 ⟨Nat.le_of_ble_eq_true rfl, Nat.le_of_ble_eq_true rfl⟩ (fun r_3 I_4 h => ?_)
  refine zr_pop C dyL_law_294 rfl ?_
  refine zr_goto C dyL_law_295 (tgt := 1245) (by decide) ?_
  exact kk _ h
theorem zv_L_23t {p : Program} {l : Launch} {e : Env} {R : Room} {s : State} {m : MethodId} {args : Array Value} {below : List Frame} {meth : Method} {c : Code} {Q : State → Prop} {D : va_G} {B : Nat} {cA : Nat → ClassId} {ad : Nat → Nat} {cc : ByteArray} {nL : Nat} {ret : Option FieldType} {S : List zC} {I : zI} {lv : List (Nat × Value)} {st : List Value} {pc cells slots : Nat} (C : zCx p s m args meth c cc nL RL ret D B cA ad) {K : Int32 → zI → Prop} {xa1 : Int32} {xa2 : Int32} (hS : zOkX S)  (h : w_Desk_edit xa1 xa2 I K) (hR : 18 + 1 ≤ R.frames ∧ 8 + (4 + 11) + (594) ≤ R.locals) (hw : (st.map fun v => v.category).sum ≤ 8) (hd : decode cc pc = .ok (.invokevirtual 23, 3)) (hf : cells ≤ R.cells ∧ slots ≤ R.slots) (kk : ∀ v I2, K v I2 → zX p l e R s m args below meth c Q D B cA nL cells slots S I2 lv (.int v :: st) (pc + 3)) : zX p l e R s m args below meth c Q D B cA nL cells slots S I lv (.int xa2 :: .int xa1 :: .ref (B + 0) :: st) pc :=
  zc_VqI C (ci := 11) (q := (RX11, TX11, 19)) (k := 0) (fs := [some (some 1), none, some (some 3), some (some 4), none, none, none, none, some (some 22), some (some 24), some (some 43), some (some 64), some (some 69), some (some 88), some (some 97), some (some 100), some (some 109), some (some 111), none]) (As := [.int xa1, .int xa2]) (st := st) rfl (hS _ _ zs_0) (c_Desk_edit hS h) (zgV zk_ml_L_23 zk_im_yX11_edit zk_se_yX11_edit zk_in_11 zk_cd_yX11_edit) zsg_yX11_edit hR rfl rfl hw hd hf kk
theorem zv_L_27t {p : Program} {l : Launch} {e : Env} {R : Room} {s : State} {m : MethodId} {args : Array Value} {below : List Frame} {meth : Method} {c : Code} {Q : State → Prop} {D : va_G} {B : Nat} {cA : Nat → ClassId} {ad : Nat → Nat} {cc : ByteArray} {nL : Nat} {ret : Option FieldType} {S : List zC} {I : zI} {lv : List (Nat × Value)} {st : List Value} {pc cells slots : Nat} (C : zCx p s m args meth c cc nL RL ret D B cA ad) {K : Int32 → zI → Prop} {xa1 : Int32} {xa2 : Int32} (hS : zOkM S)  (h : w_M_edit xa1 xa2 I K) (hR : 4 + 1 ≤ R.frames ∧ 8 + (5 + 11) + (104) ≤ R.locals) (hw : (st.map fun v => v.category).sum ≤ 8) (hd : decode cc pc = .ok (.invokevirtual 27, 3)) (hf : cells ≤ R.cells ∧ slots ≤ R.slots) (kk : ∀ v I2, K v I2 → zX p l e R s m args below meth c Q D B cA nL cells slots S I2 lv (.int v :: st) (pc + 3)) : zX p l e R s m args below meth c Q D B cA nL cells slots S I lv (.int xa2 :: .int xa1 :: .ref (B + 491) :: st) pc :=
  zc_VqI C (ci := 12) (q := (RX12, TX12, 82)) (k := 491) (fs := [none, some (some 492), some (some 493), none, some (some 494), none, some (some 495), none, none, none, some (some 496), some (some 497), some (some 498), some (some 499), some (some 500), none, some (some 501), some (some 502), some (some 503), none, some (some 504), some (some 505), some (some 506), some (some 507), some (some 508), none, some (some 509), some (some 510), some (some 511), some (some 512), some (some 513), some (some 514), some (some 515), some (some 516), some (some 517), some (some 518), none, none, some (some 519), none, some (some 520), none, none, none, some (some 521), some (some 522), some (some 523), some (some 524), some (some 525), some (some 526), some (some 527), none, some (some 528), none, some (some 529), none, some (some 530), some (some 531), some (some 532), none, some (some 533), some (some 534), some (some 535), some (some 536), some (some 537), none, none, none, some (some 538), some (some 539), some (some 540), none, none, none, some (some 541), none, none, some (some 542), some (some 543), some (some 544), none, some (some 545)]) (As := [.int xa1, .int xa2]) (st := st) rfl (hS _ _ zs_491) (c_M_edit hS h) (zgV zk_ml_L_27 zk_im_yX12_edit zk_se_yX12_edit zk_in_12 zk_cd_yX12_edit) zsg_yX12_edit hR rfl rfl hw hd hf kk
def w_lawc_2 (L : Nat) (xs : Nat → Int32) (v3 : Int32) (I : zI) (J : zI → Prop) : Prop :=
  vp_in (v3 + 1) L ∧ (vp_in (v3 + 2) L ∧ (w_Desk_edit (xs (Int32.toNatClampNeg (v3 + 1))) (xs (Int32.toNatClampNeg (v3 + 2))) I (fun r_1 I_2 => vp_in (v3 + 1) L ∧ (vp_in (v3 + 2) L ∧ (w_M_edit (xs (Int32.toNatClampNeg (v3 + 1))) (xs (Int32.toNatClampNeg (v3 + 2))) I_2 (fun r_3 I_4 => J I_4))))))
set_option maxHeartbeats 4000000 in
set_option maxRecDepth 20000 in
theorem zl_c2 {p : Program} {l : Launch} {e : Env} {s : State} {m : MethodId} {below : List Frame} {meth : Method} {c : Code} {D : va_G} {B : Nat} {cA : Nat → ClassId} {ad : Nat → Nat} {b L : Nat} {xs : Nat → Int32} {S : List zC} (C : zCx p s m #[Value.ref b] meth c cL_law 4 RL ret D B cA ad) (hX : va_X b L xs s s.heap) (hbl : b < s.heap.size) (hbA : ¬ B ≤ b) (hS : zOkM S) (hB : B = s.heap.size) {v3 : Int32} {I : zI} {J : zI → Prop} (h : w_lawc_2 L xs v3 I J) (kk : ∀ I2, J I2 → zX p l e room_1 s m #[Value.ref b] below meth c (lw_Z below #[Value.ref b] s) D B cA 4 546 406967 S I2 [(3, .int v3), (0, .ref b), (1, .ref (B + 0)), (2, .ref (B + 491))] [] 1245) : zX p l e room_1 s m #[Value.ref b] below meth c (lw_Z below #[Value.ref b] s) D B cA 4 546 406967 S I [(3, .int v3), (0, .ref b), (1, .ref (B + 0)), (2, .ref (B + 491))] [] 298 := by
  unfold w_lawc_2 at h
  refine zr_aload_n C dyL_law_298 rfl 2 rfl ?_
  refine zr_aload_n C dyL_law_299 rfl 1 rfl ?_
  refine zr_iload_n C dyL_law_300 rfl 0 rfl ?_
  refine zr_iconst C dyL_law_301 zc_i_1 ?_
  refine zr_iadd C dyL_law_302 ?_
  refine zr_sld C hX hbl hbA h.1 dyL_law_303 ?_
  replace h := h.2
  refine zr_aload_n C dyL_law_304 rfl 1 rfl ?_
  refine zr_iload_n C dyL_law_305 rfl 0 rfl ?_
  refine zr_iconst C dyL_law_306 zc_i_2 ?_
  refine zr_iadd C dyL_law_307 ?_
  refine zr_sld C hX hbl hbA h.1 dyL_law_308 ?_
  replace h := h.2
  refine zv_L_23t C hS.x (st := []) h ⟨Nat.le_of_ble_eq_true rfl, Nat.le_of_ble_eq_true rfl⟩ (Nat.le_of_ble_eq_true rfl) dyL_law_309 ⟨Nat.le_of_ble_eq_true rfl, Nat.le_of_ble_eq_true rfl⟩ (fun r_1 I_2 h => ?_)
  refine zr_pop C dyL_law_312 rfl ?_
  refine zr_aload_n C dyL_law_313 rfl 3 rfl ?_
  refine zr_aload_n C dyL_law_314 rfl 1 rfl ?_
  refine zr_iload_n C dyL_law_315 rfl 0 rfl ?_
  refine zr_iconst C dyL_law_316 zc_i_1 ?_
  refine zr_iadd C dyL_law_317 ?_
  refine zr_sld C hX hbl hbA h.1 dyL_law_318 ?_
  replace h := h.2
  refine zr_aload_n C dyL_law_319 rfl 1 rfl ?_
  refine zr_iload_n C dyL_law_320 rfl 0 rfl ?_
  refine zr_iconst C dyL_law_321 zc_i_2 ?_
  refine zr_iadd C dyL_law_322 ?_
  refine zr_sld C hX hbl hbA h.1 dyL_law_323 ?_
  replace h := h.2
  refine zv_L_27t C hS (st := []) h ⟨Nat.le_of_ble_eq_true rfl, Nat.le_of_ble_eq_true rfl⟩ (Nat.le_of_ble_eq_true rfl) dyL_law_324 ⟨Nat.le_of_ble_eq_true rfl, Nat.le_of_ble_eq_true rfl⟩ (fun r_3 I_4 h => ?_)
  refine zr_pop C dyL_law_327 rfl ?_
  refine zr_goto C dyL_law_328 (tgt := 1245) (by decide) ?_
  exact kk _ h
theorem zv_L_28t {p : Program} {l : Launch} {e : Env} {R : Room} {s : State} {m : MethodId} {args : Array Value} {below : List Frame} {meth : Method} {c : Code} {Q : State → Prop} {D : va_G} {B : Nat} {cA : Nat → ClassId} {ad : Nat → Nat} {cc : ByteArray} {nL : Nat} {ret : Option FieldType} {S : List zC} {I : zI} {lv : List (Nat × Value)} {st : List Value} {pc cells slots : Nat} (C : zCx p s m args meth c cc nL RL ret D B cA ad) {K : Int32 → zI → Prop} {xa1 : Int32} (hS : zOkX S)  (h : w_Desk_rename xa1 I K) (hR : 18 + 1 ≤ R.frames ∧ 8 + (5 + 11) + (594) ≤ R.locals) (hw : (st.map fun v => v.category).sum ≤ 8) (hd : decode cc pc = .ok (.invokevirtual 28, 3)) (hf : cells ≤ R.cells ∧ slots ≤ R.slots) (kk : ∀ v I2, K v I2 → zX p l e R s m args below meth c Q D B cA nL cells slots S I2 lv (.int v :: st) (pc + 3)) : zX p l e R s m args below meth c Q D B cA nL cells slots S I lv (.int xa1 :: .ref (B + 0) :: st) pc :=
  zc_VqI C (ci := 11) (q := (RX11, TX11, 19)) (k := 0) (fs := [some (some 1), none, some (some 3), some (some 4), none, none, none, none, some (some 22), some (some 24), some (some 43), some (some 64), some (some 69), some (some 88), some (some 97), some (some 100), some (some 109), some (some 111), none]) (As := [.int xa1]) (st := st) rfl (hS _ _ zs_0) (c_Desk_rename hS h) (zgV zk_ml_L_28 zk_im_yX11_rename zk_se_yX11_rename zk_in_11 zk_cd_yX11_rename) zsg_yX11_rename hR rfl rfl hw hd hf kk
theorem zv_L_31t {p : Program} {l : Launch} {e : Env} {R : Room} {s : State} {m : MethodId} {args : Array Value} {below : List Frame} {meth : Method} {c : Code} {Q : State → Prop} {D : va_G} {B : Nat} {cA : Nat → ClassId} {ad : Nat → Nat} {cc : ByteArray} {nL : Nat} {ret : Option FieldType} {S : List zC} {I : zI} {lv : List (Nat × Value)} {st : List Value} {pc cells slots : Nat} (C : zCx p s m args meth c cc nL RL ret D B cA ad) {K : Int32 → zI → Prop} {xa1 : Int32} (hS : zOkM S)  (h : w_M_rename xa1 I K) (hR : 4 + 1 ≤ R.frames ∧ 8 + (8 + 11) + (104) ≤ R.locals) (hw : (st.map fun v => v.category).sum ≤ 8) (hd : decode cc pc = .ok (.invokevirtual 31, 3)) (hf : cells ≤ R.cells ∧ slots ≤ R.slots) (kk : ∀ v I2, K v I2 → zX p l e R s m args below meth c Q D B cA nL cells slots S I2 lv (.int v :: st) (pc + 3)) : zX p l e R s m args below meth c Q D B cA nL cells slots S I lv (.int xa1 :: .ref (B + 491) :: st) pc :=
  zc_VqI C (ci := 12) (q := (RX12, TX12, 82)) (k := 491) (fs := [none, some (some 492), some (some 493), none, some (some 494), none, some (some 495), none, none, none, some (some 496), some (some 497), some (some 498), some (some 499), some (some 500), none, some (some 501), some (some 502), some (some 503), none, some (some 504), some (some 505), some (some 506), some (some 507), some (some 508), none, some (some 509), some (some 510), some (some 511), some (some 512), some (some 513), some (some 514), some (some 515), some (some 516), some (some 517), some (some 518), none, none, some (some 519), none, some (some 520), none, none, none, some (some 521), some (some 522), some (some 523), some (some 524), some (some 525), some (some 526), some (some 527), none, some (some 528), none, some (some 529), none, some (some 530), some (some 531), some (some 532), none, some (some 533), some (some 534), some (some 535), some (some 536), some (some 537), none, none, none, some (some 538), some (some 539), some (some 540), none, none, none, some (some 541), none, none, some (some 542), some (some 543), some (some 544), none, some (some 545)]) (As := [.int xa1]) (st := st) rfl (hS _ _ zs_491) (c_M_rename hS h) (zgV zk_ml_L_31 zk_im_yX12_rename zk_se_yX12_rename zk_in_12 zk_cd_yX12_rename) zsg_yX12_rename hR rfl rfl hw hd hf kk
def w_lawc_3 (L : Nat) (xs : Nat → Int32) (v3 : Int32) (I : zI) (J : zI → Prop) : Prop :=
  vp_in (v3 + 1) L ∧ (w_Desk_rename (xs (Int32.toNatClampNeg (v3 + 1))) I (fun r_1 I_2 => vp_in (v3 + 1) L ∧ (w_M_rename (xs (Int32.toNatClampNeg (v3 + 1))) I_2 (fun r_3 I_4 => J I_4))))
set_option maxHeartbeats 4000000 in
set_option maxRecDepth 20000 in
theorem zl_c3 {p : Program} {l : Launch} {e : Env} {s : State} {m : MethodId} {below : List Frame} {meth : Method} {c : Code} {D : va_G} {B : Nat} {cA : Nat → ClassId} {ad : Nat → Nat} {b L : Nat} {xs : Nat → Int32} {S : List zC} (C : zCx p s m #[Value.ref b] meth c cL_law 4 RL ret D B cA ad) (hX : va_X b L xs s s.heap) (hbl : b < s.heap.size) (hbA : ¬ B ≤ b) (hS : zOkM S) (hB : B = s.heap.size) {v3 : Int32} {I : zI} {J : zI → Prop} (h : w_lawc_3 L xs v3 I J) (kk : ∀ I2, J I2 → zX p l e room_1 s m #[Value.ref b] below meth c (lw_Z below #[Value.ref b] s) D B cA 4 546 406967 S I2 [(3, .int v3), (0, .ref b), (1, .ref (B + 0)), (2, .ref (B + 491))] [] 1245) : zX p l e room_1 s m #[Value.ref b] below meth c (lw_Z below #[Value.ref b] s) D B cA 4 546 406967 S I [(3, .int v3), (0, .ref b), (1, .ref (B + 0)), (2, .ref (B + 491))] [] 331 := by
  unfold w_lawc_3 at h
  refine zr_aload_n C dyL_law_331 rfl 2 rfl ?_
  refine zr_aload_n C dyL_law_332 rfl 1 rfl ?_
  refine zr_iload_n C dyL_law_333 rfl 0 rfl ?_
  refine zr_iconst C dyL_law_334 zc_i_1 ?_
  refine zr_iadd C dyL_law_335 ?_
  refine zr_sld C hX hbl hbA h.1 dyL_law_336 ?_
  replace h := h.2
  refine zv_L_28t C hS.x (st := []) h ⟨Nat.le_of_ble_eq_true rfl, Nat.le_of_ble_eq_true rfl⟩ (Nat.le_of_ble_eq_true rfl) dyL_law_337 ⟨Nat.le_of_ble_eq_true rfl, Nat.le_of_ble_eq_true rfl⟩ (fun r_1 I_2 h => ?_)
  refine zr_pop C dyL_law_340 rfl ?_
  refine zr_aload_n C dyL_law_341 rfl 3 rfl ?_
  refine zr_aload_n C dyL_law_342 rfl 1 rfl ?_
  refine zr_iload_n C dyL_law_343 rfl 0 rfl ?_
  refine zr_iconst C dyL_law_344 zc_i_1 ?_
  refine zr_iadd C dyL_law_345 ?_
  refine zr_sld C hX hbl hbA h.1 dyL_law_346 ?_
  replace h := h.2
  refine zv_L_31t C hS (st := []) h ⟨Nat.le_of_ble_eq_true rfl, Nat.le_of_ble_eq_true rfl⟩ (Nat.le_of_ble_eq_true rfl) dyL_law_347 ⟨Nat.le_of_ble_eq_true rfl, Nat.le_of_ble_eq_true rfl⟩ (fun r_3 I_4 h => ?_)
  refine zr_pop C dyL_law_350 rfl ?_
  refine zr_goto C dyL_law_351 (tgt := 1245) (by decide) ?_
  exact kk _ h
theorem zv_L_32t {p : Program} {l : Launch} {e : Env} {R : Room} {s : State} {m : MethodId} {args : Array Value} {below : List Frame} {meth : Method} {c : Code} {Q : State → Prop} {D : va_G} {B : Nat} {cA : Nat → ClassId} {ad : Nat → Nat} {cc : ByteArray} {nL : Nat} {ret : Option FieldType} {S : List zC} {I : zI} {lv : List (Nat × Value)} {st : List Value} {pc cells slots : Nat} (C : zCx p s m args meth c cc nL RL ret D B cA ad) {K : Int32 → zI → Prop} {xa1 : Int32} (hS : zOkX S)  (h : w_Desk_cut xa1 I K) (hR : 18 + 1 ≤ R.frames ∧ 8 + (3 + 11) + (594) ≤ R.locals) (hw : (st.map fun v => v.category).sum ≤ 8) (hd : decode cc pc = .ok (.invokevirtual 32, 3)) (hf : cells ≤ R.cells ∧ slots ≤ R.slots) (kk : ∀ v I2, K v I2 → zX p l e R s m args below meth c Q D B cA nL cells slots S I2 lv (.int v :: st) (pc + 3)) : zX p l e R s m args below meth c Q D B cA nL cells slots S I lv (.int xa1 :: .ref (B + 0) :: st) pc :=
  zc_VqI C (ci := 11) (q := (RX11, TX11, 19)) (k := 0) (fs := [some (some 1), none, some (some 3), some (some 4), none, none, none, none, some (some 22), some (some 24), some (some 43), some (some 64), some (some 69), some (some 88), some (some 97), some (some 100), some (some 109), some (some 111), none]) (As := [.int xa1]) (st := st) rfl (hS _ _ zs_0) (c_Desk_cut hS h) (zgV zk_ml_L_32 zk_im_yX11_cut zk_se_yX11_cut zk_in_11 zk_cd_yX11_cut) zsg_yX11_cut hR rfl rfl hw hd hf kk
theorem zv_L_35t {p : Program} {l : Launch} {e : Env} {R : Room} {s : State} {m : MethodId} {args : Array Value} {below : List Frame} {meth : Method} {c : Code} {Q : State → Prop} {D : va_G} {B : Nat} {cA : Nat → ClassId} {ad : Nat → Nat} {cc : ByteArray} {nL : Nat} {ret : Option FieldType} {S : List zC} {I : zI} {lv : List (Nat × Value)} {st : List Value} {pc cells slots : Nat} (C : zCx p s m args meth c cc nL RL ret D B cA ad) {K : Int32 → zI → Prop} {xa1 : Int32} (hS : zOkM S)  (h : w_M_cut xa1 I K) (hR : 4 + 1 ≤ R.frames ∧ 8 + (3 + 11) + (104) ≤ R.locals) (hw : (st.map fun v => v.category).sum ≤ 8) (hd : decode cc pc = .ok (.invokevirtual 35, 3)) (hf : cells ≤ R.cells ∧ slots ≤ R.slots) (kk : ∀ v I2, K v I2 → zX p l e R s m args below meth c Q D B cA nL cells slots S I2 lv (.int v :: st) (pc + 3)) : zX p l e R s m args below meth c Q D B cA nL cells slots S I lv (.int xa1 :: .ref (B + 491) :: st) pc :=
  zc_VqI C (ci := 12) (q := (RX12, TX12, 82)) (k := 491) (fs := [none, some (some 492), some (some 493), none, some (some 494), none, some (some 495), none, none, none, some (some 496), some (some 497), some (some 498), some (some 499), some (some 500), none, some (some 501), some (some 502), some (some 503), none, some (some 504), some (some 505), some (some 506), some (some 507), some (some 508), none, some (some 509), some (some 510), some (some 511), some (some 512), some (some 513), some (some 514), some (some 515), some (some 516), some (some 517), some (some 518), none, none, some (some 519), none, some (some 520), none, none, none, some (some 521), some (some 522), some (some 523), some (some 524), some (some 525), some (some 526), some (some 527), none, some (some 528), none, some (some 529), none, some (some 530), some (some 531), some (some 532), none, some (some 533), some (some 534), some (some 535), some (some 536), some (some 537), none, none, none, some (some 538), some (some 539), some (some 540), none, none, none, some (some 541), none, none, some (some 542), some (some 543), some (some 544), none, some (some 545)]) (As := [.int xa1]) (st := st) rfl (hS _ _ zs_491) (c_M_cut hS h) (zgV zk_ml_L_35 zk_im_yX12_cut zk_se_yX12_cut zk_in_12 zk_cd_yX12_cut) zsg_yX12_cut hR rfl rfl hw hd hf kk
def w_lawc_4 (L : Nat) (xs : Nat → Int32) (v3 : Int32) (I : zI) (J : zI → Prop) : Prop :=
  vp_in (v3 + 1) L ∧ (w_Desk_cut (xs (Int32.toNatClampNeg (v3 + 1))) I (fun r_1 I_2 => vp_in (v3 + 1) L ∧ (w_M_cut (xs (Int32.toNatClampNeg (v3 + 1))) I_2 (fun r_3 I_4 => J I_4))))
set_option maxHeartbeats 4000000 in
set_option maxRecDepth 20000 in
theorem zl_c4 {p : Program} {l : Launch} {e : Env} {s : State} {m : MethodId} {below : List Frame} {meth : Method} {c : Code} {D : va_G} {B : Nat} {cA : Nat → ClassId} {ad : Nat → Nat} {b L : Nat} {xs : Nat → Int32} {S : List zC} (C : zCx p s m #[Value.ref b] meth c cL_law 4 RL ret D B cA ad) (hX : va_X b L xs s s.heap) (hbl : b < s.heap.size) (hbA : ¬ B ≤ b) (hS : zOkM S) (hB : B = s.heap.size) {v3 : Int32} {I : zI} {J : zI → Prop} (h : w_lawc_4 L xs v3 I J) (kk : ∀ I2, J I2 → zX p l e room_1 s m #[Value.ref b] below meth c (lw_Z below #[Value.ref b] s) D B cA 4 546 406967 S I2 [(3, .int v3), (0, .ref b), (1, .ref (B + 0)), (2, .ref (B + 491))] [] 1245) : zX p l e room_1 s m #[Value.ref b] below meth c (lw_Z below #[Value.ref b] s) D B cA 4 546 406967 S I [(3, .int v3), (0, .ref b), (1, .ref (B + 0)), (2, .ref (B + 491))] [] 354 := by
  unfold w_lawc_4 at h
  refine zr_aload_n C dyL_law_354 rfl 2 rfl ?_
  refine zr_aload_n C dyL_law_355 rfl 1 rfl ?_
  refine zr_iload_n C dyL_law_356 rfl 0 rfl ?_
  refine zr_iconst C dyL_law_357 zc_i_1 ?_
  refine zr_iadd C dyL_law_358 ?_
  refine zr_sld C hX hbl hbA h.1 dyL_law_359 ?_
  replace h := h.2
  refine zv_L_32t C hS.x (st := []) h ⟨Nat.le_of_ble_eq_true rfl, Nat.le_of_ble_eq_true rfl⟩ (Nat.le_of_ble_eq_true rfl) dyL_law_360 ⟨Nat.le_of_ble_eq_true rfl, Nat.le_of_ble_eq_true rfl⟩ (fun r_1 I_2 h => ?_)
  refine zr_pop C dyL_law_363 rfl ?_
  refine zr_aload_n C dyL_law_364 rfl 3 rfl ?_
  refine zr_aload_n C dyL_law_365 rfl 1 rfl ?_
  refine zr_iload_n C dyL_law_366 rfl 0 rfl ?_
  refine zr_iconst C dyL_law_367 zc_i_1 ?_
  refine zr_iadd C dyL_law_368 ?_
  refine zr_sld C hX hbl hbA h.1 dyL_law_369 ?_
  replace h := h.2
  refine zv_L_35t C hS (st := []) h ⟨Nat.le_of_ble_eq_true rfl, Nat.le_of_ble_eq_true rfl⟩ (Nat.le_of_ble_eq_true rfl) dyL_law_370 ⟨Nat.le_of_ble_eq_true rfl, Nat.le_of_ble_eq_true rfl⟩ (fun r_3 I_4 h => ?_)
  refine zr_pop C dyL_law_373 rfl ?_
  refine zr_goto C dyL_law_374 (tgt := 1245) (by decide) ?_
  exact kk _ h
theorem zv_L_36t {p : Program} {l : Launch} {e : Env} {R : Room} {s : State} {m : MethodId} {args : Array Value} {below : List Frame} {meth : Method} {c : Code} {Q : State → Prop} {D : va_G} {B : Nat} {cA : Nat → ClassId} {ad : Nat → Nat} {cc : ByteArray} {nL : Nat} {ret : Option FieldType} {S : List zC} {I : zI} {lv : List (Nat × Value)} {st : List Value} {pc cells slots : Nat} (C : zCx p s m args meth c cc nL RL ret D B cA ad) {K : Int32 → zI → Prop} {xa1 : Int32} (hS : zOkX S)  (h : w_Desk_twin xa1 I K) (hR : 18 + 1 ≤ R.frames ∧ 8 + (3 + 11) + (594) ≤ R.locals) (hw : (st.map fun v => v.category).sum ≤ 8) (hd : decode cc pc = .ok (.invokevirtual 36, 3)) (hf : cells ≤ R.cells ∧ slots ≤ R.slots) (kk : ∀ v I2, K v I2 → zX p l e R s m args below meth c Q D B cA nL cells slots S I2 lv (.int v :: st) (pc + 3)) : zX p l e R s m args below meth c Q D B cA nL cells slots S I lv (.int xa1 :: .ref (B + 0) :: st) pc :=
  zc_VqI C (ci := 11) (q := (RX11, TX11, 19)) (k := 0) (fs := [some (some 1), none, some (some 3), some (some 4), none, none, none, none, some (some 22), some (some 24), some (some 43), some (some 64), some (some 69), some (some 88), some (some 97), some (some 100), some (some 109), some (some 111), none]) (As := [.int xa1]) (st := st) rfl (hS _ _ zs_0) (c_Desk_twin hS h) (zgV zk_ml_L_36 zk_im_yX11_twin zk_se_yX11_twin zk_in_11 zk_cd_yX11_twin) zsg_yX11_twin hR rfl rfl hw hd hf kk
theorem zv_L_39t {p : Program} {l : Launch} {e : Env} {R : Room} {s : State} {m : MethodId} {args : Array Value} {below : List Frame} {meth : Method} {c : Code} {Q : State → Prop} {D : va_G} {B : Nat} {cA : Nat → ClassId} {ad : Nat → Nat} {cc : ByteArray} {nL : Nat} {ret : Option FieldType} {S : List zC} {I : zI} {lv : List (Nat × Value)} {st : List Value} {pc cells slots : Nat} (C : zCx p s m args meth c cc nL RL ret D B cA ad) {K : Int32 → zI → Prop} {xa1 : Int32} (hS : zOkM S)  (h : w_M_twin xa1 I K) (hR : 4 + 1 ≤ R.frames ∧ 8 + (3 + 11) + (104) ≤ R.locals) (hw : (st.map fun v => v.category).sum ≤ 8) (hd : decode cc pc = .ok (.invokevirtual 39, 3)) (hf : cells ≤ R.cells ∧ slots ≤ R.slots) (kk : ∀ v I2, K v I2 → zX p l e R s m args below meth c Q D B cA nL cells slots S I2 lv (.int v :: st) (pc + 3)) : zX p l e R s m args below meth c Q D B cA nL cells slots S I lv (.int xa1 :: .ref (B + 491) :: st) pc :=
  zc_VqI C (ci := 12) (q := (RX12, TX12, 82)) (k := 491) (fs := [none, some (some 492), some (some 493), none, some (some 494), none, some (some 495), none, none, none, some (some 496), some (some 497), some (some 498), some (some 499), some (some 500), none, some (some 501), some (some 502), some (some 503), none, some (some 504), some (some 505), some (some 506), some (some 507), some (some 508), none, some (some 509), some (some 510), some (some 511), some (some 512), some (some 513), some (some 514), some (some 515), some (some 516), some (some 517), some (some 518), none, none, some (some 519), none, some (some 520), none, none, none, some (some 521), some (some 522), some (some 523), some (some 524), some (some 525), some (some 526), some (some 527), none, some (some 528), none, some (some 529), none, some (some 530), some (some 531), some (some 532), none, some (some 533), some (some 534), some (some 535), some (some 536), some (some 537), none, none, none, some (some 538), some (some 539), some (some 540), none, none, none, some (some 541), none, none, some (some 542), some (some 543), some (some 544), none, some (some 545)]) (As := [.int xa1]) (st := st) rfl (hS _ _ zs_491) (c_M_twin hS h) (zgV zk_ml_L_39 zk_im_yX12_twin zk_se_yX12_twin zk_in_12 zk_cd_yX12_twin) zsg_yX12_twin hR rfl rfl hw hd hf kk
def w_lawc_5 (L : Nat) (xs : Nat → Int32) (v3 : Int32) (I : zI) (J : zI → Prop) : Prop :=
  vp_in (v3 + 1) L ∧ (w_Desk_twin (xs (Int32.toNatClampNeg (v3 + 1))) I (fun r_1 I_2 => vp_in (v3 + 1) L ∧ (w_M_twin (xs (Int32.toNatClampNeg (v3 + 1))) I_2 (fun r_3 I_4 => J I_4))))
set_option maxHeartbeats 4000000 in
set_option maxRecDepth 20000 in
theorem zl_c5 {p : Program} {l : Launch} {e : Env} {s : State} {m : MethodId} {below : List Frame} {meth : Method} {c : Code} {D : va_G} {B : Nat} {cA : Nat → ClassId} {ad : Nat → Nat} {b L : Nat} {xs : Nat → Int32} {S : List zC} (C : zCx p s m #[Value.ref b] meth c cL_law 4 RL ret D B cA ad) (hX : va_X b L xs s s.heap) (hbl : b < s.heap.size) (hbA : ¬ B ≤ b) (hS : zOkM S) (hB : B = s.heap.size) {v3 : Int32} {I : zI} {J : zI → Prop} (h : w_lawc_5 L xs v3 I J) (kk : ∀ I2, J I2 → zX p l e room_1 s m #[Value.ref b] below meth c (lw_Z below #[Value.ref b] s) D B cA 4 546 406967 S I2 [(3, .int v3), (0, .ref b), (1, .ref (B + 0)), (2, .ref (B + 491))] [] 1245) : zX p l e room_1 s m #[Value.ref b] below meth c (lw_Z below #[Value.ref b] s) D B cA 4 546 406967 S I [(3, .int v3), (0, .ref b), (1, .ref (B + 0)), (2, .ref (B + 491))] [] 377 := by
  unfold w_lawc_5 at h
  refine zr_aload_n C dyL_law_377 rfl 2 rfl ?_
  refine zr_aload_n C dyL_law_378 rfl 1 rfl ?_
  refine zr_iload_n C dyL_law_379 rfl 0 rfl ?_
  refine zr_iconst C dyL_law_380 zc_i_1 ?_
  refine zr_iadd C dyL_law_381 ?_
  refine zr_sld C hX hbl hbA h.1 dyL_law_382 ?_
  replace h := h.2
  refine zv_L_36t C hS.x (st := []) h ⟨Nat.le_of_ble_eq_true rfl, Nat.le_of_ble_eq_true rfl⟩ (Nat.le_of_ble_eq_true rfl) dyL_law_383 ⟨Nat.le_of_ble_eq_true rfl, Nat.le_of_ble_eq_true rfl⟩ (fun r_1 I_2 h => ?_)
  refine zr_pop C dyL_law_386 rfl ?_
  refine zr_aload_n C dyL_law_387 rfl 3 rfl ?_
  refine zr_aload_n C dyL_law_388 rfl 1 rfl ?_
  refine zr_iload_n C dyL_law_389 rfl 0 rfl ?_
  refine zr_iconst C dyL_law_390 zc_i_1 ?_
  refine zr_iadd C dyL_law_391 ?_
  refine zr_sld C hX hbl hbA h.1 dyL_law_392 ?_
  replace h := h.2
  refine zv_L_39t C hS (st := []) h ⟨Nat.le_of_ble_eq_true rfl, Nat.le_of_ble_eq_true rfl⟩ (Nat.le_of_ble_eq_true rfl) dyL_law_393 ⟨Nat.le_of_ble_eq_true rfl, Nat.le_of_ble_eq_true rfl⟩ (fun r_3 I_4 h => ?_)
  refine zr_pop C dyL_law_396 rfl ?_
  refine zr_goto C dyL_law_397 (tgt := 1245) (by decide) ?_
  exact kk _ h
theorem zv_L_40t {p : Program} {l : Launch} {e : Env} {R : Room} {s : State} {m : MethodId} {args : Array Value} {below : List Frame} {meth : Method} {c : Code} {Q : State → Prop} {D : va_G} {B : Nat} {cA : Nat → ClassId} {ad : Nat → Nat} {cc : ByteArray} {nL : Nat} {ret : Option FieldType} {S : List zC} {I : zI} {lv : List (Nat × Value)} {st : List Value} {pc cells slots : Nat} (C : zCx p s m args meth c cc nL RL ret D B cA ad) {K : Int32 → zI → Prop} {xa1 : Int32} (hS : zOkX S)  (h : w_Desk_swap xa1 I K) (hR : 18 + 1 ≤ R.frames ∧ 8 + (3 + 11) + (594) ≤ R.locals) (hw : (st.map fun v => v.category).sum ≤ 8) (hd : decode cc pc = .ok (.invokevirtual 40, 3)) (hf : cells ≤ R.cells ∧ slots ≤ R.slots) (kk : ∀ v I2, K v I2 → zX p l e R s m args below meth c Q D B cA nL cells slots S I2 lv (.int v :: st) (pc + 3)) : zX p l e R s m args below meth c Q D B cA nL cells slots S I lv (.int xa1 :: .ref (B + 0) :: st) pc :=
  zc_VqI C (ci := 11) (q := (RX11, TX11, 19)) (k := 0) (fs := [some (some 1), none, some (some 3), some (some 4), none, none, none, none, some (some 22), some (some 24), some (some 43), some (some 64), some (some 69), some (some 88), some (some 97), some (some 100), some (some 109), some (some 111), none]) (As := [.int xa1]) (st := st) rfl (hS _ _ zs_0) (c_Desk_swap hS h) (zgV zk_ml_L_40 zk_im_yX11_swap zk_se_yX11_swap zk_in_11 zk_cd_yX11_swap) zsg_yX11_swap hR rfl rfl hw hd hf kk
theorem zv_L_43t {p : Program} {l : Launch} {e : Env} {R : Room} {s : State} {m : MethodId} {args : Array Value} {below : List Frame} {meth : Method} {c : Code} {Q : State → Prop} {D : va_G} {B : Nat} {cA : Nat → ClassId} {ad : Nat → Nat} {cc : ByteArray} {nL : Nat} {ret : Option FieldType} {S : List zC} {I : zI} {lv : List (Nat × Value)} {st : List Value} {pc cells slots : Nat} (C : zCx p s m args meth c cc nL RL ret D B cA ad) {K : Int32 → zI → Prop} {xa1 : Int32} (hS : zOkM S)  (h : w_M_swap xa1 I K) (hR : 4 + 1 ≤ R.frames ∧ 8 + (5 + 11) + (104) ≤ R.locals) (hw : (st.map fun v => v.category).sum ≤ 8) (hd : decode cc pc = .ok (.invokevirtual 43, 3)) (hf : cells ≤ R.cells ∧ slots ≤ R.slots) (kk : ∀ v I2, K v I2 → zX p l e R s m args below meth c Q D B cA nL cells slots S I2 lv (.int v :: st) (pc + 3)) : zX p l e R s m args below meth c Q D B cA nL cells slots S I lv (.int xa1 :: .ref (B + 491) :: st) pc :=
  zc_VqI C (ci := 12) (q := (RX12, TX12, 82)) (k := 491) (fs := [none, some (some 492), some (some 493), none, some (some 494), none, some (some 495), none, none, none, some (some 496), some (some 497), some (some 498), some (some 499), some (some 500), none, some (some 501), some (some 502), some (some 503), none, some (some 504), some (some 505), some (some 506), some (some 507), some (some 508), none, some (some 509), some (some 510), some (some 511), some (some 512), some (some 513), some (some 514), some (some 515), some (some 516), some (some 517), some (some 518), none, none, some (some 519), none, some (some 520), none, none, none, some (some 521), some (some 522), some (some 523), some (some 524), some (some 525), some (some 526), some (some 527), none, some (some 528), none, some (some 529), none, some (some 530), some (some 531), some (some 532), none, some (some 533), some (some 534), some (some 535), some (some 536), some (some 537), none, none, none, some (some 538), some (some 539), some (some 540), none, none, none, some (some 541), none, none, some (some 542), some (some 543), some (some 544), none, some (some 545)]) (As := [.int xa1]) (st := st) rfl (hS _ _ zs_491) (c_M_swap hS h) (zgV zk_ml_L_43 zk_im_yX12_swap zk_se_yX12_swap zk_in_12 zk_cd_yX12_swap) zsg_yX12_swap hR rfl rfl hw hd hf kk
def w_lawc_6 (L : Nat) (xs : Nat → Int32) (v3 : Int32) (I : zI) (J : zI → Prop) : Prop :=
  vp_in (v3 + 1) L ∧ (w_Desk_swap (xs (Int32.toNatClampNeg (v3 + 1))) I (fun r_1 I_2 => vp_in (v3 + 1) L ∧ (w_M_swap (xs (Int32.toNatClampNeg (v3 + 1))) I_2 (fun r_3 I_4 => J I_4))))
set_option maxHeartbeats 4000000 in
set_option maxRecDepth 20000 in
theorem zl_c6 {p : Program} {l : Launch} {e : Env} {s : State} {m : MethodId} {below : List Frame} {meth : Method} {c : Code} {D : va_G} {B : Nat} {cA : Nat → ClassId} {ad : Nat → Nat} {b L : Nat} {xs : Nat → Int32} {S : List zC} (C : zCx p s m #[Value.ref b] meth c cL_law 4 RL ret D B cA ad) (hX : va_X b L xs s s.heap) (hbl : b < s.heap.size) (hbA : ¬ B ≤ b) (hS : zOkM S) (hB : B = s.heap.size) {v3 : Int32} {I : zI} {J : zI → Prop} (h : w_lawc_6 L xs v3 I J) (kk : ∀ I2, J I2 → zX p l e room_1 s m #[Value.ref b] below meth c (lw_Z below #[Value.ref b] s) D B cA 4 546 406967 S I2 [(3, .int v3), (0, .ref b), (1, .ref (B + 0)), (2, .ref (B + 491))] [] 1245) : zX p l e room_1 s m #[Value.ref b] below meth c (lw_Z below #[Value.ref b] s) D B cA 4 546 406967 S I [(3, .int v3), (0, .ref b), (1, .ref (B + 0)), (2, .ref (B + 491))] [] 400 := by
  unfold w_lawc_6 at h
  refine zr_aload_n C dyL_law_400 rfl 2 rfl ?_
  refine zr_aload_n C dyL_law_401 rfl 1 rfl ?_
  refine zr_iload_n C dyL_law_402 rfl 0 rfl ?_
  refine zr_iconst C dyL_law_403 zc_i_1 ?_
  refine zr_iadd C dyL_law_404 ?_
  refine zr_sld C hX hbl hbA h.1 dyL_law_405 ?_
  replace h := h.2
  refine zv_L_40t C hS.x (st := []) h ⟨Nat.le_of_ble_eq_true rfl, Nat.le_of_ble_eq_true rfl⟩ (Nat.le_of_ble_eq_true rfl) dyL_law_406 ⟨Nat.le_of_ble_eq_true rfl, Nat.le_of_ble_eq_true rfl⟩ (fun r_1 I_2 h => ?_)
  refine zr_pop C dyL_law_409 rfl ?_
  refine zr_aload_n C dyL_law_410 rfl 3 rfl ?_
  refine zr_aload_n C dyL_law_411 rfl 1 rfl ?_
  refine zr_iload_n C dyL_law_412 rfl 0 rfl ?_
  refine zr_iconst C dyL_law_413 zc_i_1 ?_
  refine zr_iadd C dyL_law_414 ?_
  refine zr_sld C hX hbl hbA h.1 dyL_law_415 ?_
  replace h := h.2
  refine zv_L_43t C hS (st := []) h ⟨Nat.le_of_ble_eq_true rfl, Nat.le_of_ble_eq_true rfl⟩ (Nat.le_of_ble_eq_true rfl) dyL_law_416 ⟨Nat.le_of_ble_eq_true rfl, Nat.le_of_ble_eq_true rfl⟩ (fun r_3 I_4 h => ?_)
  refine zr_pop C dyL_law_419 rfl ?_
  refine zr_goto C dyL_law_420 (tgt := 1245) (by decide) ?_
  exact kk _ h
theorem zv_L_44t {p : Program} {l : Launch} {e : Env} {R : Room} {s : State} {m : MethodId} {args : Array Value} {below : List Frame} {meth : Method} {c : Code} {Q : State → Prop} {D : va_G} {B : Nat} {cA : Nat → ClassId} {ad : Nat → Nat} {cc : ByteArray} {nL : Nat} {ret : Option FieldType} {S : List zC} {I : zI} {lv : List (Nat × Value)} {st : List Value} {pc cells slots : Nat} (C : zCx p s m args meth c cc nL RL ret D B cA ad) {K : Int32 → zI → Prop}  (hS : zOkX S)  (h : w_Desk_undo I K) (hR : 6 + 1 ≤ R.frames ∧ 8 + (1 + 11) + (141) ≤ R.locals) (hw : (st.map fun v => v.category).sum ≤ 8) (hd : decode cc pc = .ok (.invokevirtual 44, 3)) (hf : cells ≤ R.cells ∧ slots ≤ R.slots) (kk : ∀ v I2, K v I2 → zX p l e R s m args below meth c Q D B cA nL cells slots S I2 lv (.int v :: st) (pc + 3)) : zX p l e R s m args below meth c Q D B cA nL cells slots S I lv (.ref (B + 0) :: st) pc :=
  zc_VqI C (ci := 11) (q := (RX11, TX11, 19)) (k := 0) (fs := [some (some 1), none, some (some 3), some (some 4), none, none, none, none, some (some 22), some (some 24), some (some 43), some (some 64), some (some 69), some (some 88), some (some 97), some (some 100), some (some 109), some (some 111), none]) (As := []) (st := st) rfl (hS _ _ zs_0) (c_Desk_undo hS h) (zgV zk_ml_L_44 zk_im_yX11_undo zk_se_yX11_undo zk_in_11 zk_cd_yX11_undo) zsg_yX11_undo hR rfl rfl hw hd hf kk
theorem zv_L_48t {p : Program} {l : Launch} {e : Env} {R : Room} {s : State} {m : MethodId} {args : Array Value} {below : List Frame} {meth : Method} {c : Code} {Q : State → Prop} {D : va_G} {B : Nat} {cA : Nat → ClassId} {ad : Nat → Nat} {cc : ByteArray} {nL : Nat} {ret : Option FieldType} {S : List zC} {I : zI} {lv : List (Nat × Value)} {st : List Value} {pc cells slots : Nat} (C : zCx p s m args meth c cc nL RL ret D B cA ad) {K : Int32 → zI → Prop}  (hS : zOkM S)  (h : w_M_undo I K) (hR : 4 + 1 ≤ R.frames ∧ 8 + (1 + 11) + (94) ≤ R.locals) (hw : (st.map fun v => v.category).sum ≤ 8) (hd : decode cc pc = .ok (.invokevirtual 48, 3)) (hf : cells ≤ R.cells ∧ slots ≤ R.slots) (kk : ∀ v I2, K v I2 → zX p l e R s m args below meth c Q D B cA nL cells slots S I2 lv (.int v :: st) (pc + 3)) : zX p l e R s m args below meth c Q D B cA nL cells slots S I lv (.ref (B + 491) :: st) pc :=
  zc_VqI C (ci := 12) (q := (RX12, TX12, 82)) (k := 491) (fs := [none, some (some 492), some (some 493), none, some (some 494), none, some (some 495), none, none, none, some (some 496), some (some 497), some (some 498), some (some 499), some (some 500), none, some (some 501), some (some 502), some (some 503), none, some (some 504), some (some 505), some (some 506), some (some 507), some (some 508), none, some (some 509), some (some 510), some (some 511), some (some 512), some (some 513), some (some 514), some (some 515), some (some 516), some (some 517), some (some 518), none, none, some (some 519), none, some (some 520), none, none, none, some (some 521), some (some 522), some (some 523), some (some 524), some (some 525), some (some 526), some (some 527), none, some (some 528), none, some (some 529), none, some (some 530), some (some 531), some (some 532), none, some (some 533), some (some 534), some (some 535), some (some 536), some (some 537), none, none, none, some (some 538), some (some 539), some (some 540), none, none, none, some (some 541), none, none, some (some 542), some (some 543), some (some 544), none, some (some 545)]) (As := []) (st := st) rfl (hS _ _ zs_491) (c_M_undo hS h) (zgV zk_ml_L_48 zk_im_yX12_undo zk_se_yX12_undo zk_in_12 zk_cd_yX12_undo) zsg_yX12_undo hR rfl rfl hw hd hf kk
def w_lawc_7 (L : Nat) (xs : Nat → Int32) (v3 : Int32) (I : zI) (J : zI → Prop) : Prop :=
  w_Desk_undo I (fun r_1 I_2 => w_M_undo I_2 (fun r_3 I_4 => J I_4))
set_option maxHeartbeats 4000000 in
set_option maxRecDepth 20000 in
theorem zl_c7 {p : Program} {l : Launch} {e : Env} {s : State} {m : MethodId} {below : List Frame} {meth : Method} {c : Code} {D : va_G} {B : Nat} {cA : Nat → ClassId} {ad : Nat → Nat} {b L : Nat} {xs : Nat → Int32} {S : List zC} (C : zCx p s m #[Value.ref b] meth c cL_law 4 RL ret D B cA ad) (hX : va_X b L xs s s.heap) (hbl : b < s.heap.size) (hbA : ¬ B ≤ b) (hS : zOkM S) (hB : B = s.heap.size) {v3 : Int32} {I : zI} {J : zI → Prop} (h : w_lawc_7 L xs v3 I J) (kk : ∀ I2, J I2 → zX p l e room_1 s m #[Value.ref b] below meth c (lw_Z below #[Value.ref b] s) D B cA 4 546 406967 S I2 [(3, .int v3), (0, .ref b), (1, .ref (B + 0)), (2, .ref (B + 491))] [] 1245) : zX p l e room_1 s m #[Value.ref b] below meth c (lw_Z below #[Value.ref b] s) D B cA 4 546 406967 S I [(3, .int v3), (0, .ref b), (1, .ref (B + 0)), (2, .ref (B + 491))] [] 423 := by
  unfold w_lawc_7 at h
  refine zr_aload_n C dyL_law_423 rfl 2 rfl ?_
  refine zv_L_44t C hS.x (st := []) h ⟨Nat.le_of_ble_eq_true rfl, Nat.le_of_ble_eq_true rfl⟩ (Nat.le_of_ble_eq_true rfl) dyL_law_424 ⟨Nat.le_of_ble_eq_true rfl, Nat.le_of_ble_eq_true rfl⟩ (fun r_1 I_2 h => ?_)
  refine zr_pop C dyL_law_427 rfl ?_
  refine zr_aload_n C dyL_law_428 rfl 3 rfl ?_
  refine zv_L_48t C hS (st := []) h ⟨Nat.le_of_ble_eq_true rfl, Nat.le_of_ble_eq_true rfl⟩ (Nat.le_of_ble_eq_true rfl) dyL_law_429 ⟨Nat.le_of_ble_eq_true rfl, Nat.le_of_ble_eq_true rfl⟩ (fun r_3 I_4 h => ?_)
  refine zr_pop C dyL_law_432 rfl ?_
  refine zr_goto C dyL_law_433 (tgt := 1245) (by decide) ?_
  exact kk _ h
theorem zv_L_49t {p : Program} {l : Launch} {e : Env} {R : Room} {s : State} {m : MethodId} {args : Array Value} {below : List Frame} {meth : Method} {c : Code} {Q : State → Prop} {D : va_G} {B : Nat} {cA : Nat → ClassId} {ad : Nat → Nat} {cc : ByteArray} {nL : Nat} {ret : Option FieldType} {S : List zC} {I : zI} {lv : List (Nat × Value)} {st : List Value} {pc cells slots : Nat} (C : zCx p s m args meth c cc nL RL ret D B cA ad) {K : Int32 → zI → Prop}  (hS : zOkX S)  (h : w_Desk_redo I K) (hR : 6 + 1 ≤ R.frames ∧ 8 + (1 + 11) + (141) ≤ R.locals) (hw : (st.map fun v => v.category).sum ≤ 8) (hd : decode cc pc = .ok (.invokevirtual 49, 3)) (hf : cells ≤ R.cells ∧ slots ≤ R.slots) (kk : ∀ v I2, K v I2 → zX p l e R s m args below meth c Q D B cA nL cells slots S I2 lv (.int v :: st) (pc + 3)) : zX p l e R s m args below meth c Q D B cA nL cells slots S I lv (.ref (B + 0) :: st) pc :=
  zc_VqI C (ci := 11) (q := (RX11, TX11, 19)) (k := 0) (fs := [some (some 1), none, some (some 3), some (some 4), none, none, none, none, some (some 22), some (some 24), some (some 43), some (some 64), some (some 69), some (some 88), some (some 97), some (some 100), some (some 109), some (some 111), none]) (As := []) (st := st) rfl (hS _ _ zs_0) (c_Desk_redo hS h) (zgV zk_ml_L_49 zk_im_yX11_redo zk_se_yX11_redo zk_in_11 zk_cd_yX11_redo) zsg_yX11_redo hR rfl rfl hw hd hf kk
theorem zv_L_52t {p : Program} {l : Launch} {e : Env} {R : Room} {s : State} {m : MethodId} {args : Array Value} {below : List Frame} {meth : Method} {c : Code} {Q : State → Prop} {D : va_G} {B : Nat} {cA : Nat → ClassId} {ad : Nat → Nat} {cc : ByteArray} {nL : Nat} {ret : Option FieldType} {S : List zC} {I : zI} {lv : List (Nat × Value)} {st : List Value} {pc cells slots : Nat} (C : zCx p s m args meth c cc nL RL ret D B cA ad) {K : Int32 → zI → Prop}  (hS : zOkM S)  (h : w_M_redo I K) (hR : 4 + 1 ≤ R.frames ∧ 8 + (1 + 11) + (94) ≤ R.locals) (hw : (st.map fun v => v.category).sum ≤ 8) (hd : decode cc pc = .ok (.invokevirtual 52, 3)) (hf : cells ≤ R.cells ∧ slots ≤ R.slots) (kk : ∀ v I2, K v I2 → zX p l e R s m args below meth c Q D B cA nL cells slots S I2 lv (.int v :: st) (pc + 3)) : zX p l e R s m args below meth c Q D B cA nL cells slots S I lv (.ref (B + 491) :: st) pc :=
  zc_VqI C (ci := 12) (q := (RX12, TX12, 82)) (k := 491) (fs := [none, some (some 492), some (some 493), none, some (some 494), none, some (some 495), none, none, none, some (some 496), some (some 497), some (some 498), some (some 499), some (some 500), none, some (some 501), some (some 502), some (some 503), none, some (some 504), some (some 505), some (some 506), some (some 507), some (some 508), none, some (some 509), some (some 510), some (some 511), some (some 512), some (some 513), some (some 514), some (some 515), some (some 516), some (some 517), some (some 518), none, none, some (some 519), none, some (some 520), none, none, none, some (some 521), some (some 522), some (some 523), some (some 524), some (some 525), some (some 526), some (some 527), none, some (some 528), none, some (some 529), none, some (some 530), some (some 531), some (some 532), none, some (some 533), some (some 534), some (some 535), some (some 536), some (some 537), none, none, none, some (some 538), some (some 539), some (some 540), none, none, none, some (some 541), none, none, some (some 542), some (some 543), some (some 544), none, some (some 545)]) (As := []) (st := st) rfl (hS _ _ zs_491) (c_M_redo hS h) (zgV zk_ml_L_52 zk_im_yX12_redo zk_se_yX12_redo zk_in_12 zk_cd_yX12_redo) zsg_yX12_redo hR rfl rfl hw hd hf kk
def w_lawc_8 (L : Nat) (xs : Nat → Int32) (v3 : Int32) (I : zI) (J : zI → Prop) : Prop :=
  w_Desk_redo I (fun r_1 I_2 => w_M_redo I_2 (fun r_3 I_4 => J I_4))
set_option maxHeartbeats 4000000 in
set_option maxRecDepth 20000 in
theorem zl_c8 {p : Program} {l : Launch} {e : Env} {s : State} {m : MethodId} {below : List Frame} {meth : Method} {c : Code} {D : va_G} {B : Nat} {cA : Nat → ClassId} {ad : Nat → Nat} {b L : Nat} {xs : Nat → Int32} {S : List zC} (C : zCx p s m #[Value.ref b] meth c cL_law 4 RL ret D B cA ad) (hX : va_X b L xs s s.heap) (hbl : b < s.heap.size) (hbA : ¬ B ≤ b) (hS : zOkM S) (hB : B = s.heap.size) {v3 : Int32} {I : zI} {J : zI → Prop} (h : w_lawc_8 L xs v3 I J) (kk : ∀ I2, J I2 → zX p l e room_1 s m #[Value.ref b] below meth c (lw_Z below #[Value.ref b] s) D B cA 4 546 406967 S I2 [(3, .int v3), (0, .ref b), (1, .ref (B + 0)), (2, .ref (B + 491))] [] 1245) : zX p l e room_1 s m #[Value.ref b] below meth c (lw_Z below #[Value.ref b] s) D B cA 4 546 406967 S I [(3, .int v3), (0, .ref b), (1, .ref (B + 0)), (2, .ref (B + 491))] [] 436 := by
  unfold w_lawc_8 at h
  refine zr_aload_n C dyL_law_436 rfl 2 rfl ?_
  refine zv_L_49t C hS.x (st := []) h ⟨Nat.le_of_ble_eq_true rfl, Nat.le_of_ble_eq_true rfl⟩ (Nat.le_of_ble_eq_true rfl) dyL_law_437 ⟨Nat.le_of_ble_eq_true rfl, Nat.le_of_ble_eq_true rfl⟩ (fun r_1 I_2 h => ?_)
  refine zr_pop C dyL_law_440 rfl ?_
  refine zr_aload_n C dyL_law_441 rfl 3 rfl ?_
  refine zv_L_52t C hS (st := []) h ⟨Nat.le_of_ble_eq_true rfl, Nat.le_of_ble_eq_true rfl⟩ (Nat.le_of_ble_eq_true rfl) dyL_law_442 ⟨Nat.le_of_ble_eq_true rfl, Nat.le_of_ble_eq_true rfl⟩ (fun r_3 I_4 h => ?_)
  refine zr_pop C dyL_law_445 rfl ?_
  refine zr_goto C dyL_law_446 (tgt := 1245) (by decide) ?_
  exact kk _ h
theorem zv_L_53t {p : Program} {l : Launch} {e : Env} {R : Room} {s : State} {m : MethodId} {args : Array Value} {below : List Frame} {meth : Method} {c : Code} {Q : State → Prop} {D : va_G} {B : Nat} {cA : Nat → ClassId} {ad : Nat → Nat} {cc : ByteArray} {nL : Nat} {ret : Option FieldType} {S : List zC} {I : zI} {lv : List (Nat × Value)} {st : List Value} {pc cells slots : Nat} (C : zCx p s m args meth c cc nL RL ret D B cA ad) {K : Int32 → Prop} {xa1 : Int32} (hS : zOkX S)  (h : w_Desk_text xa1 I K) (hR : 1 + 1 ≤ R.frames ∧ 8 + (3 + 11) + (21) ≤ R.locals) (hw : (st.map fun v => v.category).sum ≤ 8) (hd : decode cc pc = .ok (.invokevirtual 53, 3)) (hf : cells ≤ R.cells ∧ slots ≤ R.slots) (kk : ∀ v, K v → zX p l e R s m args below meth c Q D B cA nL cells slots S I lv (.int v :: st) (pc + 3)) : zX p l e R s m args below meth c Q D B cA nL cells slots S I lv (.int xa1 :: .ref (B + 0) :: st) pc :=
  zc_VpI C (ci := 11) (q := (RX11, TX11, 19)) (k := 0) (fs := [some (some 1), none, some (some 3), some (some 4), none, none, none, none, some (some 22), some (some 24), some (some 43), some (some 64), some (some 69), some (some 88), some (some 97), some (some 100), some (some 109), some (some 111), none]) (As := [.int xa1]) (st := st) rfl (hS _ _ zs_0) (c_Desk_text hS h) (zgV zk_ml_L_53 zk_im_yX11_text zk_se_yX11_text zk_in_11 zk_cd_yX11_text) zsg_yX11_text hR rfl rfl hw hd hf kk
theorem zv_L_56t {p : Program} {l : Launch} {e : Env} {R : Room} {s : State} {m : MethodId} {args : Array Value} {below : List Frame} {meth : Method} {c : Code} {Q : State → Prop} {D : va_G} {B : Nat} {cA : Nat → ClassId} {ad : Nat → Nat} {cc : ByteArray} {nL : Nat} {ret : Option FieldType} {S : List zC} {I : zI} {lv : List (Nat × Value)} {st : List Value} {pc cells slots : Nat} (C : zCx p s m args meth c cc nL RL ret D B cA ad) {K : Int32 → Prop} {xa1 : Int32} (hS : zOkM S)  (h : w_M_text xa1 I K) (hR : 1 + 1 ≤ R.frames ∧ 8 + (2 + 11) + (22) ≤ R.locals) (hw : (st.map fun v => v.category).sum ≤ 8) (hd : decode cc pc = .ok (.invokevirtual 56, 3)) (hf : cells ≤ R.cells ∧ slots ≤ R.slots) (kk : ∀ v, K v → zX p l e R s m args below meth c Q D B cA nL cells slots S I lv (.int v :: st) (pc + 3)) : zX p l e R s m args below meth c Q D B cA nL cells slots S I lv (.int xa1 :: .ref (B + 491) :: st) pc :=
  zc_VpI C (ci := 12) (q := (RX12, TX12, 82)) (k := 491) (fs := [none, some (some 492), some (some 493), none, some (some 494), none, some (some 495), none, none, none, some (some 496), some (some 497), some (some 498), some (some 499), some (some 500), none, some (some 501), some (some 502), some (some 503), none, some (some 504), some (some 505), some (some 506), some (some 507), some (some 508), none, some (some 509), some (some 510), some (some 511), some (some 512), some (some 513), some (some 514), some (some 515), some (some 516), some (some 517), some (some 518), none, none, some (some 519), none, some (some 520), none, none, none, some (some 521), some (some 522), some (some 523), some (some 524), some (some 525), some (some 526), some (some 527), none, some (some 528), none, some (some 529), none, some (some 530), some (some 531), some (some 532), none, some (some 533), some (some 534), some (some 535), some (some 536), some (some 537), none, none, none, some (some 538), some (some 539), some (some 540), none, none, none, some (some 541), none, none, some (some 542), some (some 543), some (some 544), none, some (some 545)]) (As := [.int xa1]) (st := st) rfl (hS _ _ zs_491) (c_M_text hS h) (zgV zk_ml_L_56 zk_im_yX12_text zk_se_yX12_text zk_in_12 zk_cd_yX12_text) zsg_yX12_text hR rfl rfl hw hd hf kk
def w_lawc_9 (L : Nat) (xs : Nat → Int32) (v3 : Int32) (I : zI) (J : zI → Prop) : Prop :=
  vp_in (v3 + 1) L ∧ (w_Desk_text (xs (Int32.toNatClampNeg (v3 + 1))) I (fun r_1 => vp_in (v3 + 1) L ∧ (w_M_text (xs (Int32.toNatClampNeg (v3 + 1))) I (fun r_2 => J I))))
set_option maxHeartbeats 4000000 in
set_option maxRecDepth 20000 in
theorem zl_c9 {p : Program} {l : Launch} {e : Env} {s : State} {m : MethodId} {below : List Frame} {meth : Method} {c : Code} {D : va_G} {B : Nat} {cA : Nat → ClassId} {ad : Nat → Nat} {b L : Nat} {xs : Nat → Int32} {S : List zC} (C : zCx p s m #[Value.ref b] meth c cL_law 4 RL ret D B cA ad) (hX : va_X b L xs s s.heap) (hbl : b < s.heap.size) (hbA : ¬ B ≤ b) (hS : zOkM S) (hB : B = s.heap.size) {v3 : Int32} {I : zI} {J : zI → Prop} (h : w_lawc_9 L xs v3 I J) (kk : ∀ I2, J I2 → zX p l e room_1 s m #[Value.ref b] below meth c (lw_Z below #[Value.ref b] s) D B cA 4 546 406967 S I2 [(3, .int v3), (0, .ref b), (1, .ref (B + 0)), (2, .ref (B + 491))] [] 1245) : zX p l e room_1 s m #[Value.ref b] below meth c (lw_Z below #[Value.ref b] s) D B cA 4 546 406967 S I [(3, .int v3), (0, .ref b), (1, .ref (B + 0)), (2, .ref (B + 491))] [] 449 := by
  unfold w_lawc_9 at h
  refine zr_aload_n C dyL_law_449 rfl 2 rfl ?_
  refine zr_aload_n C dyL_law_450 rfl 1 rfl ?_
  refine zr_iload_n C dyL_law_451 rfl 0 rfl ?_
  refine zr_iconst C dyL_law_452 zc_i_1 ?_
  refine zr_iadd C dyL_law_453 ?_
  refine zr_sld C hX hbl hbA h.1 dyL_law_454 ?_
  replace h := h.2
  refine zv_L_53t C hS.x (st := []) h ⟨Nat.le_of_ble_eq_true rfl, Nat.le_of_ble_eq_true rfl⟩ (Nat.le_of_ble_eq_true rfl) dyL_law_455 ⟨Nat.le_of_ble_eq_true rfl, Nat.le_of_ble_eq_true rfl⟩ (fun r_1 h => ?_)
  refine zr_pop C dyL_law_458 rfl ?_
  refine zr_aload_n C dyL_law_459 rfl 3 rfl ?_
  refine zr_aload_n C dyL_law_460 rfl 1 rfl ?_
  refine zr_iload_n C dyL_law_461 rfl 0 rfl ?_
  refine zr_iconst C dyL_law_462 zc_i_1 ?_
  refine zr_iadd C dyL_law_463 ?_
  refine zr_sld C hX hbl hbA h.1 dyL_law_464 ?_
  replace h := h.2
  refine zv_L_56t C hS (st := []) h ⟨Nat.le_of_ble_eq_true rfl, Nat.le_of_ble_eq_true rfl⟩ (Nat.le_of_ble_eq_true rfl) dyL_law_465 ⟨Nat.le_of_ble_eq_true rfl, Nat.le_of_ble_eq_true rfl⟩ (fun r_2 h => ?_)
  refine zr_pop C dyL_law_468 rfl ?_
  refine zr_goto C dyL_law_469 (tgt := 1245) (by decide) ?_
  exact kk _ h
theorem zv_L_57t {p : Program} {l : Launch} {e : Env} {R : Room} {s : State} {m : MethodId} {args : Array Value} {below : List Frame} {meth : Method} {c : Code} {Q : State → Prop} {D : va_G} {B : Nat} {cA : Nat → ClassId} {ad : Nat → Nat} {cc : ByteArray} {nL : Nat} {ret : Option FieldType} {S : List zC} {I : zI} {lv : List (Nat × Value)} {st : List Value} {pc cells slots : Nat} (C : zCx p s m args meth c cc nL RL ret D B cA ad) {K : Int32 → Prop} {xa1 : Int32} {xa2 : Int32} (hS : zOkX S)  (h : w_Desk_token xa1 xa2 I K) (hR : 1 + 1 ≤ R.frames ∧ 8 + (4 + 11) + (21) ≤ R.locals) (hw : (st.map fun v => v.category).sum ≤ 8) (hd : decode cc pc = .ok (.invokevirtual 57, 3)) (hf : cells ≤ R.cells ∧ slots ≤ R.slots) (kk : ∀ v, K v → zX p l e R s m args below meth c Q D B cA nL cells slots S I lv (.int v :: st) (pc + 3)) : zX p l e R s m args below meth c Q D B cA nL cells slots S I lv (.int xa2 :: .int xa1 :: .ref (B + 0) :: st) pc :=
  zc_VpI C (ci := 11) (q := (RX11, TX11, 19)) (k := 0) (fs := [some (some 1), none, some (some 3), some (some 4), none, none, none, none, some (some 22), some (some 24), some (some 43), some (some 64), some (some 69), some (some 88), some (some 97), some (some 100), some (some 109), some (some 111), none]) (As := [.int xa1, .int xa2]) (st := st) rfl (hS _ _ zs_0) (c_Desk_token hS h) (zgV zk_ml_L_57 zk_im_yX11_token zk_se_yX11_token zk_in_11 zk_cd_yX11_token) zsg_yX11_token hR rfl rfl hw hd hf kk
theorem zv_L_60t {p : Program} {l : Launch} {e : Env} {R : Room} {s : State} {m : MethodId} {args : Array Value} {below : List Frame} {meth : Method} {c : Code} {Q : State → Prop} {D : va_G} {B : Nat} {cA : Nat → ClassId} {ad : Nat → Nat} {cc : ByteArray} {nL : Nat} {ret : Option FieldType} {S : List zC} {I : zI} {lv : List (Nat × Value)} {st : List Value} {pc cells slots : Nat} (C : zCx p s m args meth c cc nL RL ret D B cA ad) {K : Int32 → Prop} {xa1 : Int32} {xa2 : Int32} (hS : zOkM S)  (h : w_M_token xa1 xa2 I K) (hR : 1 + 1 ≤ R.frames ∧ 8 + (3 + 11) + (22) ≤ R.locals) (hw : (st.map fun v => v.category).sum ≤ 8) (hd : decode cc pc = .ok (.invokevirtual 60, 3)) (hf : cells ≤ R.cells ∧ slots ≤ R.slots) (kk : ∀ v, K v → zX p l e R s m args below meth c Q D B cA nL cells slots S I lv (.int v :: st) (pc + 3)) : zX p l e R s m args below meth c Q D B cA nL cells slots S I lv (.int xa2 :: .int xa1 :: .ref (B + 491) :: st) pc :=
  zc_VpI C (ci := 12) (q := (RX12, TX12, 82)) (k := 491) (fs := [none, some (some 492), some (some 493), none, some (some 494), none, some (some 495), none, none, none, some (some 496), some (some 497), some (some 498), some (some 499), some (some 500), none, some (some 501), some (some 502), some (some 503), none, some (some 504), some (some 505), some (some 506), some (some 507), some (some 508), none, some (some 509), some (some 510), some (some 511), some (some 512), some (some 513), some (some 514), some (some 515), some (some 516), some (some 517), some (some 518), none, none, some (some 519), none, some (some 520), none, none, none, some (some 521), some (some 522), some (some 523), some (some 524), some (some 525), some (some 526), some (some 527), none, some (some 528), none, some (some 529), none, some (some 530), some (some 531), some (some 532), none, some (some 533), some (some 534), some (some 535), some (some 536), some (some 537), none, none, none, some (some 538), some (some 539), some (some 540), none, none, none, some (some 541), none, none, some (some 542), some (some 543), some (some 544), none, some (some 545)]) (As := [.int xa1, .int xa2]) (st := st) rfl (hS _ _ zs_491) (c_M_token hS h) (zgV zk_ml_L_60 zk_im_yX12_token zk_se_yX12_token zk_in_12 zk_cd_yX12_token) zsg_yX12_token hR rfl rfl hw hd hf kk
