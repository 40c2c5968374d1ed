theorem zv_L_82t {p : Program} {l : Launch} {e : Env} {R : Room} {s : State} {m : MethodId} {args : Array Value} {below : List Frame} {meth : Method} {c : Code} {Q : State → Prop} {D : va_G} {B : Nat} {cA : Nat → ClassId} {ad : Nat → Nat} {cc : ByteArray} {nL : Nat} {ret : Option FieldType} {S : List zC} {I : zI} {lv : List (Nat × Value)} {st : List Value} {pc cells slots : Nat} (C : zCx p s m args meth c cc nL RL ret D B cA ad) {K : Int32 → Prop}  (hS : zOkX S)  (h : w_Desk_runs I K) (hR : 0 + 1 ≤ R.frames ∧ 8 + (1 + 11) + (0) ≤ R.locals) (hw : (st.map fun v => v.category).sum ≤ 8) (hd : decode cc pc = .ok (.invokevirtual 82, 3)) (hf : cells ≤ R.cells ∧ slots ≤ R.slots) (kk : ∀ v, K v → zX p l e R s m args below meth c Q D B cA nL cells slots S I lv (.int v :: st) (pc + 3)) : zX p l e R s m args below meth c Q D B cA nL cells slots S I lv (.ref (B + 0) :: st) pc :=
  zc_VpI C (ci := 11) (q := (RX11, TX11, 19)) (k := 0) (fs := [some (some 1), none, some (some 3), some (some 4), none, none, none, none, some (some 22), some (some 24), some (some 43), some (some 64), some (some 69), some (some 88), some (some 97), some (some 100), some (some 109), some (some 111), none]) (As := []) (st := st) rfl (hS _ _ zs_0) (c_Desk_runs hS h) (zgV zk_ml_L_82 zk_im_yX11_runs zk_se_yX11_runs zk_in_11 zk_cd_yX11_runs) zsg_yX11_runs hR rfl rfl hw hd hf kk
theorem zv_L_157t {p : Program} {l : Launch} {e : Env} {R : Room} {s : State} {m : MethodId} {args : Array Value} {below : List Frame} {meth : Method} {c : Code} {Q : State → Prop} {D : va_G} {B : Nat} {cA : Nat → ClassId} {ad : Nat → Nat} {cc : ByteArray} {nL : Nat} {ret : Option FieldType} {S : List zC} {I : zI} {lv : List (Nat × Value)} {st : List Value} {pc cells slots : Nat} (C : zCx p s m args meth c cc nL RL ret D B cA ad) {K : Int32 → Prop} {xa1 : Int32} (hS : zOkX S)  (h : w_Desk_idle xa1 I K) (hR : 1 + 1 ≤ R.frames ∧ 8 + (2 + 11) + (21) ≤ R.locals) (hw : (st.map fun v => v.category).sum ≤ 8) (hd : decode cc pc = .ok (.invokevirtual 157, 3)) (hf : cells ≤ R.cells ∧ slots ≤ R.slots) (kk : ∀ v, K v → zX p l e R s m args below meth c Q D B cA nL cells slots S I lv (.int v :: st) (pc + 3)) : zX p l e R s m args below meth c Q D B cA nL cells slots S I lv (.int xa1 :: .ref (B + 0) :: st) pc :=
  zc_VpI C (ci := 11) (q := (RX11, TX11, 19)) (k := 0) (fs := [some (some 1), none, some (some 3), some (some 4), none, none, none, none, some (some 22), some (some 24), some (some 43), some (some 64), some (some 69), some (some 88), some (some 97), some (some 100), some (some 109), some (some 111), none]) (As := [.int xa1]) (st := st) rfl (hS _ _ zs_0) (c_Desk_idle hS h) (zgV zk_ml_L_157 zk_im_yX11_idle zk_se_yX11_idle zk_in_11 zk_cd_yX11_idle) zsg_yX11_idle hR rfl rfl hw hd hf kk
theorem zv_L_160t {p : Program} {l : Launch} {e : Env} {R : Room} {s : State} {m : MethodId} {args : Array Value} {below : List Frame} {meth : Method} {c : Code} {Q : State → Prop} {D : va_G} {B : Nat} {cA : Nat → ClassId} {ad : Nat → Nat} {cc : ByteArray} {nL : Nat} {ret : Option FieldType} {S : List zC} {I : zI} {lv : List (Nat × Value)} {st : List Value} {pc cells slots : Nat} (C : zCx p s m args meth c cc nL RL ret D B cA ad) {S0 : List zC} {MC MS : Nat} {K : Int32 → List zC → zI → Prop} {xa1 : Nat} {xa1n : Nat} (g : zGo S0 MC MS S cells slots) (h : w_Law_replaced xa1 xa1n S I K) (hR : 19 + 1 ≤ R.frames ∧ 8 + (5 + 11) + 617 ≤ R.locals) (hw : (st.map fun v => v.category).sum ≤ 8) (hd : decode cc pc = .ok (.invokestatic 160, 3)) (hq : cells + 10 ≤ MC ∧ slots + 10000 ≤ MS) (kk : ∀ (v : Int32) (S2 : List zC) (I2 : zI), zGo S0 MC MS S2 (cells + 10) (slots + 10000) → K v S2 I2 → zX p l e R s m args below meth c Q D B cA nL (cells + 10) (slots + 10000) S2 I2 lv (.int v :: st) (pc + 3)) (hMC : R.cells = MC := by rfl) (hMS : R.slots = MS := by rfl) : zX p l e R s m args below meth c Q D B cA nL cells slots S I lv (.ref (B + xa1) :: .ref (B + 0) :: st) pc :=
  zc_SaI C (As := [.ref (B + 0), .ref (B + xa1)]) (st := st) (c_Law_replaced g.1 h) (zgM zk_cd_yL_replaced) zk_ml_L_160 zk_st_yL_replaced zk_in_L zsg_yL_replaced hR rfl rfl hw hd ⟨hMC.symm ▸ hq.1, hMS.symm ▸ hq.2⟩ (fun v S2 I2 hT hK => kk v S2 I2 (g.call hT hq.1 hq.2) hK)
theorem zv_L_141t {p : Program} {l : Launch} {e : Env} {R : Room} {s : State} {m : MethodId} {args : Array Value} {below : List Frame} {meth : Method} {c : Code} {Q : State → Prop} {D : va_G} {B : Nat} {cA : Nat → ClassId} {ad : Nat → Nat} {cc : ByteArray} {nL : Nat} {ret : Option FieldType} {S : List zC} {I : zI} {lv : List (Nat × Value)} {st : List Value} {pc cells slots : Nat} (C : zCx p s m args meth c cc nL RL ret D B cA ad) {S0 : List zC} {MC MS : Nat} {K : Int32 → List zC → zI → Prop}  (g : zGo S0 MC MS S cells slots) (h : w_Law_stands S I K) (hR : 5 + 1 ≤ R.frames ∧ 8 + (14 + 11) + 111 ≤ R.locals) (hw : (st.map fun v => v.category).sum ≤ 8) (hd : decode cc pc = .ok (.invokestatic 141, 3)) (hq : cells + 500 ≤ MC ∧ slots + 3000 ≤ MS) (kk : ∀ (v : Int32) (S2 : List zC) (I2 : zI), zGo S0 MC MS S2 (cells + 500) (slots + 3000) → K v S2 I2 → zX p l e R s m args below meth c Q D B cA nL (cells + 500) (slots + 3000) S2 I2 lv (.int v :: st) (pc + 3)) (hMC : R.cells = MC := by rfl) (hMS : R.slots = MS := by rfl) : zX p l e R s m args below meth c Q D B cA nL cells slots S I lv (.ref (B + 0) :: st) pc :=
  zc_SaI C (As := [.ref (B + 0)]) (st := st) (c_Law_stands g.1 h) (zgM zk_cd_yL_stands) zk_ml_L_141 zk_st_yL_stands zk_in_L zsg_yL_stands hR rfl rfl hw hd ⟨hMC.symm ▸ hq.1, hMS.symm ▸ hq.2⟩ (fun v S2 I2 hT hK => kk v S2 I2 (g.call hT hq.1 hq.2) hK)
theorem zv_L_108t {p : Program} {l : Launch} {e : Env} {R : Room} {s : State} {m : MethodId} {args : Array Value} {below : List Frame} {meth : Method} {c : Code} {Q : State → Prop} {D : va_G} {B : Nat} {cA : Nat → ClassId} {ad : Nat → Nat} {cc : ByteArray} {nL : Nat} {ret : Option FieldType} {S : List zC} {I : zI} {lv : List (Nat × Value)} {st : List Value} {pc cells slots : Nat} (C : zCx p s m args meth c cc nL RL ret D B cA ad) {K : Int32 → Prop} {xa1 : Int32} {xa2 : Int32} (hS : zOkX S)  (h : w_Desk_token xa1 xa2 I K) (hR : 1 + 1 ≤ R.frames ∧ 8 + (4 + 11) + (21) ≤ R.locals) (hw : (st.map fun v => v.category).sum ≤ 8) (hd : decode cc pc = .ok (.invokevirtual 108, 3)) (hf : cells ≤ R.cells ∧ slots ≤ R.slots) (kk : ∀ v, K v → zX p l e R s m args below meth c Q D B cA nL cells slots S I lv (.int v :: st) (pc + 3)) : zX p l e R s m args below meth c Q D B cA nL cells slots S I lv (.int xa2 :: .int xa1 :: .ref (B + 0) :: st) pc :=
  zc_VpI C (ci := 11) (q := (RX11, TX11, 19)) (k := 0) (fs := [some (some 1), none, some (some 3), some (some 4), none, none, none, none, some (some 22), some (some 24), some (some 43), some (some 64), some (some 69), some (some 88), some (some 97), some (some 100), some (some 109), some (some 111), none]) (As := [.int xa1, .int xa2]) (st := st) rfl (hS _ _ zs_0) (c_Desk_token hS h) (zgV zk_ml_L_108 zk_im_yX11_token zk_se_yX11_token zk_in_11 zk_cd_yX11_token) zsg_yX11_token hR rfl rfl hw hd hf kk
theorem zv_L_111t {p : Program} {l : Launch} {e : Env} {R : Room} {s : State} {m : MethodId} {args : Array Value} {below : List Frame} {meth : Method} {c : Code} {Q : State → Prop} {D : va_G} {B : Nat} {cA : Nat → ClassId} {ad : Nat → Nat} {cc : ByteArray} {nL : Nat} {ret : Option FieldType} {S : List zC} {I : zI} {lv : List (Nat × Value)} {st : List Value} {pc cells slots : Nat} (C : zCx p s m args meth c cc nL RL ret D B cA ad) {K : Int32 → Prop} {xa1 : Int32} (hS : zOkX S)  (h : w_Desk_value xa1 I K) (hR : 2 + 1 ≤ R.frames ∧ 8 + (2 + 11) + (43) ≤ R.locals) (hw : (st.map fun v => v.category).sum ≤ 8) (hd : decode cc pc = .ok (.invokevirtual 111, 3)) (hf : cells ≤ R.cells ∧ slots ≤ R.slots) (kk : ∀ v, K v → zX p l e R s m args below meth c Q D B cA nL cells slots S I lv (.int v :: st) (pc + 3)) : zX p l e R s m args below meth c Q D B cA nL cells slots S I lv (.int xa1 :: .ref (B + 0) :: st) pc :=
  zc_VpI C (ci := 11) (q := (RX11, TX11, 19)) (k := 0) (fs := [some (some 1), none, some (some 3), some (some 4), none, none, none, none, some (some 22), some (some 24), some (some 43), some (some 64), some (some 69), some (some 88), some (some 97), some (some 100), some (some 109), some (some 111), none]) (As := [.int xa1]) (st := st) rfl (hS _ _ zs_0) (c_Desk_value hS h) (zgV zk_ml_L_111 zk_im_yX11_value zk_se_yX11_value zk_in_11 zk_cd_yX11_value) zsg_yX11_value hR rfl rfl hw hd hf kk
theorem zv_L_154t {p : Program} {l : Launch} {e : Env} {R : Room} {s : State} {m : MethodId} {args : Array Value} {below : List Frame} {meth : Method} {c : Code} {Q : State → Prop} {D : va_G} {B : Nat} {cA : Nat → ClassId} {ad : Nat → Nat} {cc : ByteArray} {nL : Nat} {ret : Option FieldType} {S : List zC} {I : zI} {lv : List (Nat × Value)} {st : List Value} {pc cells slots : Nat} (C : zCx p s m args meth c cc nL RL ret D B cA ad) {K : Int32 → Prop} {xa1 : Int32} (hS : zOkX S)  (h : w_Desk_print xa1 I K) (hR : 1 + 1 ≤ R.frames ∧ 8 + (2 + 11) + (21) ≤ R.locals) (hw : (st.map fun v => v.category).sum ≤ 8) (hd : decode cc pc = .ok (.invokevirtual 154, 3)) (hf : cells ≤ R.cells ∧ slots ≤ R.slots) (kk : ∀ v, K v → zX p l e R s m args below meth c Q D B cA nL cells slots S I lv (.int v :: st) (pc + 3)) : zX p l e R s m args below meth c Q D B cA nL cells slots S I lv (.int xa1 :: .ref (B + 0) :: st) pc :=
  zc_VpI C (ci := 11) (q := (RX11, TX11, 19)) (k := 0) (fs := [some (some 1), none, some (some 3), some (some 4), none, none, none, none, some (some 22), some (some 24), some (some 43), some (some 64), some (some 69), some (some 88), some (some 97), some (some 100), some (some 109), some (some 111), none]) (As := [.int xa1]) (st := st) rfl (hS _ _ zs_0) (c_Desk_print hS h) (zgV zk_ml_L_154 zk_im_yX11_print zk_se_yX11_print zk_in_11 zk_cd_yX11_print) zsg_yX11_print hR rfl rfl hw hd hf kk
theorem zv_L_89t {p : Program} {l : Launch} {e : Env} {R : Room} {s : State} {m : MethodId} {args : Array Value} {below : List Frame} {meth : Method} {c : Code} {Q : State → Prop} {D : va_G} {B : Nat} {cA : Nat → ClassId} {ad : Nat → Nat} {cc : ByteArray} {nL : Nat} {ret : Option FieldType} {S : List zC} {I : zI} {lv : List (Nat × Value)} {st : List Value} {pc cells slots : Nat} (C : zCx p s m args meth c cc nL RL ret D B cA ad) {K : Int32 → zI → Prop}  (hS : zOkX S)  (h : w_Desk_undo I K) (hR : 6 + 1 ≤ R.frames ∧ 8 + (1 + 11) + (141) ≤ R.locals) (hw : (st.map fun v => v.category).sum ≤ 8) (hd : decode cc pc = .ok (.invokevirtual 89, 3)) (hf : cells ≤ R.cells ∧ slots ≤ R.slots) (kk : ∀ v I2, K v I2 → zX p l e R s m args below meth c Q D B cA nL cells slots S I2 lv (.int v :: st) (pc + 3)) : zX p l e R s m args below meth c Q D B cA nL cells slots S I lv (.ref (B + 0) :: st) pc :=
  zc_VqI C (ci := 11) (q := (RX11, TX11, 19)) (k := 0) (fs := [some (some 1), none, some (some 3), some (some 4), none, none, none, none, some (some 22), some (some 24), some (some 43), some (some 64), some (some 69), some (some 88), some (some 97), some (some 100), some (some 109), some (some 111), none]) (As := []) (st := st) rfl (hS _ _ zs_0) (c_Desk_undo hS h) (zgV zk_ml_L_89 zk_im_yX11_undo zk_se_yX11_undo zk_in_11 zk_cd_yX11_undo) zsg_yX11_undo hR rfl rfl hw hd hf kk
theorem zv_L_86t {p : Program} {l : Launch} {e : Env} {R : Room} {s : State} {m : MethodId} {args : Array Value} {below : List Frame} {meth : Method} {c : Code} {Q : State → Prop} {D : va_G} {B : Nat} {cA : Nat → ClassId} {ad : Nat → Nat} {cc : ByteArray} {nL : Nat} {ret : Option FieldType} {S : List zC} {I : zI} {lv : List (Nat × Value)} {st : List Value} {pc cells slots : Nat} (C : zCx p s m args meth c cc nL RL ret D B cA ad) {S0 : List zC} {MC MS : Nat} {K : Nat → Nat → List zC → zI → Prop}  (g : zGo S0 MC MS S cells slots) (h : w_Law_text S I K) (hR : 5 + 1 ≤ R.frames ∧ 8 + (3 + 11) + 111 ≤ R.locals) (hw : (st.map fun v => v.category).sum ≤ 8) (hd : decode cc pc = .ok (.invokestatic 86, 3)) (hq : cells + 1 ≤ MC ∧ slots + 400 ≤ MS) (kk : ∀ (k n : Nat) (S2 : List zC) (I2 : zI), zGo S0 MC MS S2 (cells + 1) (slots + 400) → K k n S2 I2 → zX p l e R s m args below meth c Q D B cA nL (cells + 1) (slots + 400) S2 I2 lv (.ref (B + k) :: st) (pc + 3)) (hMC : R.cells = MC := by rfl) (hMS : R.slots = MS := by rfl) : zX p l e R s m args below meth c Q D B cA nL cells slots S I lv (.ref (B + 0) :: st) pc :=
  zc_SaA C (As := [.ref (B + 0)]) (st := st) (c_Law_text g.1 h) (zgM zk_cd_yL_text) zk_ml_L_86 zk_st_yL_text zk_in_L zsg_yL_text hR rfl rfl hw hd ⟨hMC.symm ▸ hq.1, hMS.symm ▸ hq.2⟩ (fun k n S2 I2 hT hK => kk k n S2 I2 (g.call hT hq.1 hq.2) hK)
theorem zv_L_145t {p : Program} {l : Launch} {e : Env} {R : Room} {s : State} {m : MethodId} {args : Array Value} {below : List Frame} {meth : Method} {c : Code} {Q : State → Prop} {D : va_G} {B : Nat} {cA : Nat → ClassId} {ad : Nat → Nat} {cc : ByteArray} {nL : Nat} {ret : Option FieldType} {S : List zC} {I : zI} {lv : List (Nat × Value)} {st : List Value} {pc cells slots : Nat} (C : zCx p s m args meth c cc nL RL ret D B cA ad) {K : Int32 → zI → Prop} {xa1 : Int32} (hS : zOkX S)  (h : w_Desk_inTheWay xa1 I K) (hR : 5 + 1 ≤ R.frames ∧ 8 + (3 + 11) + (129) ≤ R.locals) (hw : (st.map fun v => v.category).sum ≤ 8) (hd : decode cc pc = .ok (.invokevirtual 145, 3)) (hf : cells ≤ R.cells ∧ slots ≤ R.slots) (kk : ∀ v I2, K v I2 → zX p l e R s m args below meth c Q D B cA nL cells slots S I2 lv (.int v :: st) (pc + 3)) : zX p l e R s m args below meth c Q D B cA nL cells slots S I lv (.int xa1 :: .ref (B + 0) :: st) pc :=
  zc_VqI C (ci := 11) (q := (RX11, TX11, 19)) (k := 0) (fs := [some (some 1), none, some (some 3), some (some 4), none, none, none, none, some (some 22), some (some 24), some (some 43), some (some 64), some (some 69), some (some 88), some (some 97), some (some 100), some (some 109), some (some 111), none]) (As := [.int xa1]) (st := st) rfl (hS _ _ zs_0) (c_Desk_inTheWay hS h) (zgV zk_ml_L_145 zk_im_yX11_inTheWay zk_se_yX11_inTheWay zk_in_11 zk_cd_yX11_inTheWay) zsg_yX11_inTheWay hR rfl rfl hw hd hf kk
theorem zv_L_127t {p : Program} {l : Launch} {e : Env} {R : Room} {s : State} {m : MethodId} {args : Array Value} {below : List Frame} {meth : Method} {c : Code} {Q : State → Prop} {D : va_G} {B : Nat} {cA : Nat → ClassId} {ad : Nat → Nat} {cc : ByteArray} {nL : Nat} {ret : Option FieldType} {S : List zC} {I : zI} {lv : List (Nat × Value)} {st : List Value} {pc cells slots : Nat} (C : zCx p s m args meth c cc nL RL ret D B cA ad) {S0 : List zC} {MC MS : Nat} {K : Nat → Nat → List zC → zI → Prop} {xa0 : Nat} {xa0n : Nat} (g : zGo S0 MC MS S cells slots) (h : w_Law_cut xa0 xa0n S I K) (hR : 1 + 1 ≤ R.frames ∧ 8 + (9 + 11) + 20 ≤ R.locals) (hw : (st.map fun v => v.category).sum ≤ 8) (hd : decode cc pc = .ok (.invokestatic 127, 3)) (hq : cells + 500 ≤ MC ∧ slots + 3000 ≤ MS) (kk : ∀ (k n : Nat) (S2 : List zC) (I2 : zI), zGo S0 MC MS S2 (cells + 500) (slots + 3000) → K k n S2 I2 → zX p l e R s m args below meth c Q D B cA nL (cells + 500) (slots + 3000) S2 I2 lv (.ref (B + k) :: st) (pc + 3)) (hMC : R.cells = MC := by rfl) (hMS : R.slots = MS := by rfl) : zX p l e R s m args below meth c Q D B cA nL cells slots S I lv (.ref (B + xa0) :: st) pc :=
  zc_SaA C (As := [.ref (B + xa0)]) (st := st) (c_Law_cut g.1 h) (zgM zk_cd_yL_cut) zk_ml_L_127 zk_st_yL_cut zk_in_L zsg_yL_cut hR rfl rfl hw hd ⟨hMC.symm ▸ hq.1, hMS.symm ▸ hq.2⟩ (fun k n S2 I2 hT hK => kk k n S2 I2 (g.call hT hq.1 hq.2) hK)
theorem zv_L_130t {p : Program} {l : Launch} {e : Env} {R : Room} {s : State} {m : MethodId} {args : Array Value} {below : List Frame} {meth : Method} {c : Code} {Q : State → Prop} {D : va_G} {B : Nat} {cA : Nat → ClassId} {ad : Nat → Nat} {cc : ByteArray} {nL : Nat} {ret : Option FieldType} {S : List zC} {I : zI} {lv : List (Nat × Value)} {st : List Value} {pc cells slots : Nat} (C : zCx p s m args meth c cc nL RL ret D B cA ad) {S0 : List zC} {MC MS : Nat} {K : Nat → Nat → List zC → zI → Prop} {xa0 : Nat} {xa0n : Nat} (g : zGo S0 MC MS S cells slots) (h : w_Law_kinds xa0 xa0n S I K) (hR : 0 + 1 ≤ R.frames ∧ 8 + (3 + 11) + 0 ≤ R.locals) (hw : (st.map fun v => v.category).sum ≤ 8) (hd : decode cc pc = .ok (.invokestatic 130, 3)) (hq : cells + 1 ≤ MC ∧ slots + 400 ≤ MS) (kk : ∀ (k n : Nat) (S2 : List zC) (I2 : zI), zGo S0 MC MS S2 (cells + 1) (slots + 400) → K k n S2 I2 → zX p l e R s m args below meth c Q D B cA nL (cells + 1) (slots + 400) S2 I2 lv (.ref (B + k) :: st) (pc + 3)) (hMC : R.cells = MC := by rfl) (hMS : R.slots = MS := by rfl) : zX p l e R s m args below meth c Q D B cA nL cells slots S I lv (.ref (B + xa0) :: st) pc :=
  zc_SaA C (As := [.ref (B + xa0)]) (st := st) (c_Law_kinds g.1 h) (zgM zk_cd_yL_kinds) zk_ml_L_130 zk_st_yL_kinds zk_in_L zsg_yL_kinds hR rfl rfl hw hd ⟨hMC.symm ▸ hq.1, hMS.symm ▸ hq.2⟩ (fun k n S2 I2 hT hK => kk k n S2 I2 (g.call hT hq.1 hq.2) hK)
theorem zv_L_148t {p : Program} {l : Launch} {e : Env} {R : Room} {s : State} {m : MethodId} {args : Array Value} {below : List Frame} {meth : Method} {c : Code} {Q : State → Prop} {D : va_G} {B : Nat} {cA : Nat → ClassId} {ad : Nat → Nat} {cc : ByteArray} {nL : Nat} {ret : Option FieldType} {S : List zC} {I : zI} {lv : List (Nat × Value)} {st : List Value} {pc cells slots : Nat} (C : zCx p s m args meth c cc nL RL ret D B cA ad) {K : Int32 → zI → Prop} {xa1 : Int32} (hS : zOkX S)  (h : w_Desk_mend xa1 I K) (hR : 5 + 1 ≤ R.frames ∧ 8 + (3 + 11) + (128) ≤ R.locals) (hw : (st.map fun v => v.category).sum ≤ 8) (hd : decode cc pc = .ok (.invokevirtual 148, 3)) (hf : cells ≤ R.cells ∧ slots ≤ R.slots) (kk : ∀ v I2, K v I2 → zX p l e R s m args below meth c Q D B cA nL cells slots S I2 lv (.int v :: st) (pc + 3)) : zX p l e R s m args below meth c Q D B cA nL cells slots S I lv (.int xa1 :: .ref (B + 0) :: st) pc :=
  zc_VqI C (ci := 11) (q := (RX11, TX11, 19)) (k := 0) (fs := [some (some 1), none, some (some 3), some (some 4), none, none, none, none, some (some 22), some (some 24), some (some 43), some (some 64), some (some 69), some (some 88), some (some 97), some (some 100), some (some 109), some (some 111), none]) (As := [.int xa1]) (st := st) rfl (hS _ _ zs_0) (c_Desk_mend hS h) (zgV zk_ml_L_148 zk_im_yX11_mend zk_se_yX11_mend zk_in_11 zk_cd_yX11_mend) zsg_yX11_mend hR rfl rfl hw hd hf kk
theorem zv_L_151t {p : Program} {l : Launch} {e : Env} {R : Room} {s : State} {m : MethodId} {args : Array Value} {below : List Frame} {meth : Method} {c : Code} {Q : State → Prop} {D : va_G} {B : Nat} {cA : Nat → ClassId} {ad : Nat → Nat} {cc : ByteArray} {nL : Nat} {ret : Option FieldType} {S : List zC} {I : zI} {lv : List (Nat × Value)} {st : List Value} {pc cells slots : Nat} (C : zCx p s m args meth c cc nL RL ret D B cA ad) {K : Int32 → zI → Prop}  (hS : zOkX S)  (h : w_Desk_expected I K) (hR : 6 + 1 ≤ R.frames ∧ 8 + (2 + 11) + (149) ≤ R.locals) (hw : (st.map fun v => v.category).sum ≤ 8) (hd : decode cc pc = .ok (.invokevirtual 151, 3)) (hf : cells ≤ R.cells ∧ slots ≤ R.slots) (kk : ∀ v I2, K v I2 → zX p l e R s m args below meth c Q D B cA nL cells slots S I2 lv (.int v :: st) (pc + 3)) : zX p l e R s m args below meth c Q D B cA nL cells slots S I lv (.ref (B + 0) :: st) pc :=
  zc_VqI C (ci := 11) (q := (RX11, TX11, 19)) (k := 0) (fs := [some (some 1), none, some (some 3), some (some 4), none, none, none, none, some (some 22), some (some 24), some (some 43), some (some 64), some (some 69), some (some 88), some (some 97), some (some 100), some (some 109), some (some 111), none]) (As := []) (st := st) rfl (hS _ _ zs_0) (c_Desk_expected hS h) (zgV zk_ml_L_151 zk_im_yX11_expected zk_se_yX11_expected zk_in_11 zk_cd_yX11_expected) zsg_yX11_expected hR rfl rfl hw hd hf kk
theorem zv_L_134t {p : Program} {l : Launch} {e : Env} {R : Room} {s : State} {m : MethodId} {args : Array Value} {below : List Frame} {meth : Method} {c : Code} {Q : State → Prop} {D : va_G} {B : Nat} {cA : Nat → ClassId} {ad : Nat → Nat} {cc : ByteArray} {nL : Nat} {ret : Option FieldType} {S : List zC} {I : zI} {lv : List (Nat × Value)} {st : List Value} {pc cells slots : Nat} (C : zCx p s m args meth c cc nL RL ret D B cA ad) {K : Int32 → Prop} {xa0 : Nat} {xa0n : Nat} (hS : zOkX S) (h : w_Law_wrong xa0 xa0n S I K) (hR : 0 + 1 ≤ R.frames ∧ 8 + (6 + 11) + 0 ≤ R.locals) (hw : (st.map fun v => v.category).sum ≤ 8) (hd : decode cc pc = .ok (.invokestatic 134, 3)) (hf : cells ≤ R.cells ∧ slots ≤ R.slots) (kk : ∀ v, K v → zX p l e R s m args below meth c Q D B cA nL cells slots S I lv (.int v :: st) (pc + 3)) : zX p l e R s m args below meth c Q D B cA nL cells slots S I lv (.ref (B + xa0) :: st) pc :=
  zc_SpI C (As := [.ref (B + xa0)]) (st := st) (c_Law_wrong hS h) (zgM zk_cd_yL_wrong) zk_ml_L_134 zk_st_yL_wrong zk_in_L zsg_yL_wrong hR rfl rfl hw hd hf kk
theorem zv_L_93t {p : Program} {l : Launch} {e : Env} {R : Room} {s : State} {m : MethodId} {args : Array Value} {below : List Frame} {meth : Method} {c : Code} {Q : State → Prop} {D : va_G} {B : Nat} {cA : Nat → ClassId} {ad : Nat → Nat} {cc : ByteArray} {nL : Nat} {ret : Option FieldType} {S : List zC} {I : zI} {lv : List (Nat × Value)} {st : List Value} {pc cells slots : Nat} (C : zCx p s m args meth c cc nL RL ret D B cA ad) {K : Int32 → zI → Prop}  (hS : zOkX S)  (h : w_Desk_redo I K) (hR : 6 + 1 ≤ R.frames ∧ 8 + (1 + 11) + (141) ≤ R.locals) (hw : (st.map fun v => v.category).sum ≤ 8) (hd : decode cc pc = .ok (.invokevirtual 93, 3)) (hf : cells ≤ R.cells ∧ slots ≤ R.slots) (kk : ∀ v I2, K v I2 → zX p l e R s m args below meth c Q D B cA nL cells slots S I2 lv (.int v :: st) (pc + 3)) : zX p l e R s m args below meth c Q D B cA nL cells slots S I lv (.ref (B + 0) :: st) pc :=
  zc_VqI C (ci := 11) (q := (RX11, TX11, 19)) (k := 0) (fs := [some (some 1), none, some (some 3), some (some 4), none, none, none, none, some (some 22), some (some 24), some (some 43), some (some 64), some (some 69), some (some 88), some (some 97), some (some 100), some (some 109), some (some 111), none]) (As := []) (st := st) rfl (hS _ _ zs_0) (c_Desk_redo hS h) (zgV zk_ml_L_93 zk_im_yX11_redo zk_se_yX11_redo zk_in_11 zk_cd_yX11_redo) zsg_yX11_redo hR rfl rfl hw hd hf kk
theorem zv_L_138t {p : Program} {l : Launch} {e : Env} {R : Room} {s : State} {m : MethodId} {args : Array Value} {below : List Frame} {meth : Method} {c : Code} {Q : State → Prop} {D : va_G} {B : Nat} {cA : Nat → ClassId} {ad : Nat → Nat} {cc : ByteArray} {nL : Nat} {ret : Option FieldType} {S : List zC} {I : zI} {lv : List (Nat × Value)} {st : List Value} {pc cells slots : Nat} (C : zCx p s m args meth c cc nL RL ret D B cA ad) {K : Int32 → Prop} {xa1 : Int32} (hS : zOkX S)  (h : w_Desk_last xa1 I K) (hR : 1 + 1 ≤ R.frames ∧ 8 + (2 + 11) + (21) ≤ R.locals) (hw : (st.map fun v => v.category).sum ≤ 8) (hd : decode cc pc = .ok (.invokevirtual 138, 3)) (hf : cells ≤ R.cells ∧ slots ≤ R.slots) (kk : ∀ v, K v → zX p l e R s m args below meth c Q D B cA nL cells slots S I lv (.int v :: st) (pc + 3)) : zX p l e R s m args below meth c Q D B cA nL cells slots S I lv (.int xa1 :: .ref (B + 0) :: st) pc :=
  zc_VpI C (ci := 11) (q := (RX11, TX11, 19)) (k := 0) (fs := [some (some 1), none, some (some 3), some (some 4), none, none, none, none, some (some 22), some (some 24), some (some 43), some (some 64), some (some 69), some (some 88), some (some 97), some (some 100), some (some 109), some (some 111), none]) (As := [.int xa1]) (st := st) rfl (hS _ _ zs_0) (c_Desk_last hS h) (zgV zk_ml_L_138 zk_im_yX11_last zk_se_yX11_last zk_in_11 zk_cd_yX11_last) zsg_yX11_last hR rfl rfl hw hd hf kk
theorem zv_L_99t {p : Program} {l : Launch} {e : Env} {R : Room} {s : State} {m : MethodId} {args : Array Value} {below : List Frame} {meth : Method} {c : Code} {Q : State → Prop} {D : va_G} {B : Nat} {cA : Nat → ClassId} {ad : Nat → Nat} {cc : ByteArray} {nL : Nat} {ret : Option FieldType} {S : List zC} {I : zI} {lv : List (Nat × Value)} {st : List Value} {pc cells slots : Nat} (C : zCx p s m args meth c cc nL RL ret D B cA ad) {K : Int32 → zI → Prop} {xa1 : Int32} (hS : zOkX S)  (h : w_Desk_cut xa1 I K) (hR : 18 + 1 ≤ R.frames ∧ 8 + (3 + 11) + (594) ≤ R.locals) (hw : (st.map fun v => v.category).sum ≤ 8) (hd : decode cc pc = .ok (.invokevirtual 99, 3)) (hf : cells ≤ R.cells ∧ slots ≤ R.slots) (kk : ∀ v I2, K v I2 → zX p l e R s m args below meth c Q D B cA nL cells slots S I2 lv (.int v :: st) (pc + 3)) : zX p l e R s m args below meth c Q D B cA nL cells slots S I lv (.int xa1 :: .ref (B + 0) :: st) pc :=
  zc_VqI C (ci := 11) (q := (RX11, TX11, 19)) (k := 0) (fs := [some (some 1), none, some (some 3), some (some 4), none, none, none, none, some (some 22), some (some 24), some (some 43), some (some 64), some (some 69), some (some 88), some (some 97), some (some 100), some (some 109), some (some 111), none]) (As := [.int xa1]) (st := st) rfl (hS _ _ zs_0) (c_Desk_cut hS h) (zgV zk_ml_L_99 zk_im_yX11_cut zk_se_yX11_cut zk_in_11 zk_cd_yX11_cut) zsg_yX11_cut hR rfl rfl hw hd hf kk
theorem zv_L_96t {p : Program} {l : Launch} {e : Env} {R : Room} {s : State} {m : MethodId} {args : Array Value} {below : List Frame} {meth : Method} {c : Code} {Q : State → Prop} {D : va_G} {B : Nat} {cA : Nat → ClassId} {ad : Nat → Nat} {cc : ByteArray} {nL : Nat} {ret : Option FieldType} {S : List zC} {I : zI} {lv : List (Nat × Value)} {st : List Value} {pc cells slots : Nat} (C : zCx p s m args meth c cc nL RL ret D B cA ad) {K : Int32 → Prop} {xa1 : Int32} (hS : zOkX S)  (h : w_Desk_run xa1 I K) (hR : 1 + 1 ≤ R.frames ∧ 8 + (2 + 11) + (21) ≤ R.locals) (hw : (st.map fun v => v.category).sum ≤ 8) (hd : decode cc pc = .ok (.invokevirtual 96, 3)) (hf : cells ≤ R.cells ∧ slots ≤ R.slots) (kk : ∀ v, K v → zX p l e R s m args below meth c Q D B cA nL cells slots S I lv (.int v :: st) (pc + 3)) : zX p l e R s m args below meth c Q D B cA nL cells slots S I lv (.int xa1 :: .ref (B + 0) :: st) pc :=
  zc_VpI C (ci := 11) (q := (RX11, TX11, 19)) (k := 0) (fs := [some (some 1), none, some (some 3), some (some 4), none, none, none, none, some (some 22), some (some 24), some (some 43), some (some 64), some (some 69), some (some 88), some (some 97), some (some 100), some (some 109), some (some 111), none]) (As := [.int xa1]) (st := st) rfl (hS _ _ zs_0) (c_Desk_run hS h) (zgV zk_ml_L_96 zk_im_yX11_run zk_se_yX11_run zk_in_11 zk_cd_yX11_run) zsg_yX11_run hR rfl rfl hw hd hf kk
theorem zv_L_102t {p : Program} {l : Launch} {e : Env} {R : Room} {s : State} {m : MethodId} {args : Array Value} {below : List Frame} {meth : Method} {c : Code} {Q : State → Prop} {D : va_G} {B : Nat} {cA : Nat → ClassId} {ad : Nat → Nat} {cc : ByteArray} {nL : Nat} {ret : Option FieldType} {S : List zC} {I : zI} {lv : List (Nat × Value)} {st : List Value} {pc cells slots : Nat} (C : zCx p s m args meth c cc nL RL ret D B cA ad) {K : Int32 → zI → Prop} {xa1 : Int32} (hS : zOkX S)  (h : w_Desk_twin xa1 I K) (hR : 18 + 1 ≤ R.frames ∧ 8 + (3 + 11) + (594) ≤ R.locals) (hw : (st.map fun v => v.category).sum ≤ 8) (hd : decode cc pc = .ok (.invokevirtual 102, 3)) (hf : cells ≤ R.cells ∧ slots ≤ R.slots) (kk : ∀ v I2, K v I2 → zX p l e R s m args below meth c Q D B cA nL cells slots S I2 lv (.int v :: st) (pc + 3)) : zX p l e R s m args below meth c Q D B cA nL cells slots S I lv (.int xa1 :: .ref (B + 0) :: st) pc :=
  zc_VqI C (ci := 11) (q := (RX11, TX11, 19)) (k := 0) (fs := [some (some 1), none, some (some 3), some (some 4), none, none, none, none, some (some 22), some (some 24), some (some 43), some (some 64), some (some 69), some (some 88), some (some 97), some (some 100), some (some 109), some (some 111), none]) (As := [.int xa1]) (st := st) rfl (hS _ _ zs_0) (c_Desk_twin hS h) (zgV zk_ml_L_102 zk_im_yX11_twin zk_se_yX11_twin zk_in_11 zk_cd_yX11_twin) zsg_yX11_twin hR rfl rfl hw hd hf kk
theorem zv_L_105t {p : Program} {l : Launch} {e : Env} {R : Room} {s : State} {m : MethodId} {args : Array Value} {below : List Frame} {meth : Method} {c : Code} {Q : State → Prop} {D : va_G} {B : Nat} {cA : Nat → ClassId} {ad : Nat → Nat} {cc : ByteArray} {nL : Nat} {ret : Option FieldType} {S : List zC} {I : zI} {lv : List (Nat × Value)} {st : List Value} {pc cells slots : Nat} (C : zCx p s m args meth c cc nL RL ret D B cA ad) {K : Int32 → zI → Prop} {xa1 : Int32} (hS : zOkX S)  (h : w_Desk_swap xa1 I K) (hR : 18 + 1 ≤ R.frames ∧ 8 + (3 + 11) + (594) ≤ R.locals) (hw : (st.map fun v => v.category).sum ≤ 8) (hd : decode cc pc = .ok (.invokevirtual 105, 3)) (hf : cells ≤ R.cells ∧ slots ≤ R.slots) (kk : ∀ v I2, K v I2 → zX p l e R s m args below meth c Q D B cA nL cells slots S I2 lv (.int v :: st) (pc + 3)) : zX p l e R s m args below meth c Q D B cA nL cells slots S I lv (.int xa1 :: .ref (B + 0) :: st) pc :=
  zc_VqI C (ci := 11) (q := (RX11, TX11, 19)) (k := 0) (fs := [some (some 1), none, some (some 3), some (some 4), none, none, none, none, some (some 22), some (some 24), some (some 43), some (some 64), some (some 69), some (some 88), some (some 97), some (some 100), some (some 109), some (some 111), none]) (As := [.int xa1]) (st := st) rfl (hS _ _ zs_0) (c_Desk_swap hS h) (zgV zk_ml_L_105 zk_im_yX11_swap zk_se_yX11_swap zk_in_11 zk_cd_yX11_swap) zsg_yX11_swap hR rfl rfl hw hd hf kk
theorem zv_L_114t {p : Program} {l : Launch} {e : Env} {R : Room} {s : State} {m : MethodId} {args : Array Value} {below : List Frame} {meth : Method} {c : Code} {Q : State → Prop} {D : va_G} {B : Nat} {cA : Nat → ClassId} {ad : Nat → Nat} {cc : ByteArray} {nL : Nat} {ret : Option FieldType} {S : List zC} {I : zI} {lv : List (Nat × Value)} {st : List Value} {pc cells slots : Nat} (C : zCx p s m args meth c cc nL RL ret D B cA ad) {K : Int32 → Prop} {xa1 : Int32} (hS : zOkX S)  (h : w_Desk_sets xa1 I K) (hR : 2 + 1 ≤ R.frames ∧ 8 + (2 + 11) + (43) ≤ R.locals) (hw : (st.map fun v => v.category).sum ≤ 8) (hd : decode cc pc = .ok (.invokevirtual 114, 3)) (hf : cells ≤ R.cells ∧ slots ≤ R.slots) (kk : ∀ v, K v → zX p l e R s m args below meth c Q D B cA nL cells slots S I lv (.int v :: st) (pc + 3)) : zX p l e R s m args below meth c Q D B cA nL cells slots S I lv (.int xa1 :: .ref (B + 0) :: st) pc :=
  zc_VpI C (ci := 11) (q := (RX11, TX11, 19)) (k := 0) (fs := [some (some 1), none, some (some 3), some (some 4), none, none, none, none, some (some 22), some (some 24), some (some 43), some (some 64), some (some 69), some (some 88), some (some 97), some (some 100), some (some 109), some (some 111), none]) (As := [.int xa1]) (st := st) rfl (hS _ _ zs_0) (c_Desk_sets hS h) (zgV zk_ml_L_114 zk_im_yX11_sets zk_se_yX11_sets zk_in_11 zk_cd_yX11_sets) zsg_yX11_sets hR rfl rfl hw hd hf kk
theorem zv_L_117t {p : Program} {l : Launch} {e : Env} {R : Room} {s : State} {m : MethodId} {args : Array Value} {below : List Frame} {meth : Method} {c : Code} {Q : State → Prop} {D : va_G} {B : Nat} {cA : Nat → ClassId} {ad : Nat → Nat} {cc : ByteArray} {nL : Nat} {ret : Option FieldType} {S : List zC} {I : zI} {lv : List (Nat × Value)} {st : List Value} {pc cells slots : Nat} (C : zCx p s m args meth c cc nL RL ret D B cA ad) {K : Int32 → Prop}  (hS : zOkX S)  (h : w_Desk_fresh I K) (hR : 0 + 1 ≤ R.frames ∧ 8 + (1 + 11) + (0) ≤ R.locals) (hw : (st.map fun v => v.category).sum ≤ 8) (hd : decode cc pc = .ok (.invokevirtual 117, 3)) (hf : cells ≤ R.cells ∧ slots ≤ R.slots) (kk : ∀ v, K v → zX p l e R s m args below meth c Q D B cA nL cells slots S I lv (.int v :: st) (pc + 3)) : zX p l e R s m args below meth c Q D B cA nL cells slots S I lv (.ref (B + 0) :: st) pc :=
  zc_VpI C (ci := 11) (q := (RX11, TX11, 19)) (k := 0) (fs := [some (some 1), none, some (some 3), some (some 4), none, none, none, none, some (some 22), some (some 24), some (some 43), some (some 64), some (some 69), some (some 88), some (some 97), some (some 100), some (some 109), some (some 111), none]) (As := []) (st := st) rfl (hS _ _ zs_0) (c_Desk_fresh hS h) (zgV zk_ml_L_117 zk_im_yX11_fresh zk_se_yX11_fresh zk_in_11 zk_cd_yX11_fresh) zsg_yX11_fresh hR rfl rfl hw hd hf kk
theorem zv_L_120t {p : Program} {l : Launch} {e : Env} {R : Room} {s : State} {m : MethodId} {args : Array Value} {below : List Frame} {meth : Method} {c : Code} {Q : State → Prop} {D : va_G} {B : Nat} {cA : Nat → ClassId} {ad : Nat → Nat} {cc : ByteArray} {nL : Nat} {ret : Option FieldType} {S : List zC} {I : zI} {lv : List (Nat × Value)} {st : List Value} {pc cells slots : Nat} (C : zCx p s m args meth c cc nL RL ret D B cA ad) {K : Int32 → zI → Prop} {xa1 : Int32} (hS : zOkX S)  (h : w_Desk_rename xa1 I K) (hR : 18 + 1 ≤ R.frames ∧ 8 + (5 + 11) + (594) ≤ R.locals) (hw : (st.map fun v => v.category).sum ≤ 8) (hd : decode cc pc = .ok (.invokevirtual 120, 3)) (hf : cells ≤ R.cells ∧ slots ≤ R.slots) (kk : ∀ v I2, K v I2 → zX p l e R s m args below meth c Q D B cA nL cells slots S I2 lv (.int v :: st) (pc + 3)) : zX p l e R s m args below meth c Q D B cA nL cells slots S I lv (.int xa1 :: .ref (B + 0) :: st) pc :=
  zc_VqI C (ci := 11) (q := (RX11, TX11, 19)) (k := 0) (fs := [some (some 1), none, some (some 3), some (some 4), none, none, none, none, some (some 22), some (some 24), some (some 43), some (some 64), some (some 69), some (some 88), some (some 97), some (some 100), some (some 109), some (some 111), none]) (As := [.int xa1]) (st := st) rfl (hS _ _ zs_0) (c_Desk_rename hS h) (zgV zk_ml_L_120 zk_im_yX11_rename zk_se_yX11_rename zk_in_11 zk_cd_yX11_rename) zsg_yX11_rename hR rfl rfl hw hd hf kk
theorem zv_L_123t {p : Program} {l : Launch} {e : Env} {R : Room} {s : State} {m : MethodId} {args : Array Value} {below : List Frame} {meth : Method} {c : Code} {Q : State → Prop} {D : va_G} {B : Nat} {cA : Nat → ClassId} {ad : Nat → Nat} {cc : ByteArray} {nL : Nat} {ret : Option FieldType} {S : List zC} {I : zI} {lv : List (Nat × Value)} {st : List Value} {pc cells slots : Nat} (C : zCx p s m args meth c cc nL RL ret D B cA ad) {S0 : List zC} {MC MS : Nat} {K : Nat → Nat → List zC → zI → Prop} {xa0 : Int32} {xa1 : Int32} (g : zGo S0 MC MS S cells slots) (h : w_Law_drawn xa0 xa1 S I K) (hR : 1 + 1 ≤ R.frames ∧ 8 + (8 + 11) + 23 ≤ R.locals) (hw : (st.map fun v => v.category).sum ≤ 8) (hd : decode cc pc = .ok (.invokestatic 123, 3)) (hq : cells + 9 ≤ MC ∧ slots + 4200 ≤ MS) (kk : ∀ (k n : Nat) (S2 : List zC) (I2 : zI), zGo S0 MC MS S2 (cells + 9) (slots + 4200) → K k n S2 I2 → zX p l e R s m args below meth c Q D B cA nL (cells + 9) (slots + 4200) S2 I2 lv (.ref (B + k) :: st) (pc + 3)) (hMC : R.cells = MC := by rfl) (hMS : R.slots = MS := by rfl) : zX p l e R s m args below meth c Q D B cA nL cells slots S I lv (.int xa1 :: .int xa0 :: st) pc :=
  zc_SaA C (As := [.int xa0, .int xa1]) (st := st) (c_Law_drawn g.1 h) (zgM zk_cd_yL_drawn) zk_ml_L_123 zk_st_yL_drawn zk_in_L zsg_yL_drawn hR rfl rfl hw hd ⟨hMC.symm ▸ hq.1, hMS.symm ▸ hq.2⟩ (fun k n S2 I2 hT hK => kk k n S2 I2 (g.call hT hq.1 hq.2) hK)
def w_law_2220 (v8 : Int32) (k9 : Nat) (n9 : Nat) (v11 : Int32) (k12 : Nat) (n12 : Nat) (v13 : Int32) (c0 u0 : Nat) (S : List zC) (I : zI) : Prop :=
  w_Desk_count 17 I (fun r_51 => w_Desk_count 12 I (fun r_52 => w_Desk_count 13 I (fun r_53 => w_Desk_idle 0 I (fun r_54 => (c0 + 10 ≤ 600000 ∧ u0 + 10000 ≤ 7302250) ∧ w_Law_replaced k9 n9 S I (fun r_55 S_56 I_57 => ∀ (P2270 : Int32 → Prop), (∀ (t_59 : Int32), ((if r_55 = 0 then (w_Desk_count 0 I_57 (fun r_60 => (if r_60 = v8 then (∀ (P2358 : Int32 → Prop), (∀ (t_61 : Int32), (∀ (P2365 : Int32 → Int32 → Int32 → Prop), (∀ (v3_62 : Int32) (v19_63 : Int32) (v20_64 : Int32), (w_Desk_count 3 I_57 (fun r_65 => (if r_65 ≤ v20_64 then (∀ (P2448 : Int32 → (List zC) → Nat → Nat → zI → Prop), (∀ (t_66 : Int32) (S_67 : List zC) (c_68 : Nat) (u_69 : Nat) (I_71 : zI), (t_66 = 1) → P2448 t_66 S_67 c_68 u_69 I_71) → ∀ (P2447 : (List zC) → Nat → Nat → zI → Prop), (∀ (S_72 : List zC) (c_73 : Nat) (u_74 : Nat) (I_76 : zI), (P2448 0 S_72 c_73 u_74 I_76) → P2447 S_72 c_73 u_74 I_76) → (if v3_62 = 0 then (P2447 S_56 (c0 + 10) (u0 + 10000) I_57) else (if v19_63 = v13 then ((c0 + 10 + 500 ≤ 600000 ∧ u0 + 10000 + 3000 ≤ 7302250) ∧ w_Law_stands S_56 I_57 (fun r_77 S_78 I_79 => (if r_77 = 0 then (P2447 S_78 (c0 + 10 + 500) (u0 + 10000 + 3000) I_79) else (P2448 1 S_78 (c0 + 10 + 500) (u0 + 10000 + 3000) I_79)))) else (P2447 S_56 (c0 + 10) (u0 + 10000) I_57)))) else (w_Desk_token v20_64 0 I_57 (fun r_84 => ∀ (P2419 : Int32 → Int32 → Prop), (∀ (v3_85 : Int32) (v19_86 : Int32), (∀ v20_87, v20_87 = (v20_64 + 1) → P2365 v3_85 v19_86 v20_87) → P2419 v3_85 v19_86) → (if r_84 = 0 then (∀ (P2418 : Int32 → Int32 → Prop), (∀ (v19_88 : Int32) (t_89 : Int32), (P2419 t_89 v19_88) → P2418 v19_88 t_89) → ∀ (P2417 : Int32 → Prop), (∀ (v19_90 : Int32), (P2418 v19_90 0) → P2417 v19_90) → (if v3_62 = 0 then P2417 v19_63 else (if v13 ≤ v19_63 then P2417 v19_63 else (w_Desk_value v20_64 I_57 (fun r_91 => ∀ v19_92, v19_92 = (v19_63 + 1) → (zAt S_56 k12 n12 ∧ vp_in v19_63 n12) ∧ (if r_91 = (I_57.1 k12 (Int32.toNatClampNeg v19_63)) then P2418 v19_92 1 else P2417 v19_92)))))) else P2419 v3_62 v19_63)))))) → P2365 v3_62 v19_63 v20_64) → P2365 t_61 0 0) → P2358 t_61) → ∀ (P2357 : Prop), ((P2358 0) → P2357) → (if t_59 = 0 then P2357 else (w_Desk_runs I_57 (fun r_98 => (if r_98 = v11 then (w_Desk_count 17 I_57 (fun r_99 => (if r_99 = r_51 then (w_Desk_count 12 I_57 (fun r_100 => (if r_100 = r_52 then (w_Desk_count 13 I_57 (fun r_101 => (if r_101 = r_53 then (w_Desk_idle 0 I_57 (fun r_102 => (if r_102 = r_54 then (w_Desk_count 15 I_57 (fun r_103 => (if r_103 < v8 then P2357 else P2358 1))) else P2357))) else P2357))) else P2357))) else P2357))) else P2357))))) else (t_59 = 1)))) else (t_59 = 1))) → P2270 t_59) → (if 1 ≤ r_55 then P2270 0 else P2270 1))))))
set_option maxHeartbeats 8000000 in
set_option maxRecDepth 20000 in
theorem zl_law_2220 {p : Program} {l : Launch} {e : Env} {s : State} {m : MethodId} {below : List Frame} {meth : Method} {c : Code} {D : va_G} {B : Nat} {cA : Nat → ClassId} {ad : Nat → Nat} {b : Nat} {S0 S : List zC} {I : zI} {c0 u0 : Nat} (C : zCx p s m #[Value.ref b] meth c cL_law 25 RL ret D B cA ad) (hB : B = s.heap.size + 1) {v8 : Int32} {k9 : Nat} {n9 : Nat} {v11 : Int32} {k12 : Nat} {n12 : Nat} {v13 : Int32}  (hg : zGo S0 600000 7302250 S c0 u0) (h : w_law_2220 v8 k9 n9 v11 k12 n12 v13 c0 u0 S I)  : zX p l e room_1 s m #[Value.ref b] below meth c (lw_Z below #[Value.ref b] s) D B cA 25 c0 u0 S I [(2, .ref (B + 0)), (8, .int v8), (9, .ref (B + k9)), (11, .int v11), (12, .ref (B + k12)), (13, .int v13)] [] 2220 := by
  unfold w_law_2220 at h
  refine zr_aload_n C dyL_law_2220 rfl 0 rfl ?_
  refine zr_bipush C dyL_law_2221 zc_b_17 ?_
  refine zv_L_36t C hg.1 (st := []) h ⟨Nat.le_of_ble_eq_true rfl, Nat.le_of_ble_eq_true rfl⟩ (Nat.le_of_ble_eq_true rfl) dyL_law_2223 ⟨hg.2.2.1, hg.2.2.2⟩ (fun r_51 h => ?_)
  refine zr_istore C dyL_law_2226 (Nat.le_of_ble_eq_true rfl) (lv2 := [(14, .int r_51), (2, .ref (B + 0)), (8, .int v8), (9, .ref (B + k9)), (11, .int v11), (12, .ref (B + k12)), (13, .int v13)]) rfl ?_
  refine zr_aload_n C dyL_law_2228 rfl 1 rfl ?_
  refine zr_bipush C dyL_law_2229 zc_b_12 ?_
  refine zv_L_36t C hg.1 (st := []) h ⟨Nat.le_of_ble_eq_true rfl, Nat.le_of_ble_eq_true rfl⟩ (Nat.le_of_ble_eq_true rfl) dyL_law_2231 ⟨hg.2.2.1, hg.2.2.2⟩ (fun r_52 h => ?_)
  refine zr_istore C dyL_law_2234 (Nat.le_of_ble_eq_true rfl) (lv2 := [(15, .int r_52), (14, .int r_51), (2, .ref (B + 0)), (8, .int v8), (9, .ref (B + k9)), (11, .int v11), (12, .ref (B + k12)), (13, .int v13)]) rfl ?_
  refine zr_aload_n C dyL_law_2236 rfl 2 rfl ?_
  refine zr_bipush C dyL_law_2237 zc_b_13 ?_
  refine zv_L_36t C hg.1 (st := []) h ⟨Nat.le_of_ble_eq_true rfl, Nat.le_of_ble_eq_true rfl⟩ (Nat.le_of_ble_eq_true rfl) dyL_law_2239 ⟨hg.2.2.1, hg.2.2.2⟩ (fun r_53 h => ?_)
  refine zr_istore C dyL_law_2242 (Nat.le_of_ble_eq_true rfl) (lv2 := [(16, .int r_53), (15, .int r_52), (14, .int r_51), (2, .ref (B + 0)), (8, .int v8), (9, .ref (B + k9)), (11, .int v11), (12, .ref (B + k12)), (13, .int v13)]) rfl ?_
  refine zr_aload_n C dyL_law_2244 rfl 3 rfl ?_
  refine zr_iconst C dyL_law_2245 zc_i_0 ?_
  refine zv_L_157t C hg.1 (st := []) h ⟨Nat.le_of_ble_eq_true rfl, Nat.le_of_ble_eq_true rfl⟩ (Nat.le_of_ble_eq_true rfl) dyL_law_2246 ⟨hg.2.2.1, hg.2.2.2⟩ (fun r_54 h => ?_)
  refine zr_istore C dyL_law_2249 (Nat.le_of_ble_eq_true rfl) (lv2 := [(17, .int r_54), (16, .int r_53), (15, .int r_52), (14, .int r_51), (2, .ref (B + 0)), (8, .int v8), (9, .ref (B + k9)), (11, .int v11), (12, .ref (B + k12)), (13, .int v13)]) rfl ?_
  refine zr_aload_n C dyL_law_2251 rfl 4 rfl ?_
  refine zr_aload C dyL_law_2252 6 rfl ?_
  refine zv_L_160t C hg (st := []) h.2 ⟨Nat.le_of_ble_eq_true rfl, Nat.le_of_ble_eq_true rfl⟩ (Nat.le_of_ble_eq_true rfl) dyL_law_2254 h.1 (fun r_55 S_56 I_57 g_58 h => ?_)
  refine zr_istore C dyL_law_2257 (Nat.le_of_ble_eq_true rfl) (lv2 := [(18, .int r_55), (17, .int r_54), (16, .int r_53), (15, .int r_52), (14, .int r_51), (2, .ref (B + 0)), (8, .int v8), (9, .ref (B + k9)), (11, .int v11), (12, .ref (B + k12)), (13, .int v13)]) rfl ?_
  refine zr_iload C dyL_law_2259 0 rfl ?_
  refine zr_iconst C dyL_law_2261 zc_i_1 ?_
  refine zjn (h (fun (t_59 : Int32) => zX p l e room_1 s m #[Value.ref b] below meth c (lw_Z below #[Value.ref b] s) D B cA 25 (c0 + 10) (u0 + 10000) S_56 I_57 [(18, .int r_55), (17, .int r_54), (16, .int r_53), (15, .int r_52), (14, .int r_51), (2, .ref (B + 0)), (8, .int v8), (11, .int v11), (12, .ref (B + k12)), (13, .int v13)] [.int t_59] 2270) (fun t_59 h => ?_)) (fun h => ?_)
  · refine zr_istore_n C dyL_law_2270 rfl (Nat.le_of_ble_eq_true rfl) (lv2 := [(3, .int t_59), (18, .int r_55), (17, .int r_54), (16, .int r_53), (15, .int r_52), (14, .int r_51), (2, .ref (B + 0)), (8, .int v8), (11, .int v11), (12, .ref (B + k12)), (13, .int v13)]) rfl ?_
    refine zr_iload C dyL_law_2271 1 rfl ?_
    refine zr_if_ne C dyL_law_2273 (tgt := 2449) (by decide) (fun hc_112 => ?_) (fun hc_112 => ?_)
    · replace h := zif_neg hc_112 h
      refine zr_iload_n C dyL_law_2449 rfl 0 rfl ?_
      exact zr_lend44 C hB (zr_fin g_58) h dyL_law_2450
    · replace h := zif_pos hc_112 h
      refine zr_aload_n C dyL_law_2276 rfl 6 rfl ?_
      refine zr_iconst C dyL_law_2277 zc_i_0 ?_
      refine zv_L_36t C g_58.1 (st := []) h ⟨Nat.le_of_ble_eq_true rfl, Nat.le_of_ble_eq_true rfl⟩ (Nat.le_of_ble_eq_true rfl) dyL_law_2278 ⟨g_58.2.2.1, g_58.2.2.2⟩ (fun r_60 h => ?_)
      refine zr_iload C dyL_law_2281 7 rfl ?_
      refine zr_icmp_ne C dyL_law_2283 (tgt := 2449) (by decide) (fun hc_111 => ?_) (fun hc_111 => ?_)
      · replace h := zif_neg hc_111 h
        refine zr_iload_n C dyL_law_2449 rfl 0 rfl ?_
        exact zr_lend44 C hB (zr_fin g_58) h dyL_law_2450
      · replace h := zif_pos hc_111 h
        refine zr_iload_n C dyL_law_2286 rfl 0 rfl ?_
        refine zjn (h (fun (t_61 : Int32) => zX p l e room_1 s m #[Value.ref b] below meth c (lw_Z below #[Value.ref b] s) D B cA 25 (c0 + 10) (u0 + 10000) S_56 I_57 [(2, .ref (B + 0)), (12, .ref (B + k12)), (13, .int v13)] [.int t_61] 2358) (fun t_61 h => ?_)) (fun h => ?_)
        · refine zr_istore_n C dyL_law_2358 rfl (Nat.le_of_ble_eq_true rfl) (lv2 := [(3, .int t_61), (2, .ref (B + 0)), (12, .ref (B + k12)), (13, .int v13)]) rfl ?_
          refine zr_iconst C dyL_law_2359 zc_i_0 ?_
          refine zr_istore C dyL_law_2360 (Nat.le_of_ble_eq_true rfl) (lv2 := [(19, .int 0), (3, .int t_61), (2, .ref (B + 0)), (12, .ref (B + k12)), (13, .int v13)]) rfl ?_
          refine zr_iconst C dyL_law_2362 zc_i_0 ?_
          refine zr_istore C dyL_law_2363 (Nat.le_of_ble_eq_true rfl) (lv2 := [(20, .int 0), (19, .int 0), (3, .int t_61), (2, .ref (B + 0)), (12, .ref (B + k12)), (13, .int v13)]) rfl ?_
          refine zjn (h (fun (v3_62 : Int32) (v19_63 : Int32) (v20_64 : Int32) => zX p l e room_1 s m #[Value.ref b] below meth c (lw_Z below #[Value.ref b] s) D B cA 25 (c0 + 10) (u0 + 10000) S_56 I_57 [(20, .int v20_64), (19, .int v19_63), (3, .int v3_62), (2, .ref (B + 0)), (12, .ref (B + k12)), (13, .int v13)] [] 2365) (fun v3_62 v19_63 v20_64 h => ?_)) (fun h => ?_)
          · refine zr_iload C dyL_law_2365 0 rfl ?_
            refine zr_aload_n C dyL_law_2367 rfl 3 rfl ?_
            refine zr_iconst C dyL_law_2368 zc_i_3 ?_
            refine zv_L_36t C g_58.1 (st := [.int v20_64]) h ⟨Nat.le_of_ble_eq_true rfl, Nat.le_of_ble_eq_true rfl⟩ (Nat.le_of_ble_eq_true rfl) dyL_law_2369 ⟨g_58.2.2.1, g_58.2.2.2⟩ (fun r_65 h => ?_)
            refine zr_icmp_ge C dyL_law_2372 (tgt := 2425) (by decide) (fun hc_97 => ?_) (fun hc_97 => ?_)
            · replace h := zif_pos hc_97 h
              refine zr_iload_n C dyL_law_2425 rfl 2 rfl ?_
              refine zjn (h (fun (t_66 : Int32) (S_67 : List zC) (c_68 : Nat) (u_69 : Nat) (I_71 : zI) => zGo S0 600000 7302250 S_67 c_68 u_69 → zX p l e room_1 s m #[Value.ref b] below meth c (lw_Z below #[Value.ref b] s) D B cA 25 c_68 u_69 S_67 I_71 [] [.int t_66] 2448) (fun t_66 S_67 c_68 u_69 I_71 h g_70 => ?_)) (fun h => ?_)
              · refine zr_istore_n C dyL_law_2448 rfl (Nat.le_of_ble_eq_true rfl) (lv2 := [(3, .int t_66)]) rfl ?_
                refine zr_iload_n C dyL_law_2449 rfl 0 rfl ?_
                exact zr_lend44 C hB (zr_fin g_70) h dyL_law_2450
              refine zjn (h (fun (S_72 : List zC) (c_73 : Nat) (u_74 : Nat) (I_76 : zI) => zGo S0 600000 7302250 S_72 c_73 u_74 → zX p l e room_1 s m #[Value.ref b] below meth c (lw_Z below #[Value.ref b] s) D B cA 25 c_73 u_74 S_72 I_76 [] [] 2447) (fun S_72 c_73 u_74 I_76 h g_75 => ?_)) (fun h => ?_)
              · refine zr_iconst C dyL_law_2447 zc_i_0 ?_
                exact h g_75
              refine zr_if_eq C dyL_law_2426 (tgt := 2447) (by decide) (fun hc_83 => ?_) (fun hc_83 => ?_)
              · replace h := zif_pos hc_83 h
                refine zr_sub (lv2 := []) [] rfl ?_
                exact h g_58
              · replace h := zif_neg hc_83 h
                refine zr_iload C dyL_law_2429 1 rfl ?_
                refine zr_iload C dyL_law_2431 5 rfl ?_
                refine zr_icmp_ne C dyL_law_2433 (tgt := 2447) (by decide) (fun hc_82 => ?_) (fun hc_82 => ?_)
                · replace h := zif_neg hc_82 h
                  refine zr_sub (lv2 := []) [] rfl ?_
                  exact h g_58
                · replace h := zif_pos hc_82 h
                  refine zr_aload_n C dyL_law_2436 rfl 3 rfl ?_
                  refine zv_L_141t C g_58 (st := []) h.2 ⟨Nat.le_of_ble_eq_true rfl, Nat.le_of_ble_eq_true rfl⟩ (Nat.le_of_ble_eq_true rfl) dyL_law_2437 h.1 (fun r_77 S_78 I_79 g_80 h => ?_)
                  refine zr_if_eq C dyL_law_2440 (tgt := 2447) (by decide) (fun hc_81 => ?_) (fun hc_81 => ?_)
                  · replace h := zif_pos hc_81 h
                    refine zr_sub (lv2 := []) [] rfl ?_
                    exact h g_80
                  · replace h := zif_neg hc_81 h
                    refine zr_iconst C dyL_law_2443 zc_i_1 ?_
                    refine zr_goto C dyL_law_2444 (tgt := 2448) (by decide) ?_
                    refine zr_sub (lv2 := []) [] rfl ?_
                    exact h g_80
            · replace h := zif_neg hc_97 h
              refine zr_aload_n C dyL_law_2375 rfl 3 rfl ?_
              refine zr_iload C dyL_law_2376 0 rfl ?_
              refine zr_iconst C dyL_law_2378 zc_i_0 ?_
              refine zv_L_108t C g_58.1 (st := []) h ⟨Nat.le_of_ble_eq_true rfl, Nat.le_of_ble_eq_true rfl⟩ (Nat.le_of_ble_eq_true rfl) dyL_law_2379 ⟨g_58.2.2.1, g_58.2.2.2⟩ (fun r_84 h => ?_)
              refine zjn (h (fun (v3_85 : Int32) (v19_86 : Int32) => zX p l e room_1 s m #[Value.ref b] below meth c (lw_Z below #[Value.ref b] s) D B cA 25 (c0 + 10) (u0 + 10000) S_56 I_57 [(20, .int v20_64), (19, .int v19_86), (3, .int v3_85), (2, .ref (B + 0)), (12, .ref (B + k12)), (13, .int v13)] [] 2419) (fun v3_85 v19_86 h => ?_)) (fun h => ?_)
              · refine zn_iinc C (fun v20_87 => [(20, .int v20_87), (19, .int v19_86), (3, .int v3_85), (2, .ref (B + 0)), (12, .ref (B + k12)), (13, .int v13)]) dyL_law_2419 0 rfl zc_i_1 (Nat.le_of_ble_eq_true rfl) (fun _ => rfl) (fun v20_87 ev20_87 => ?_)
                replace h := h v20_87 ev20_87
                refine zr_goto C dyL_law_2422 (tgt := 2365) (by decide) ?_
                exact h
              refine zr_if_ne C dyL_law_2382 (tgt := 2419) (by decide) (fun hc_96 => ?_) (fun hc_96 => ?_)
              · replace h := zif_neg hc_96 h
                exact h
              · replace h := zif_pos hc_96 h
                refine zr_iload_n C dyL_law_2385 rfl 2 rfl ?_
                refine zjn (h (fun (v19_88 : Int32) (t_89 : Int32) => zX p l e room_1 s m #[Value.ref b] below meth c (lw_Z below #[Value.ref b] s) D B cA 25 (c0 + 10) (u0 + 10000) S_56 I_57 [(20, .int v20_64), (19, .int v19_88), (2, .ref (B + 0)), (12, .ref (B + k12)), (13, .int v13)] [.int t_89] 2418) (fun v19_88 t_89 h => ?_)) (fun h => ?_)
                · refine zr_istore_n C dyL_law_2418 rfl (Nat.le_of_ble_eq_true rfl) (lv2 := [(3, .int t_89), (20, .int v20_64), (19, .int v19_88), (2, .ref (B + 0)), (12, .ref (B + k12)), (13, .int v13)]) rfl ?_
                  refine zr_sub (lv2 := [(20, .int v20_64), (19, .int v19_88), (3, .int t_89), (2, .ref (B + 0)), (12, .ref (B + k12)), (13, .int v13)]) [1, 2, 0, 3, 4, 5] rfl ?_
                  exact h
                refine zjn (h (fun (v19_90 : Int32) => zX p l e room_1 s m #[Value.ref b] below meth c (lw_Z below #[Value.ref b] s) D B cA 25 (c0 + 10) (u0 + 10000) S_56 I_57 [(20, .int v20_64), (19, .int v19_90), (2, .ref (B + 0)), (12, .ref (B + k12)), (13, .int v13)] [] 2417) (fun v19_90 h => ?_)) (fun h => ?_)
                · refine zr_iconst C dyL_law_2417 zc_i_0 ?_
                  exact h
                refine zr_if_eq C dyL_law_2386 (tgt := 2417) (by decide) (fun hc_95 => ?_) (fun hc_95 => ?_)
                · replace h := zif_pos hc_95 h
                  refine zr_sub (lv2 := [(20, .int v20_64), (19, .int v19_63), (2, .ref (B + 0)), (12, .ref (B + k12)), (13, .int v13)]) [0, 1, 3, 4, 5] rfl ?_
                  exact h
                · replace h := zif_neg hc_95 h
                  refine zr_iload C dyL_law_2389 1 rfl ?_
                  refine zr_iload C dyL_law_2391 5 rfl ?_
                  refine zr_icmp_ge C dyL_law_2393 (tgt := 2417) (by decide) (fun hc_94 => ?_) (fun hc_94 => ?_)
                  · replace h := zif_pos hc_94 h
                    refine zr_sub (lv2 := [(20, .int v20_64), (19, .int v19_63), (2, .ref (B + 0)), (12, .ref (B + k12)), (13, .int v13)]) [0, 1, 3, 4, 5] rfl ?_
                    exact h
                  · replace h := zif_neg hc_94 h
                    refine zr_aload_n C dyL_law_2396 rfl 3 rfl ?_
                    refine zr_iload C dyL_law_2397 0 rfl ?_
                    refine zv_L_111t C g_58.1 (st := []) h ⟨Nat.le_of_ble_eq_true rfl, Nat.le_of_ble_eq_true rfl⟩ (Nat.le_of_ble_eq_true rfl) dyL_law_2399 ⟨g_58.2.2.1, g_58.2.2.2⟩ (fun r_91 h => ?_)
                    refine zr_aload C dyL_law_2402 4 rfl ?_
                    refine zr_iload C dyL_law_2404 1 rfl ?_
                    refine zn_iinc C (fun v19_92 => [(19, .int v19_92), (20, .int v20_64), (3, .int v3_62), (2, .ref (B + 0)), (12, .ref (B + k12)), (13, .int v13)]) dyL_law_2406 1 rfl zc_i_1 (Nat.le_of_ble_eq_true rfl) (fun _ => rfl) (fun v19_92 ev19_92 => ?_)
                    replace h := h v19_92 ev19_92
                    refine zr_iald C h.1.1 h.1.2 dyL_law_2409 ?_
                    replace h := h.2
                    refine zr_icmp_ne C dyL_law_2410 (tgt := 2417) (by decide) (fun hc_93 => ?_) (fun hc_93 => ?_)
                    · replace h := zif_neg hc_93 h
                      refine zr_sub (lv2 := [(20, .int v20_64), (19, .int v19_92), (2, .ref (B + 0)), (12, .ref (B + k12)), (13, .int v13)]) [1, 0, 3, 4, 5] rfl ?_
                      exact h
                    · replace h := zif_pos hc_93 h
                      refine zr_iconst C dyL_law_2413 zc_i_1 ?_
                      refine zr_goto C dyL_law_2414 (tgt := 2418) (by decide) ?_
                      refine zr_sub (lv2 := [(20, .int v20_64), (19, .int v19_92), (2, .ref (B + 0)), (12, .ref (B + k12)), (13, .int v13)]) [1, 0, 3, 4, 5] rfl ?_
                      exact h
          exact h
        refine zjn (h (zX p l e room_1 s m #[Value.ref b] below meth c (lw_Z below #[Value.ref b] s) D B cA 25 (c0 + 10) (u0 + 10000) S_56 I_57 [(2, .ref (B + 0)), (12, .ref (B + k12)), (13, .int v13)] [] 2357) (fun  h => ?_)) (fun h => ?_)
        · refine zr_iconst C dyL_law_2357 zc_i_0 ?_
          exact h
        refine zr_if_eq C dyL_law_2287 (tgt := 2357) (by decide) (fun hc_110 => ?_) (fun hc_110 => ?_)
        · replace h := zif_pos hc_110 h
          refine zr_sub (lv2 := [(2, .ref (B + 0)), (12, .ref (B + k12)), (13, .int v13)]) [6, 9, 10] rfl ?_
          exact h
        · replace h := zif_neg hc_110 h
          refine zr_aload_n C dyL_law_2290 rfl 6 rfl ?_
          refine zv_L_82t C g_58.1 (st := []) h ⟨Nat.le_of_ble_eq_true rfl, Nat.le_of_ble_eq_true rfl⟩ (Nat.le_of_ble_eq_true rfl) dyL_law_2291 ⟨g_58.2.2.1, g_58.2.2.2⟩ (fun r_98 h => ?_)
          refine zr_iload C dyL_law_2294 8 rfl ?_
          refine zr_icmp_ne C dyL_law_2296 (tgt := 2357) (by decide) (fun hc_109 => ?_) (fun hc_109 => ?_)
          · replace h := zif_neg hc_109 h
            refine zr_sub (lv2 := [(2, .ref (B + 0)), (12, .ref (B + k12)), (13, .int v13)]) [6, 9, 10] rfl ?_
            exact h
          · replace h := zif_pos hc_109 h
            refine zr_aload_n C dyL_law_2299 rfl 6 rfl ?_
            refine zr_bipush C dyL_law_2300 zc_b_17 ?_
            refine zv_L_36t C g_58.1 (st := []) h ⟨Nat.le_of_ble_eq_true rfl, Nat.le_of_ble_eq_true rfl⟩ (Nat.le_of_ble_eq_true rfl) dyL_law_2302 ⟨g_58.2.2.1, g_58.2.2.2⟩ (fun r_99 h => ?_)
            refine zr_iload C dyL_law_2305 5 rfl ?_
            refine zr_icmp_ne C dyL_law_2307 (tgt := 2357) (by decide) (fun hc_108 => ?_) (fun hc_108 => ?_)
            · replace h := zif_neg hc_108 h
              refine zr_sub (lv2 := [(2, .ref (B + 0)), (12, .ref (B + k12)), (13, .int v13)]) [6, 9, 10] rfl ?_
              exact h
            · replace h := zif_pos hc_108 h
              refine zr_aload_n C dyL_law_2310 rfl 6 rfl ?_
              refine zr_bipush C dyL_law_2311 zc_b_12 ?_
              refine zv_L_36t C g_58.1 (st := []) h ⟨Nat.le_of_ble_eq_true rfl, Nat.le_of_ble_eq_true rfl⟩ (Nat.le_of_ble_eq_true rfl) dyL_law_2313 ⟨g_58.2.2.1, g_58.2.2.2⟩ (fun r_100 h => ?_)
              refine zr_iload C dyL_law_2316 4 rfl ?_
              refine zr_icmp_ne C dyL_law_2318 (tgt := 2357) (by decide) (fun hc_107 => ?_) (fun hc_107 => ?_)
              · replace h := zif_neg hc_107 h
                refine zr_sub (lv2 := [(2, .ref (B + 0)), (12, .ref (B + k12)), (13, .int v13)]) [6, 9, 10] rfl ?_
                exact h
              · replace h := zif_pos hc_107 h
                refine zr_aload_n C dyL_law_2321 rfl 6 rfl ?_
                refine zr_bipush C dyL_law_2322 zc_b_13 ?_
                refine zv_L_36t C g_58.1 (st := []) h ⟨Nat.le_of_ble_eq_true rfl, Nat.le_of_ble_eq_true rfl⟩ (Nat.le_of_ble_eq_true rfl) dyL_law_2324 ⟨g_58.2.2.1, g_58.2.2.2⟩ (fun r_101 h => ?_)
                refine zr_iload C dyL_law_2327 3 rfl ?_
                refine zr_icmp_ne C dyL_law_2329 (tgt := 2357) (by decide) (fun hc_106 => ?_) (fun hc_106 => ?_)
                · replace h := zif_neg hc_106 h
                  refine zr_sub (lv2 := [(2, .ref (B + 0)), (12, .ref (B + k12)), (13, .int v13)]) [6, 9, 10] rfl ?_
                  exact h
                · replace h := zif_pos hc_106 h
                  refine zr_aload_n C dyL_law_2332 rfl 6 rfl ?_
                  refine zr_iconst C dyL_law_2333 zc_i_0 ?_
                  refine zv_L_157t C g_58.1 (st := []) h ⟨Nat.le_of_ble_eq_true rfl, Nat.le_of_ble_eq_true rfl⟩ (Nat.le_of_ble_eq_true rfl) dyL_law_2334 ⟨g_58.2.2.1, g_58.2.2.2⟩ (fun r_102 h => ?_)
                  refine zr_iload C dyL_law_2337 2 rfl ?_
                  refine zr_icmp_ne C dyL_law_2339 (tgt := 2357) (by decide) (fun hc_105 => ?_) (fun hc_105 => ?_)
                  · replace h := zif_neg hc_105 h
                    refine zr_sub (lv2 := [(2, .ref (B + 0)), (12, .ref (B + k12)), (13, .int v13)]) [6, 9, 10] rfl ?_
                    exact h
                  · replace h := zif_pos hc_105 h
                    refine zr_aload_n C dyL_law_2342 rfl 6 rfl ?_
                    refine zr_bipush C dyL_law_2343 zc_b_15 ?_
                    refine zv_L_36t C g_58.1 (st := []) h ⟨Nat.le_of_ble_eq_true rfl, Nat.le_of_ble_eq_true rfl⟩ (Nat.le_of_ble_eq_true rfl) dyL_law_2345 ⟨g_58.2.2.1, g_58.2.2.2⟩ (fun r_103 h => ?_)
                    refine zr_iload C dyL_law_2348 7 rfl ?_
                    refine zr_icmp_lt C dyL_law_2350 (tgt := 2357) (by decide) (fun hc_104 => ?_) (fun hc_104 => ?_)
                    · replace h := zif_pos hc_104 h
                      refine zr_sub (lv2 := [(2, .ref (B + 0)), (12, .ref (B + k12)), (13, .int v13)]) [6, 9, 10] rfl ?_
                      exact h
                    · replace h := zif_neg hc_104 h
                      refine zr_iconst C dyL_law_2353 zc_i_1 ?_
                      refine zr_goto C dyL_law_2354 (tgt := 2358) (by decide) ?_
                      refine zr_sub (lv2 := [(2, .ref (B + 0)), (12, .ref (B + k12)), (13, .int v13)]) [6, 9, 10] rfl ?_
                      exact h
  refine zr_icmp_ge C dyL_law_2262 (tgt := 2269) (by decide) (fun hc_113 => ?_) (fun hc_113 => ?_)
  · replace h := zif_pos hc_113 h
    refine zr_iconst C dyL_law_2269 zc_i_0 ?_
    refine zr_sub (lv2 := [(18, .int r_55), (17, .int r_54), (16, .int r_53), (15, .int r_52), (14, .int r_51), (2, .ref (B + 0)), (8, .int v8), (11, .int v11), (12, .ref (B + k12)), (13, .int v13)]) [0, 1, 2, 3, 4, 5, 6, 8, 9, 10] rfl ?_
    exact h
  · replace h := zif_neg hc_113 h
    refine zr_iconst C dyL_law_2265 zc_i_1 ?_
    refine zr_goto C dyL_law_2266 (tgt := 2270) (by decide) ?_
    refine zr_sub (lv2 := [(18, .int r_55), (17, .int r_54), (16, .int r_53), (15, .int r_52), (14, .int r_51), (2, .ref (B + 0)), (8, .int v8), (11, .int v11), (12, .ref (B + k12)), (13, .int v13)]) [0, 1, 2, 3, 4, 5, 6, 8, 9, 10] rfl ?_
    exact h
def w_law_2093 (v3 : Int32) (c0 u0 : Nat) (S : List zC) (I : zI) : Prop :=
  (if v3 = 0 then (v3 = 1) else (w_Desk_count 2 I (fun r_33 => (if r_33 = 1 then (w_Desk_count 5 I (fun r_34 => (if 2300 ≤ r_34 then (v3 = 1) else (w_Desk_count 15 I (fun r_35 => (zZ I S.length ∧ (0 : Int32) ≤ r_35 ∧ Int32.toNatClampNeg r_35 ≤ 100000 ∧ c0 + 1 ≤ 600000 ∧ u0 + Int32.toNatClampNeg r_35 ≤ 7302250) ∧ ∀ (S_36 : List zC) (k_37 n_38 : Nat), S_36 = S ++ [.inr (.inl (0, n_38))] → k_37 = S.length → n_38 = Int32.toNatClampNeg r_35 → ∀ (P2134 : Int32 → zI → Prop), (∀ (v10_40 : Int32) (I_41 : zI), ((if r_35 ≤ v10_40 then (w_Desk_count 3 I_41 (fun r_42 => w_Desk_runs I_41 (fun r_43 => (zZ I_41 S_36.length ∧ (0 : Int32) ≤ r_42 ∧ Int32.toNatClampNeg r_42 ≤ 100000 ∧ c0 + 1 + 1 ≤ 600000 ∧ u0 + n_38 + Int32.toNatClampNeg r_42 ≤ 7302250) ∧ ∀ (S_44 : List zC) (k_45 n_46 : Nat), S_44 = S_36 ++ [.inr (.inl (0, n_46))] → k_45 = S_36.length → n_46 = Int32.toNatClampNeg r_42 → ∀ (P2183 : Int32 → Int32 → zI → Prop), (∀ (v13_48 : Int32) (v14_49 : Int32) (I_50 : zI), ((if r_42 ≤ v14_49 then (w_law_2220 r_35 k_37 n_38 r_43 k_45 n_46 v13_48 (c0 + 1 + 1) (u0 + n_38 + n_46) S_44 I_50) else (w_Desk_token v14_49 0 I_50 (fun r_114 => ∀ (P2214 : Int32 → zI → Prop), (∀ (v13_115 : Int32) (I_116 : zI), (∀ v14_117, v14_117 = (v14_49 + 1) → P2183 v13_115 v14_117 I_116) → P2214 v13_115 I_116) → (if r_114 = 0 then (∀ v13_118, v13_118 = (v13_48 + 1) → w_Desk_value v14_49 I_50 (fun r_119 => (zAt S_44 k_45 n_46 ∧ vp_in v13_48 n_46) ∧ ∀ I_120, I_120 = (zu I_50 k_45 (Int32.toNatClampNeg v13_48) r_119) → P2214 v13_118 I_120)) else P2214 v13_48 I_50))))) → P2183 v13_48 v14_49 I_50) → P2183 0 0 I_41))) else (w_Desk_print v10_40 I_41 (fun r_123 => (zAt S_36 k_37 n_38 ∧ vp_in v10_40 n_38) ∧ ∀ I_124, I_124 = (zu I_41 k_37 (Int32.toNatClampNeg v10_40) r_123) → ∀ v10_125, v10_125 = (v10_40 + 1) → P2134 v10_125 I_124)))) → P2134 v10_40 I_41) → P2134 0 I))))) else (v3 = 1)))))
set_option maxHeartbeats 8000000 in
set_option maxRecDepth 20000 in
theorem zl_law_2093 {p : Program} {l : Launch} {e : Env} {s : State} {m : MethodId} {below : List Frame} {meth : Method} {c : Code} {D : va_G} {B : Nat} {cA : Nat → ClassId} {ad : Nat → Nat} {b : Nat} {S0 S : List zC} {I : zI} {c0 u0 : Nat} (C : zCx p s m #[Value.ref b] meth c cL_law 25 RL ret D B cA ad) (hB : B = s.heap.size + 1) {v3 : Int32}  (hg : zGo S0 600000 7302250 S c0 u0) (h : w_law_2093 v3 c0 u0 S I)  : zX p l e room_1 s m #[Value.ref b] below meth c (lw_Z below #[Value.ref b] s) D B cA 25 c0 u0 S I [(2, .ref (B + 0)), (3, .int v3)] [] 2093 := by
  unfold w_law_2093 at h
  refine zr_iload_n C dyL_law_2093 rfl 1 rfl ?_
  refine zr_if_eq C dyL_law_2094 (tgt := 2449) (by decide) (fun hc_129 => ?_) (fun hc_129 => ?_)
  · replace h := zif_pos hc_129 h
    refine zr_iload_n C dyL_law_2449 rfl 1 rfl ?_
    exact zr_lend44 C hB (zr_fin hg) h dyL_law_2450
  · replace h := zif_neg hc_129 h
    refine zr_aload_n C dyL_law_2097 rfl 0 rfl ?_
    refine zr_iconst C dyL_law_2098 zc_i_2 ?_
    refine zv_L_36t C hg.1 (st := []) h ⟨Nat.le_of_ble_eq_true rfl, Nat.le_of_ble_eq_true rfl⟩ (Nat.le_of_ble_eq_true rfl) dyL_law_2099 ⟨hg.2.2.1, hg.2.2.2⟩ (fun r_33 h => ?_)
    refine zr_iconst C dyL_law_2102 zc_i_1 ?_
    refine zr_icmp_ne C dyL_law_2103 (tgt := 2449) (by decide) (fun hc_128 => ?_) (fun hc_128 => ?_)
    · replace h := zif_neg hc_128 h
      refine zr_iload_n C dyL_law_2449 rfl 1 rfl ?_
      exact zr_lend44 C hB (zr_fin hg) h dyL_law_2450
    · replace h := zif_pos hc_128 h
      refine zr_aload_n C dyL_law_2106 rfl 0 rfl ?_
      refine zr_iconst C dyL_law_2107 zc_i_5 ?_
      refine zv_L_36t C hg.1 (st := []) h ⟨Nat.le_of_ble_eq_true rfl, Nat.le_of_ble_eq_true rfl⟩ (Nat.le_of_ble_eq_true rfl) dyL_law_2108 ⟨hg.2.2.1, hg.2.2.2⟩ (fun r_34 h => ?_)
      refine zr_sipush C dyL_law_2111 zc_s_2300 ?_
      refine zr_icmp_ge C dyL_law_2114 (tgt := 2449) (by decide) (fun hc_127 => ?_) (fun hc_127 => ?_)
      · replace h := zif_pos hc_127 h
        refine zr_iload_n C dyL_law_2449 rfl 1 rfl ?_
        exact zr_lend44 C hB (zr_fin hg) h dyL_law_2450
      · replace h := zif_neg hc_127 h
        refine zr_aload_n C dyL_law_2117 rfl 0 rfl ?_
        refine zr_bipush C dyL_law_2118 zc_b_15 ?_
        refine zv_L_36t C hg.1 (st := []) h ⟨Nat.le_of_ble_eq_true rfl, Nat.le_of_ble_eq_true rfl⟩ (Nat.le_of_ble_eq_true rfl) dyL_law_2120 ⟨hg.2.2.1, hg.2.2.2⟩ (fun r_35 h => ?_)
        refine zr_istore C dyL_law_2123 (Nat.le_of_ble_eq_true rfl) (lv2 := [(8, .int r_35), (2, .ref (B + 0)), (3, .int v3)]) rfl ?_
        refine zr_iload C dyL_law_2125 0 rfl ?_
        refine za_nn C hg zk_ac_int rfl rfl h.1 dyL_law_2127 (fun S_36 k_37 n_38 eS eK eN g_39 => ?_)
        replace h := h.2 S_36 k_37 n_38 eS eK eN
        refine zr_astore C dyL_law_2129 (Nat.le_of_ble_eq_true rfl) (lv2 := [(9, .ref (B + k_37)), (8, .int r_35), (2, .ref (B + 0)), (3, .int v3)]) rfl ?_
        refine zr_iconst C dyL_law_2131 zc_i_0 ?_
        refine zr_istore C dyL_law_2132 (Nat.le_of_ble_eq_true rfl) (lv2 := [(10, .int 0), (9, .ref (B + k_37)), (8, .int r_35), (2, .ref (B + 0)), (3, .int v3)]) rfl ?_
        refine zjn (h (fun (v10_40 : Int32) (I_41 : zI) => zX p l e room_1 s m #[Value.ref b] below meth c (lw_Z below #[Value.ref b] s) D B cA 25 (c0 + 1) (u0 + n_38) S_36 I_41 [(10, .int v10_40), (9, .ref (B + k_37)), (8, .int r_35), (2, .ref (B + 0))] [] 2134) (fun v10_40 I_41 h => ?_)) (fun h => ?_)
        · refine zr_iload C dyL_law_2134 0 rfl ?_
          refine zr_iload C dyL_law_2136 2 rfl ?_
          refine zr_icmp_ge C dyL_law_2138 (tgt := 2158) (by decide) (fun hc_126 => ?_) (fun hc_126 => ?_)
          · replace h := zif_pos hc_126 h
            refine zr_aload_n C dyL_law_2158 rfl 3 rfl ?_
            refine zr_iconst C dyL_law_2159 zc_i_3 ?_
            refine zv_L_36t C g_39.1 (st := []) h ⟨Nat.le_of_ble_eq_true rfl, Nat.le_of_ble_eq_true rfl⟩ (Nat.le_of_ble_eq_true rfl) dyL_law_2160 ⟨g_39.2.2.1, g_39.2.2.2⟩ (fun r_42 h => ?_)
            refine zr_istore C dyL_law_2163 (Nat.le_of_ble_eq_true rfl) (lv2 := [(10, .int r_42), (9, .ref (B + k_37)), (8, .int r_35), (2, .ref (B + 0))]) rfl ?_
            refine zr_aload_n C dyL_law_2165 rfl 3 rfl ?_
            refine zv_L_82t C g_39.1 (st := []) h ⟨Nat.le_of_ble_eq_true rfl, Nat.le_of_ble_eq_true rfl⟩ (Nat.le_of_ble_eq_true rfl) dyL_law_2166 ⟨g_39.2.2.1, g_39.2.2.2⟩ (fun r_43 h => ?_)
            refine zr_istore C dyL_law_2169 (Nat.le_of_ble_eq_true rfl) (lv2 := [(11, .int r_43), (10, .int r_42), (9, .ref (B + k_37)), (8, .int r_35), (2, .ref (B + 0))]) rfl ?_
            refine zr_iload C dyL_law_2171 1 rfl ?_
            refine za_nn C g_39 zk_ac_int rfl rfl h.1 dyL_law_2173 (fun S_44 k_45 n_46 eS eK eN g_47 => ?_)
            replace h := h.2 S_44 k_45 n_46 eS eK eN
            refine zr_astore C dyL_law_2175 (Nat.le_of_ble_eq_true rfl) (lv2 := [(12, .ref (B + k_45)), (11, .int r_43), (10, .int r_42), (9, .ref (B + k_37)), (8, .int r_35), (2, .ref (B + 0))]) rfl ?_
            refine zr_iconst C dyL_law_2177 zc_i_0 ?_
            refine zr_istore C dyL_law_2178 (Nat.le_of_ble_eq_true rfl) (lv2 := [(13, .int 0), (12, .ref (B + k_45)), (11, .int r_43), (10, .int r_42), (9, .ref (B + k_37)), (8, .int r_35), (2, .ref (B + 0))]) rfl ?_
            refine zr_iconst C dyL_law_2180 zc_i_0 ?_
            refine zr_istore C dyL_law_2181 (Nat.le_of_ble_eq_true rfl) (lv2 := [(14, .int 0), (13, .int 0), (12, .ref (B + k_45)), (11, .int r_43), (10, .int r_42), (9, .ref (B + k_37)), (8, .int r_35), (2, .ref (B + 0))]) rfl ?_
            refine zjn (h (fun (v13_48 : Int32) (v14_49 : Int32) (I_50 : zI) => zX p l e room_1 s m #[Value.ref b] below meth c (lw_Z below #[Value.ref b] s) D B cA 25 (c0 + 1 + 1) (u0 + n_38 + n_46) S_44 I_50 [(14, .int v14_49), (13, .int v13_48), (12, .ref (B + k_45)), (11, .int r_43), (10, .int r_42), (9, .ref (B + k_37)), (8, .int r_35), (2, .ref (B + 0))] [] 2183) (fun v13_48 v14_49 I_50 h => ?_)) (fun h => ?_)
            · refine zr_iload C dyL_law_2183 0 rfl ?_
              refine zr_iload C dyL_law_2185 4 rfl ?_
              refine zr_icmp_ge C dyL_law_2187 (tgt := 2220) (by decide) (fun hc_122 => ?_) (fun hc_122 => ?_)
              · replace h := zif_pos hc_122 h
                refine zr_sub (lv2 := [(2, .ref (B + 0)), (8, .int r_35), (9, .ref (B + k_37)), (11, .int r_43), (12, .ref (B + k_45)), (13, .int v13_48)]) [7, 6, 5, 3, 2, 1] rfl ?_
                exact zl_law_2220 C hB g_47 h
              · replace h := zif_neg hc_122 h
                refine zr_aload_n C dyL_law_2190 rfl 7 rfl ?_
                refine zr_iload C dyL_law_2191 0 rfl ?_
                refine zr_iconst C dyL_law_2193 zc_i_0 ?_
                refine zv_L_108t C g_47.1 (st := []) h ⟨Nat.le_of_ble_eq_true rfl, Nat.le_of_ble_eq_true rfl⟩ (Nat.le_of_ble_eq_true rfl) dyL_law_2194 ⟨g_47.2.2.1, g_47.2.2.2⟩ (fun r_114 h => ?_)
                refine zjn (h (fun (v13_115 : Int32) (I_116 : zI) => zX p l e room_1 s m #[Value.ref b] below meth c (lw_Z below #[Value.ref b] s) D B cA 25 (c0 + 1 + 1) (u0 + n_38 + n_46) S_44 I_116 [(14, .int v14_49), (13, .int v13_115), (12, .ref (B + k_45)), (11, .int r_43), (10, .int r_42), (9, .ref (B + k_37)), (8, .int r_35), (2, .ref (B + 0))] [] 2214) (fun v13_115 I_116 h => ?_)) (fun h => ?_)
                · refine zn_iinc C (fun v14_117 => [(14, .int v14_117), (13, .int v13_115), (12, .ref (B + k_45)), (11, .int r_43), (10, .int r_42), (9, .ref (B + k_37)), (8, .int r_35), (2, .ref (B + 0))]) dyL_law_2214 0 rfl zc_i_1 (Nat.le_of_ble_eq_true rfl) (fun _ => rfl) (fun v14_117 ev14_117 => ?_)
                  replace h := h v14_117 ev14_117
                  refine zr_goto C dyL_law_2217 (tgt := 2183) (by decide) ?_
                  exact h
                refine zr_if_ne C dyL_law_2197 (tgt := 2214) (by decide) (fun hc_121 => ?_) (fun hc_121 => ?_)
                · replace h := zif_neg hc_121 h
                  exact h
                · replace h := zif_pos hc_121 h
                  refine zr_aload C dyL_law_2200 2 rfl ?_
                  refine zr_iload C dyL_law_2202 1 rfl ?_
                  refine zn_iinc C (fun v13_118 => [(13, .int v13_118), (14, .int v14_49), (12, .ref (B + k_45)), (11, .int r_43), (10, .int r_42), (9, .ref (B + k_37)), (8, .int r_35), (2, .ref (B + 0))]) dyL_law_2204 1 rfl zc_i_1 (Nat.le_of_ble_eq_true rfl) (fun _ => rfl) (fun v13_118 ev13_118 => ?_)
                  replace h := h v13_118 ev13_118
                  refine zr_aload_n C dyL_law_2207 rfl 7 rfl ?_
                  refine zr_iload C dyL_law_2208 1 rfl ?_
                  refine zv_L_111t C g_47.1 (st := [.int v13_48, .ref (B + k_45)]) h ⟨Nat.le_of_ble_eq_true rfl, Nat.le_of_ble_eq_true rfl⟩ (Nat.le_of_ble_eq_true rfl) dyL_law_2210 ⟨g_47.2.2.1, g_47.2.2.2⟩ (fun r_119 h => ?_)
                  refine zr_iast C h.1.1 h.1.2 dyL_law_2213 ?_
                  replace h := h.2
                  refine zn_mem C (fun I_120 eI_120 => ?_)
                  replace h := h I_120 eI_120
                  refine zr_sub (lv2 := [(14, .int v14_49), (13, .int v13_118), (12, .ref (B + k_45)), (11, .int r_43), (10, .int r_42), (9, .ref (B + k_37)), (8, .int r_35), (2, .ref (B + 0))]) [1, 0, 2, 3, 4, 5, 6, 7] rfl ?_
                  exact h
            exact h
          · replace h := zif_neg hc_126 h
            refine zr_aload C dyL_law_2141 1 rfl ?_
            refine zr_iload C dyL_law_2143 0 rfl ?_
            refine zr_aload_n C dyL_law_2145 rfl 3 rfl ?_
            refine zr_iload C dyL_law_2146 0 rfl ?_
            refine zv_L_154t C g_39.1 (st := [.int v10_40, .ref (B + k_37)]) h ⟨Nat.le_of_ble_eq_true rfl, Nat.le_of_ble_eq_true rfl⟩ (Nat.le_of_ble_eq_true rfl) dyL_law_2148 ⟨g_39.2.2.1, g_39.2.2.2⟩ (fun r_123 h => ?_)
            refine zr_iast C h.1.1 h.1.2 dyL_law_2151 ?_
            replace h := h.2
            refine zn_mem C (fun I_124 eI_124 => ?_)
            replace h := h I_124 eI_124
            refine zn_iinc C (fun v10_125 => [(10, .int v10_125), (9, .ref (B + k_37)), (8, .int r_35), (2, .ref (B + 0))]) dyL_law_2152 0 rfl zc_i_1 (Nat.le_of_ble_eq_true rfl) (fun _ => rfl) (fun v10_125 ev10_125 => ?_)
            replace h := h v10_125 ev10_125
            refine zr_goto C dyL_law_2155 (tgt := 2134) (by decide) ?_
            exact h
        refine zr_sub (lv2 := [(10, .int 0), (9, .ref (B + k_37)), (8, .int r_35), (2, .ref (B + 0))]) [0, 1, 2, 3] rfl ?_
        exact h
def w_law_2064 (v3 : Int32) (c0 u0 : Nat) (S : List zC) (I : zI) : Prop :=
  ∀ (P2067 : Int32 → zI → Prop), (∀ (v8_31 : Int32) (I_32 : zI), (∀ (P2093 : Prop), ((w_law_2093 v3 c0 u0 S I_32) → P2093) → (if 21 ≤ v8_31 then P2093 else (w_Desk_count 2 I_32 (fun r_130 => (if r_130 = 0 then (w_Desk_undo I_32 (fun r_131 I_132 => ∀ v8_133, v8_133 = (v8_31 + 1) → P2067 v8_133 I_132)) else P2093))))) → P2067 v8_31 I_32) → P2067 0 I
set_option maxHeartbeats 8000000 in
set_option maxRecDepth 20000 in
theorem zl_law_2064 {p : Program} {l : Launch} {e : Env} {s : State} {m : MethodId} {below : List Frame} {meth : Method} {c : Code} {D : va_G} {B : Nat} {cA : Nat → ClassId} {ad : Nat → Nat} {b : Nat} {S0 S : List zC} {I : zI} {c0 u0 : Nat} (C : zCx p s m #[Value.ref b] meth c cL_law 25 RL ret D B cA ad) (hB : B = s.heap.size + 1) {v3 : Int32}  (hg : zGo S0 600000 7302250 S c0 u0) (h : w_law_2064 v3 c0 u0 S I)  : zX p l e room_1 s m #[Value.ref b] below meth c (lw_Z below #[Value.ref b] s) D B cA 25 c0 u0 S I [(2, .ref (B + 0)), (3, .int v3)] [] 2064 := by
  unfold w_law_2064 at h
  refine zr_iconst C dyL_law_2064 zc_i_0 ?_
  refine zr_istore C dyL_law_2065 (Nat.le_of_ble_eq_true rfl) (lv2 := [(8, .int 0), (2, .ref (B + 0)), (3, .int v3)]) rfl ?_
  refine zjn (h (fun (v8_31 : Int32) (I_32 : zI) => zX p l e room_1 s m #[Value.ref b] below meth c (lw_Z below #[Value.ref b] s) D B cA 25 c0 u0 S I_32 [(8, .int v8_31), (2, .ref (B + 0)), (3, .int v3)] [] 2067) (fun v8_31 I_32 h => ?_)) (fun h => ?_)
  · refine zr_iload C dyL_law_2067 0 rfl ?_
    refine zr_bipush C dyL_law_2069 zc_b_21 ?_
    refine zjn (h (zX p l e room_1 s m #[Value.ref b] below meth c (lw_Z below #[Value.ref b] s) D B cA 25 c0 u0 S I_32 [(2, .ref (B + 0)), (3, .int v3)] [] 2093) (fun  h => ?_)) (fun h => ?_)
    · exact zl_law_2093 C hB hg h
    refine zr_icmp_ge C dyL_law_2071 (tgt := 2093) (by decide) (fun hc_135 => ?_) (fun hc_135 => ?_)
    · replace h := zif_pos hc_135 h
      refine zr_sub (lv2 := [(2, .ref (B + 0)), (3, .int v3)]) [1, 2] rfl ?_
      exact h
    · replace h := zif_neg hc_135 h
      refine zr_aload_n C dyL_law_2074 rfl 1 rfl ?_
      refine zr_iconst C dyL_law_2075 zc_i_2 ?_
      refine zv_L_36t C hg.1 (st := []) h ⟨Nat.le_of_ble_eq_true rfl, Nat.le_of_ble_eq_true rfl⟩ (Nat.le_of_ble_eq_true rfl) dyL_law_2076 ⟨hg.2.2.1, hg.2.2.2⟩ (fun r_130 h => ?_)
      refine zr_if_ne C dyL_law_2079 (tgt := 2093) (by decide) (fun hc_134 => ?_) (fun hc_134 => ?_)
      · replace h := zif_neg hc_134 h
        refine zr_sub (lv2 := [(2, .ref (B + 0)), (3, .int v3)]) [1, 2] rfl ?_
        exact h
      · replace h := zif_pos hc_134 h
        refine zr_aload_n C dyL_law_2082 rfl 1 rfl ?_
        refine zv_L_89t C hg.1 (st := []) h ⟨Nat.le_of_ble_eq_true rfl, Nat.le_of_ble_eq_true rfl⟩ (Nat.le_of_ble_eq_true rfl) dyL_law_2083 ⟨hg.2.2.1, hg.2.2.2⟩ (fun r_131 I_132 h => ?_)
        refine zr_pop C dyL_law_2086 rfl ?_
        refine zn_iinc C (fun v8_133 => [(8, .int v8_133), (2, .ref (B + 0)), (3, .int v3)]) dyL_law_2087 0 rfl zc_i_1 (Nat.le_of_ble_eq_true rfl) (fun _ => rfl) (fun v8_133 ev8_133 => ?_)
        replace h := h v8_133 ev8_133
        refine zr_goto C dyL_law_2090 (tgt := 2067) (by decide) ?_
        exact h
  exact h
def w_law_1692 (v3 : Int32) (v4 : Int32) (v5 : Int32) (v6 : Int32) (v7 : Int32) (c0 u0 : Nat) (S : List zC) (I : zI) : Prop :=
  ∀ (P1722 : Int32 → zI → Prop), (∀ (t_19 : Int32) (I_20 : zI), (∀ (P1726 : Int32 → Int32 → zI → Prop), (∀ (v3_21 : Int32) (v8_22 : Int32) (I_23 : zI), (∀ (P1748 : Prop), ((∀ (P1788 : Int32 → Prop), (∀ (t_24 : Int32), (∀ (P2064 : Int32 → (List zC) → Nat → Nat → zI → Prop), (∀ (v3_25 : Int32) (S_26 : List zC) (c_27 : Nat) (u_28 : Nat) (I_30 : zI), (w_law_2064 v3_25 c_27 u_28 S_26 I_30) → P2064 v3_25 S_26 c_27 u_28 I_30) → (if t_24 = 0 then P2064 t_24 S c0 u0 I_23 else (w_Desk_count 2 I_23 (fun r_136 => (if r_136 = 0 then ((c0 + 1 ≤ 600000 ∧ u0 + 400 ≤ 7302250) ∧ w_Law_text S I_23 (fun k_137 n_138 S_139 I_140 => w_Desk_inTheWay 0 I_140 (fun r_142 I_143 => w_Desk_inTheWay 1 I_143 (fun r_144 I_145 => w_Desk_count 1 I_145 (fun r_146 => (c0 + 1 + 500 ≤ 600000 ∧ u0 + 400 + 3000 ≤ 7302250) ∧ w_Law_cut k_137 n_138 S_139 I_145 (fun k_147 n_148 S_149 I_150 => (c0 + 1 + 500 + 1 ≤ 600000 ∧ u0 + 400 + 3000 + 400 ≤ 7302250) ∧ w_Law_kinds k_147 n_148 S_149 I_150 (fun k_152 n_153 S_154 I_155 => ∀ (P1861 : Int32 → Prop), (∀ (t_157 : Int32), (w_Desk_token r_142 1 I_155 (fun r_158 => w_Desk_token ((r_142 + r_144) - (1 : Int32)) 1 I_155 (fun r_159 => w_Desk_token ((r_142 + r_144) - (1 : Int32)) 2 I_155 (fun r_160 => ∀ v14_161, v14_161 = (r_159 + r_160) → w_Desk_mend 0 I_155 (fun r_162 I_163 => w_Desk_mend 1 I_163 (fun r_164 I_165 => ∀ (P1979 : Int32 → zI → Prop), (∀ (t_166 : Int32) (I_167 : zI), ((zZ I_167 S_154.length ∧ (0 : Int32) ≤ 1 ∧ Int32.toNatClampNeg 1 ≤ 100000 ∧ c0 + 1 + 500 + 1 + 1 ≤ 600000 ∧ u0 + 400 + 3000 + 400 + Int32.toNatClampNeg 1 ≤ 7302250) ∧ ∀ (S_168 : List zC) (k_169 n_170 : Nat), S_168 = S_154 ++ [.inr (.inl (0, n_170))] → k_169 = S_154.length → n_170 = Int32.toNatClampNeg 1 → (zAt S_168 k_169 n_170 ∧ vp_in 0 n_170) ∧ ∀ I_172, I_172 = (zu I_167 k_169 0 32) → w_Law_tape k_169 n_170 S_168 I_172 (fun I_173 => w_Desk_edit r_158 (v14_161 - r_158) I_173 (fun r_174 I_175 => ∀ (P2063 : Int32 → zI → Prop), (∀ (t_176 : Int32) (I_177 : zI), (P2064 t_176 S_168 (c0 + 1 + 500 + 1 + 1) (u0 + 400 + 3000 + 400 + n_170) I_177) → P2063 t_176 I_177) → ∀ (P2062 : zI → Prop), (∀ (I_178 : zI), (P2063 0 I_178) → P2062 I_178) → (if t_166 = 0 then P2062 I_175 else (∀ (P2027 : zI → Prop), (∀ (I_179 : zI), (w_Desk_undo I_179 (fun r_180 I_181 => ∀ (P2046 : Int32 → Prop), (∀ (t_182 : Int32), ((if r_180 = t_182 then (w_Desk_count 2 I_181 (fun r_183 => (if 1 < r_183 then P2062 I_181 else P2063 1 I_181))) else P2062 I_181)) → P2046 t_182) → ∀ (P2041 : Prop), ((P2046 1) → P2041) → (if r_174 = 0 then P2041 else (if v6 ≤ 0 then P2046 0 else P2041)))) → P2027 I_179) → (if r_174 = 0 then P2027 I_175 else (if 0 ≤ r_174 then P2062 I_175 else (w_Desk_back 1 I_175 (fun r_188 I_189 => (if r_188 = 0 then P2027 I_189 else P2062 I_189)))))))))) → P1979 t_166 I_167) → ∀ (P1978 : zI → Prop), (∀ (I_194 : zI), (P1979 0 I_194) → P1978 I_194) → (if t_157 = 0 then P1978 I_165 else (∀ (P1928 : Int32 → Prop), (∀ (t_195 : Int32), (∀ (P1940 : Int32 → Prop), (∀ (t_196 : Int32), ((if t_195 = t_196 then (if r_146 ≤ r_162 then P1978 I_165 else (if 10 ≤ r_164 then P1978 I_165 else (w_Desk_expected I_165 (fun r_197 I_198 => (if r_197 < 0 then P1978 I_198 else (w_Desk_expected I_198 (fun r_199 I_200 => (if 2048 ≤ r_199 then P1978 I_200 else P1979 1 I_200)))))))) else P1978 I_165)) → P1940 t_196) → (if r_164 = (-2) then P1940 1 else P1940 0)) → P1928 t_195) → (if r_162 = (-2) then P1928 1 else P1928 0))))))))) → P1861 t_157) → ∀ (P1860 : Prop), ((P1861 0) → P1860) → (if r_142 < 0 then P1860 else (if r_144 ≤ 0 then P1860 else (w_Law_wrong k_152 n_153 S_154 I_155 (fun r_209 => (if r_209 < 0 then P1860 else P1861 1)))))))))))) else P2064 t_24 S c0 u0 I_23))))) → P1788 t_24) → ∀ (P1787 : Prop), ((P1788 0) → P1787) → (if v3_21 = 0 then P1787 else (w_Desk_count 4 I_23 (fun r_215 => (if r_215 = v4 then (w_Desk_count 0 I_23 (fun r_216 => (if r_216 = v5 then (w_Desk_count 9 I_23 (fun r_217 => (if r_217 = v7 then P1788 1 else P1787))) else P1787))) else P1787))))) → P1748) → (if v6 ≤ v8_22 then P1748 else (if v3_21 = 0 then P1748 else (w_Desk_redo I_23 (fun r_222 I_223 => ∀ v8_224, v8_224 = (v8_22 + 1) → P1726 r_222 v8_224 I_223))))) → P1726 v3_21 v8_22 I_23) → P1726 t_19 0 I_20) → P1722 t_19 I_20) → ∀ (P1721 : zI → Prop), (∀ (I_227 : zI), (P1722 0 I_227) → P1721 I_227) → (if v3 = 0 then P1721 I else (w_Desk_undo I (fun r_228 I_229 => (if r_228 = 0 then (w_Desk_count 9 I_229 (fun r_230 => (if r_230 = (v6 + v7) then P1722 1 I_229 else P1721 I_229))) else P1721 I_229))))
set_option maxHeartbeats 8000000 in
set_option maxRecDepth 20000 in
theorem zl_law_1692 {p : Program} {l : Launch} {e : Env} {s : State} {m : MethodId} {below : List Frame} {meth : Method} {c : Code} {D : va_G} {B : Nat} {cA : Nat → ClassId} {ad : Nat → Nat} {b : Nat} {S0 S : List zC} {I : zI} {c0 u0 : Nat} (C : zCx p s m #[Value.ref b] meth c cL_law 25 RL ret D B cA ad) (hB : B = s.heap.size + 1) {v3 : Int32} {v4 : Int32} {v5 : Int32} {v6 : Int32} {v7 : Int32}  (hg : zGo S0 600000 7302250 S c0 u0) (h : w_law_1692 v3 v4 v5 v6 v7 c0 u0 S I)  : zX p l e room_1 s m #[Value.ref b] below meth c (lw_Z below #[Value.ref b] s) D B cA 25 c0 u0 S I [(2, .ref (B + 0)), (3, .int v3), (4, .int v4), (5, .int v5), (6, .int v6), (7, .int v7)] [] 1692 := by
  unfold w_law_1692 at h
  refine zr_iload_n C dyL_law_1692 rfl 1 rfl ?_
  refine zjn (h (fun (t_19 : Int32) (I_20 : zI) => zX p l e room_1 s m #[Value.ref b] below meth c (lw_Z below #[Value.ref b] s) D B cA 25 c0 u0 S I_20 [(2, .ref (B + 0)), (4, .int v4), (5, .int v5), (6, .int v6), (7, .int v7)] [.int t_19] 1722) (fun t_19 I_20 h => ?_)) (fun h => ?_)
  · refine zr_istore_n C dyL_law_1722 rfl (Nat.le_of_ble_eq_true rfl) (lv2 := [(3, .int t_19), (2, .ref (B + 0)), (4, .int v4), (5, .int v5), (6, .int v6), (7, .int v7)]) rfl ?_
    refine zr_iconst C dyL_law_1723 zc_i_0 ?_
    refine zr_istore C dyL_law_1724 (Nat.le_of_ble_eq_true rfl) (lv2 := [(8, .int 0), (3, .int t_19), (2, .ref (B + 0)), (4, .int v4), (5, .int v5), (6, .int v6), (7, .int v7)]) rfl ?_
    refine zjn (h (fun (v3_21 : Int32) (v8_22 : Int32) (I_23 : zI) => zX p l e room_1 s m #[Value.ref b] below meth c (lw_Z below #[Value.ref b] s) D B cA 25 c0 u0 S I_23 [(8, .int v8_22), (3, .int v3_21), (2, .ref (B + 0)), (4, .int v4), (5, .int v5), (6, .int v6), (7, .int v7)] [] 1726) (fun v3_21 v8_22 I_23 h => ?_)) (fun h => ?_)
    · refine zr_iload C dyL_law_1726 0 rfl ?_
      refine zr_iload C dyL_law_1728 5 rfl ?_
      refine zjn (h (zX p l e room_1 s m #[Value.ref b] below meth c (lw_Z below #[Value.ref b] s) D B cA 25 c0 u0 S I_23 [(3, .int v3_21), (2, .ref (B + 0)), (4, .int v4), (5, .int v5), (6, .int v6), (7, .int v7)] [] 1748) (fun  h => ?_)) (fun h => ?_)
      · refine zr_iload_n C dyL_law_1748 rfl 0 rfl ?_
        refine zjn (h (fun (t_24 : Int32) => zX p l e room_1 s m #[Value.ref b] below meth c (lw_Z below #[Value.ref b] s) D B cA 25 c0 u0 S I_23 [(2, .ref (B + 0)), (6, .int v6)] [.int t_24] 1788) (fun t_24 h => ?_)) (fun h => ?_)
        · refine zr_istore_n C dyL_law_1788 rfl (Nat.le_of_ble_eq_true rfl) (lv2 := [(3, .int t_24), (2, .ref (B + 0)), (6, .int v6)]) rfl ?_
          refine zr_iload_n C dyL_law_1789 rfl 0 rfl ?_
          refine zjn (h (fun (v3_25 : Int32) (S_26 : List zC) (c_27 : Nat) (u_28 : Nat) (I_30 : zI) => zGo S0 600000 7302250 S_26 c_27 u_28 → zX p l e room_1 s m #[Value.ref b] below meth c (lw_Z below #[Value.ref b] s) D B cA 25 c_27 u_28 S_26 I_30 [(3, .int v3_25), (2, .ref (B + 0))] [] 2064) (fun v3_25 S_26 c_27 u_28 I_30 h g_29 => ?_)) (fun h => ?_)
          · refine zr_sub (lv2 := [(2, .ref (B + 0)), (3, .int v3_25)]) [1, 0] rfl ?_
            exact zl_law_2064 C hB g_29 h
          refine zr_if_eq C dyL_law_1790 (tgt := 2064) (by decide) (fun hc_214 => ?_) (fun hc_214 => ?_)
          · replace h := zif_pos hc_214 h
            refine zr_sub (lv2 := [(3, .int t_24), (2, .ref (B + 0))]) [0, 1] rfl ?_
            exact h hg
          · replace h := zif_neg hc_214 h
            refine zr_aload_n C dyL_law_1793 rfl 1 rfl ?_
            refine zr_iconst C dyL_law_1794 zc_i_2 ?_
            refine zv_L_36t C hg.1 (st := []) h ⟨Nat.le_of_ble_eq_true rfl, Nat.le_of_ble_eq_true rfl⟩ (Nat.le_of_ble_eq_true rfl) dyL_law_1795 ⟨hg.2.2.1, hg.2.2.2⟩ (fun r_136 h => ?_)
            refine zr_if_ne C dyL_law_1798 (tgt := 2064) (by decide) (fun hc_213 => ?_) (fun hc_213 => ?_)
            · replace h := zif_neg hc_213 h
              refine zr_sub (lv2 := [(3, .int t_24), (2, .ref (B + 0))]) [0, 1] rfl ?_
              exact h hg
            · replace h := zif_pos hc_213 h
              refine zr_aload_n C dyL_law_1801 rfl 1 rfl ?_
              refine zv_L_86t C hg (st := []) h.2 ⟨Nat.le_of_ble_eq_true rfl, Nat.le_of_ble_eq_true rfl⟩ (Nat.le_of_ble_eq_true rfl) dyL_law_1802 h.1 (fun k_137 n_138 S_139 I_140 g_141 h => ?_)
              refine zr_astore C dyL_law_1805 (Nat.le_of_ble_eq_true rfl) (lv2 := [(8, .ref (B + k_137)), (3, .int t_24), (2, .ref (B + 0)), (6, .int v6)]) rfl ?_
              refine zr_aload_n C dyL_law_1807 rfl 2 rfl ?_
              refine zr_iconst C dyL_law_1808 zc_i_0 ?_
              refine zv_L_145t C g_141.1 (st := []) h ⟨Nat.le_of_ble_eq_true rfl, Nat.le_of_ble_eq_true rfl⟩ (Nat.le_of_ble_eq_true rfl) dyL_law_1809 ⟨g_141.2.2.1, g_141.2.2.2⟩ (fun r_142 I_143 h => ?_)
              refine zr_istore C dyL_law_1812 (Nat.le_of_ble_eq_true rfl) (lv2 := [(9, .int r_142), (8, .ref (B + k_137)), (3, .int t_24), (2, .ref (B + 0)), (6, .int v6)]) rfl ?_
              refine zr_aload_n C dyL_law_1814 rfl 3 rfl ?_
              refine zr_iconst C dyL_law_1815 zc_i_1 ?_
              refine zv_L_145t C g_141.1 (st := []) h ⟨Nat.le_of_ble_eq_true rfl, Nat.le_of_ble_eq_true rfl⟩ (Nat.le_of_ble_eq_true rfl) dyL_law_1816 ⟨g_141.2.2.1, g_141.2.2.2⟩ (fun r_144 I_145 h => ?_)
              refine zr_istore C dyL_law_1819 (Nat.le_of_ble_eq_true rfl) (lv2 := [(10, .int r_144), (9, .int r_142), (8, .ref (B + k_137)), (3, .int t_24), (2, .ref (B + 0)), (6, .int v6)]) rfl ?_
              refine zr_aload_n C dyL_law_1821 rfl 4 rfl ?_
              refine zr_iconst C dyL_law_1822 zc_i_1 ?_
              refine zv_L_36t C g_141.1 (st := []) h ⟨Nat.le_of_ble_eq_true rfl, Nat.le_of_ble_eq_true rfl⟩ (Nat.le_of_ble_eq_true rfl) dyL_law_1823 ⟨g_141.2.2.1, g_141.2.2.2⟩ (fun r_146 h => ?_)
              refine zr_istore C dyL_law_1826 (Nat.le_of_ble_eq_true rfl) (lv2 := [(11, .int r_146), (10, .int r_144), (9, .int r_142), (8, .ref (B + k_137)), (3, .int t_24), (2, .ref (B + 0)), (6, .int v6)]) rfl ?_
              refine zr_aload C dyL_law_1828 3 rfl ?_
              refine zv_L_127t C g_141 (st := []) h.2 ⟨Nat.le_of_ble_eq_true rfl, Nat.le_of_ble_eq_true rfl⟩ (Nat.le_of_ble_eq_true rfl) dyL_law_1830 h.1 (fun k_147 n_148 S_149 I_150 g_151 h => ?_)
              refine zv_L_130t C g_151 (st := []) h.2 ⟨Nat.le_of_ble_eq_true rfl, Nat.le_of_ble_eq_true rfl⟩ (Nat.le_of_ble_eq_true rfl) dyL_law_1833 h.1 (fun k_152 n_153 S_154 I_155 g_156 h => ?_)
              refine zr_astore C dyL_law_1836 (Nat.le_of_ble_eq_true rfl) (lv2 := [(12, .ref (B + k_152)), (11, .int r_146), (10, .int r_144), (9, .int r_142), (8, .ref (B + k_137)), (3, .int t_24), (2, .ref (B + 0)), (6, .int v6)]) rfl ?_
              refine zr_iload C dyL_law_1838 3 rfl ?_
              refine zjn (h (fun (t_157 : Int32) => zX p l e room_1 s m #[Value.ref b] below meth c (lw_Z below #[Value.ref b] s) D B cA 25 (c0 + 1 + 500 + 1) (u0 + 400 + 3000 + 400) S_154 I_155 [(11, .int r_146), (10, .int r_144), (9, .int r_142), (2, .ref (B + 0)), (6, .int v6)] [.int t_157] 1861) (fun t_157 h => ?_)) (fun h => ?_)
              · refine zr_istore_n C dyL_law_1861 rfl (Nat.le_of_ble_eq_true rfl) (lv2 := [(3, .int t_157), (11, .int r_146), (10, .int r_144), (9, .int r_142), (2, .ref (B + 0)), (6, .int v6)]) rfl ?_
                refine zr_aload_n C dyL_law_1862 rfl 4 rfl ?_
                refine zr_iload C dyL_law_1863 3 rfl ?_
                refine zr_iconst C dyL_law_1865 zc_i_1 ?_
                refine zv_L_108t C g_156.1 (st := []) h ⟨Nat.le_of_ble_eq_true rfl, Nat.le_of_ble_eq_true rfl⟩ (Nat.le_of_ble_eq_true rfl) dyL_law_1866 ⟨g_156.2.2.1, g_156.2.2.2⟩ (fun r_158 h => ?_)
                refine zr_istore C dyL_law_1869 (Nat.le_of_ble_eq_true rfl) (lv2 := [(13, .int r_158), (3, .int t_157), (11, .int r_146), (10, .int r_144), (9, .int r_142), (2, .ref (B + 0)), (6, .int v6)]) rfl ?_
                refine zr_aload_n C dyL_law_1871 rfl 5 rfl ?_
                refine zr_iload C dyL_law_1872 4 rfl ?_
                refine zr_iload C dyL_law_1874 3 rfl ?_
                refine zr_iadd C dyL_law_1876 ?_
                refine zr_iconst C dyL_law_1877 zc_i_1 ?_
                refine zr_isub C dyL_law_1878 ?_
                refine zr_iconst C dyL_law_1879 zc_i_1 ?_
                refine zv_L_108t C g_156.1 (st := []) h ⟨Nat.le_of_ble_eq_true rfl, Nat.le_of_ble_eq_true rfl⟩ (Nat.le_of_ble_eq_true rfl) dyL_law_1880 ⟨g_156.2.2.1, g_156.2.2.2⟩ (fun r_159 h => ?_)
                refine zr_aload_n C dyL_law_1883 rfl 5 rfl ?_
                refine zr_iload C dyL_law_1884 4 rfl ?_
                refine zr_iload C dyL_law_1886 3 rfl ?_
                refine zr_iadd C dyL_law_1888 ?_
                refine zr_iconst C dyL_law_1889 zc_i_1 ?_
                refine zr_isub C dyL_law_1890 ?_
                refine zr_iconst C dyL_law_1891 zc_i_2 ?_
                refine zv_L_108t C g_156.1 (st := [.int r_159]) h ⟨Nat.le_of_ble_eq_true rfl, Nat.le_of_ble_eq_true rfl⟩ (Nat.le_of_ble_eq_true rfl) dyL_law_1892 ⟨g_156.2.2.1, g_156.2.2.2⟩ (fun r_160 h => ?_)
                refine zr_iadd C dyL_law_1895 ?_
                refine zn_istore C (fun v14_161 => [(14, .int v14_161), (13, .int r_158), (3, .int t_157), (11, .int r_146), (10, .int r_144), (9, .int r_142), (2, .ref (B + 0)), (6, .int v6)]) dyL_law_1896 (Nat.le_of_ble_eq_true rfl) (fun _ => rfl) (fun v14_161 ev14_161 => ?_)
                replace h := h v14_161 ev14_161
                refine zr_aload_n C dyL_law_1898 rfl 6 rfl ?_
                refine zr_iconst C dyL_law_1899 zc_i_0 ?_
                refine zv_L_148t C g_156.1 (st := []) h ⟨Nat.le_of_ble_eq_true rfl, Nat.le_of_ble_eq_true rfl⟩ (Nat.le_of_ble_eq_true rfl) dyL_law_1900 ⟨g_156.2.2.1, g_156.2.2.2⟩ (fun r_162 I_163 h => ?_)
                refine zr_istore C dyL_law_1903 (Nat.le_of_ble_eq_true rfl) (lv2 := [(15, .int r_162), (14, .int v14_161), (13, .int r_158), (3, .int t_157), (11, .int r_146), (10, .int r_144), (9, .int r_142), (2, .ref (B + 0)), (6, .int v6)]) rfl ?_
                refine zr_aload_n C dyL_law_1905 rfl 7 rfl ?_
                refine zr_iconst C dyL_law_1906 zc_i_1 ?_
                refine zv_L_148t C g_156.1 (st := []) h ⟨Nat.le_of_ble_eq_true rfl, Nat.le_of_ble_eq_true rfl⟩ (Nat.le_of_ble_eq_true rfl) dyL_law_1907 ⟨g_156.2.2.1, g_156.2.2.2⟩ (fun r_164 I_165 h => ?_)
                refine zr_istore C dyL_law_1910 (Nat.le_of_ble_eq_true rfl) (lv2 := [(16, .int r_164), (15, .int r_162), (14, .int v14_161), (13, .int r_158), (3, .int t_157), (11, .int r_146), (10, .int r_144), (9, .int r_142), (2, .ref (B + 0)), (6, .int v6)]) rfl ?_
                refine zr_iload_n C dyL_law_1912 rfl 4 rfl ?_
                refine zjn (h (fun (t_166 : Int32) (I_167 : zI) => zX p l e room_1 s m #[Value.ref b] below meth c (lw_Z below #[Value.ref b] s) D B cA 25 (c0 + 1 + 500 + 1) (u0 + 400 + 3000 + 400) S_154 I_167 [(14, .int v14_161), (13, .int r_158), (2, .ref (B + 0)), (6, .int v6)] [.int t_166] 1979) (fun t_166 I_167 h => ?_)) (fun h => ?_)
                · refine zr_istore_n C dyL_law_1979 rfl (Nat.le_of_ble_eq_true rfl) (lv2 := [(3, .int t_166), (14, .int v14_161), (13, .int r_158), (2, .ref (B + 0)), (6, .int v6)]) rfl ?_
                  refine zr_aload_n C dyL_law_1980 rfl 3 rfl ?_
                  refine zr_iconst C dyL_law_1981 zc_i_1 ?_
                  refine za_nn C g_156 zk_ac_int rfl rfl h.1 dyL_law_1982 (fun S_168 k_169 n_170 eS eK eN g_171 => ?_)
                  replace h := h.2 S_168 k_169 n_170 eS eK eN
                  refine zr_dup C dyL_law_1984 rfl ?_
                  refine zr_iconst C dyL_law_1985 zc_i_0 ?_
                  refine zr_bipush C dyL_law_1986 zc_b_32 ?_
                  refine zr_iast C h.1.1 h.1.2 dyL_law_1988 ?_
                  replace h := h.2
                  refine zn_mem C (fun I_172 eI_172 => ?_)
                  replace h := h I_172 eI_172
                  refine zv_L_77t C g_171.1 (st := []) h ⟨Nat.le_of_ble_eq_true rfl, Nat.le_of_ble_eq_true rfl⟩ (Nat.le_of_ble_eq_true rfl) dyL_law_1989 ⟨g_171.2.2.1, g_171.2.2.2⟩ (fun I_173 h => ?_)
                  refine zr_aload_n C dyL_law_1992 rfl 3 rfl ?_
                  refine zr_iload C dyL_law_1993 2 rfl ?_
                  refine zr_iload C dyL_law_1995 1 rfl ?_
                  refine zr_iload C dyL_law_1997 2 rfl ?_
                  refine zr_isub C dyL_law_1999 ?_
                  refine zv_L_65t C g_171.1 (st := []) h ⟨Nat.le_of_ble_eq_true rfl, Nat.le_of_ble_eq_true rfl⟩ (Nat.le_of_ble_eq_true rfl) dyL_law_2000 ⟨g_171.2.2.1, g_171.2.2.2⟩ (fun r_174 I_175 h => ?_)
                  refine zr_istore C dyL_law_2003 (Nat.le_of_ble_eq_true rfl) (lv2 := [(17, .int r_174), (3, .int t_166), (14, .int v14_161), (13, .int r_158), (2, .ref (B + 0)), (6, .int v6)]) rfl ?_
                  refine zr_iload_n C dyL_law_2005 rfl 1 rfl ?_
                  refine zjn (h (fun (t_176 : Int32) (I_177 : zI) => zX p l e room_1 s m #[Value.ref b] below meth c (lw_Z below #[Value.ref b] s) D B cA 25 (c0 + 1 + 500 + 1 + 1) (u0 + 400 + 3000 + 400 + n_170) S_168 I_177 [(2, .ref (B + 0))] [.int t_176] 2063) (fun t_176 I_177 h => ?_)) (fun h => ?_)
                  · refine zr_istore_n C dyL_law_2063 rfl (Nat.le_of_ble_eq_true rfl) (lv2 := [(3, .int t_176), (2, .ref (B + 0))]) rfl ?_
                    exact h g_171
                  refine zjn (h (fun (I_178 : zI) => zX p l e room_1 s m #[Value.ref b] below meth c (lw_Z below #[Value.ref b] s) D B cA 25 (c0 + 1 + 500 + 1 + 1) (u0 + 400 + 3000 + 400 + n_170) S_168 I_178 [(2, .ref (B + 0))] [] 2062) (fun I_178 h => ?_)) (fun h => ?_)
                  · refine zr_iconst C dyL_law_2062 zc_i_0 ?_
                    exact h
                  refine zr_if_eq C dyL_law_2006 (tgt := 2062) (by decide) (fun hc_193 => ?_) (fun hc_193 => ?_)
                  · replace h := zif_pos hc_193 h
                    refine zr_sub (lv2 := [(2, .ref (B + 0))]) [4] rfl ?_
                    exact h
                  · replace h := zif_neg hc_193 h
                    refine zr_iload C dyL_law_2009 0 rfl ?_
                    refine zjn (h (fun (I_179 : zI) => zX p l e room_1 s m #[Value.ref b] below meth c (lw_Z below #[Value.ref b] s) D B cA 25 (c0 + 1 + 500 + 1 + 1) (u0 + 400 + 3000 + 400 + n_170) S_168 I_179 [(17, .int r_174), (2, .ref (B + 0)), (6, .int v6)] [] 2027) (fun I_179 h => ?_)) (fun h => ?_)
                    · refine zr_aload_n C dyL_law_2027 rfl 1 rfl ?_
                      refine zv_L_89t C g_171.1 (st := []) h ⟨Nat.le_of_ble_eq_true rfl, Nat.le_of_ble_eq_true rfl⟩ (Nat.le_of_ble_eq_true rfl) dyL_law_2028 ⟨g_171.2.2.1, g_171.2.2.2⟩ (fun r_180 I_181 h => ?_)
                      refine zr_iload C dyL_law_2031 0 rfl ?_
                      refine zjn (h (fun (t_182 : Int32) => zX p l e room_1 s m #[Value.ref b] below meth c (lw_Z below #[Value.ref b] s) D B cA 25 (c0 + 1 + 500 + 1 + 1) (u0 + 400 + 3000 + 400 + n_170) S_168 I_181 [(2, .ref (B + 0))] [.int t_182, .int r_180] 2046) (fun t_182 h => ?_)) (fun h => ?_)
                      · refine zr_icmp_ne C dyL_law_2046 (tgt := 2062) (by decide) (fun hc_185 => ?_) (fun hc_185 => ?_)
                        · replace h := zif_neg hc_185 h
                          exact h
                        · replace h := zif_pos hc_185 h
                          refine zr_aload_n C dyL_law_2049 rfl 0 rfl ?_
                          refine zr_iconst C dyL_law_2050 zc_i_2 ?_
                          refine zv_L_36t C g_171.1 (st := []) h ⟨Nat.le_of_ble_eq_true rfl, Nat.le_of_ble_eq_true rfl⟩ (Nat.le_of_ble_eq_true rfl) dyL_law_2051 ⟨g_171.2.2.1, g_171.2.2.2⟩ (fun r_183 h => ?_)
                          refine zr_iconst C dyL_law_2054 zc_i_1 ?_
                          refine zr_icmp_gt C dyL_law_2055 (tgt := 2062) (by decide) (fun hc_184 => ?_) (fun hc_184 => ?_)
                          · replace h := zif_pos hc_184 h
                            exact h
                          · replace h := zif_neg hc_184 h
                            refine zr_iconst C dyL_law_2058 zc_i_1 ?_
                            refine zr_goto C dyL_law_2059 (tgt := 2063) (by decide) ?_
                            exact h
                      refine zjn (h (zX p l e room_1 s m #[Value.ref b] below meth c (lw_Z below #[Value.ref b] s) D B cA 25 (c0 + 1 + 500 + 1 + 1) (u0 + 400 + 3000 + 400 + n_170) S_168 I_181 [(2, .ref (B + 0))] [.int r_180] 2041) (fun  h => ?_)) (fun h => ?_)
                      · refine zr_iconst C dyL_law_2041 zc_i_1 ?_
                        refine zr_goto C dyL_law_2042 (tgt := 2046) (by decide) ?_
                        exact h
                      refine zr_if_eq C dyL_law_2033 (tgt := 2041) (by decide) (fun hc_187 => ?_) (fun hc_187 => ?_)
                      · replace h := zif_pos hc_187 h
                        refine zr_sub (lv2 := [(2, .ref (B + 0))]) [1] rfl ?_
                        exact h
                      · replace h := zif_neg hc_187 h
                        refine zr_iload C dyL_law_2036 2 rfl ?_
                        refine zr_if_le C dyL_law_2038 (tgt := 2045) (by decide) (fun hc_186 => ?_) (fun hc_186 => ?_)
                        · replace h := zif_pos hc_186 h
                          refine zr_iconst C dyL_law_2045 zc_i_0 ?_
                          refine zr_sub (lv2 := [(2, .ref (B + 0))]) [1] rfl ?_
                          exact h
                        · replace h := zif_neg hc_186 h
                          refine zr_sub (lv2 := [(2, .ref (B + 0))]) [1] rfl ?_
                          exact h
                    refine zr_if_eq C dyL_law_2011 (tgt := 2027) (by decide) (fun hc_192 => ?_) (fun hc_192 => ?_)
                    · replace h := zif_pos hc_192 h
                      refine zr_sub (lv2 := [(17, .int r_174), (2, .ref (B + 0)), (6, .int v6)]) [0, 4, 5] rfl ?_
                      exact h
                    · replace h := zif_neg hc_192 h
                      refine zr_iload C dyL_law_2014 0 rfl ?_
                      refine zr_if_ge C dyL_law_2016 (tgt := 2062) (by decide) (fun hc_191 => ?_) (fun hc_191 => ?_)
                      · replace h := zif_pos hc_191 h
                        refine zr_sub (lv2 := [(2, .ref (B + 0))]) [4] rfl ?_
                        exact h
                      · replace h := zif_neg hc_191 h
                        refine zr_aload_n C dyL_law_2019 rfl 4 rfl ?_
                        refine zr_iconst C dyL_law_2020 zc_i_1 ?_
                        refine zv_L_13t C g_171.1 (st := []) h ⟨Nat.le_of_ble_eq_true rfl, Nat.le_of_ble_eq_true rfl⟩ (Nat.le_of_ble_eq_true rfl) dyL_law_2021 ⟨g_171.2.2.1, g_171.2.2.2⟩ (fun r_188 I_189 h => ?_)
                        refine zr_if_ne C dyL_law_2024 (tgt := 2062) (by decide) (fun hc_190 => ?_) (fun hc_190 => ?_)
                        · replace h := zif_neg hc_190 h
                          refine zr_sub (lv2 := [(2, .ref (B + 0))]) [4] rfl ?_
                          exact h
                        · replace h := zif_pos hc_190 h
                          refine zr_sub (lv2 := [(17, .int r_174), (2, .ref (B + 0)), (6, .int v6)]) [0, 4, 5] rfl ?_
                          exact h
                refine zjn (h (fun (I_194 : zI) => zX p l e room_1 s m #[Value.ref b] below meth c (lw_Z below #[Value.ref b] s) D B cA 25 (c0 + 1 + 500 + 1) (u0 + 400 + 3000 + 400) S_154 I_194 [(14, .int v14_161), (13, .int r_158), (2, .ref (B + 0)), (6, .int v6)] [] 1978) (fun I_194 h => ?_)) (fun h => ?_)
                · refine zr_iconst C dyL_law_1978 zc_i_0 ?_
                  exact h
                refine zr_if_eq C dyL_law_1913 (tgt := 1978) (by decide) (fun hc_208 => ?_) (fun hc_208 => ?_)
                · replace h := zif_pos hc_208 h
                  refine zr_sub (lv2 := [(14, .int v14_161), (13, .int r_158), (2, .ref (B + 0)), (6, .int v6)]) [2, 3, 8, 9] rfl ?_
                  exact h
                · replace h := zif_neg hc_208 h
                  refine zr_iload C dyL_law_1916 1 rfl ?_
                  refine zr_bipush C dyL_law_1918 zc_b_m2 ?_
                  refine zjn (h (fun (t_195 : Int32) => zX p l e room_1 s m #[Value.ref b] below meth c (lw_Z below #[Value.ref b] s) D B cA 25 (c0 + 1 + 500 + 1) (u0 + 400 + 3000 + 400) S_154 I_165 [(16, .int r_164), (15, .int r_162), (14, .int v14_161), (13, .int r_158), (11, .int r_146), (2, .ref (B + 0)), (6, .int v6)] [.int t_195] 1928) (fun t_195 h => ?_)) (fun h => ?_)
                  · refine zr_iload C dyL_law_1928 0 rfl ?_
                    refine zr_bipush C dyL_law_1930 zc_b_m2 ?_
                    refine zjn (h (fun (t_196 : Int32) => zX p l e room_1 s m #[Value.ref b] below meth c (lw_Z below #[Value.ref b] s) D B cA 25 (c0 + 1 + 500 + 1) (u0 + 400 + 3000 + 400) S_154 I_165 [(16, .int r_164), (15, .int r_162), (14, .int v14_161), (13, .int r_158), (11, .int r_146), (2, .ref (B + 0)), (6, .int v6)] [.int t_196, .int t_195] 1940) (fun t_196 h => ?_)) (fun h => ?_)
                    · refine zr_icmp_ne C dyL_law_1940 (tgt := 1978) (by decide) (fun hc_205 => ?_) (fun hc_205 => ?_)
                      · replace h := zif_neg hc_205 h
                        refine zr_sub (lv2 := [(14, .int v14_161), (13, .int r_158), (2, .ref (B + 0)), (6, .int v6)]) [2, 3, 5, 6] rfl ?_
                        exact h
                      · replace h := zif_pos hc_205 h
                        refine zr_iload C dyL_law_1943 1 rfl ?_
                        refine zr_iload C dyL_law_1945 4 rfl ?_
                        refine zr_icmp_ge C dyL_law_1947 (tgt := 1978) (by decide) (fun hc_204 => ?_) (fun hc_204 => ?_)
                        · replace h := zif_pos hc_204 h
                          refine zr_sub (lv2 := [(14, .int v14_161), (13, .int r_158), (2, .ref (B + 0)), (6, .int v6)]) [2, 3, 5, 6] rfl ?_
                          exact h
                        · replace h := zif_neg hc_204 h
                          refine zr_iload C dyL_law_1950 0 rfl ?_
                          refine zr_bipush C dyL_law_1952 zc_b_10 ?_
                          refine zr_icmp_ge C dyL_law_1954 (tgt := 1978) (by decide) (fun hc_203 => ?_) (fun hc_203 => ?_)
                          · replace h := zif_pos hc_203 h
                            refine zr_sub (lv2 := [(14, .int v14_161), (13, .int r_158), (2, .ref (B + 0)), (6, .int v6)]) [2, 3, 5, 6] rfl ?_
                            exact h
                          · replace h := zif_neg hc_203 h
                            refine zr_aload_n C dyL_law_1957 rfl 5 rfl ?_
                            refine zv_L_151t C g_156.1 (st := []) h ⟨Nat.le_of_ble_eq_true rfl, Nat.le_of_ble_eq_true rfl⟩ (Nat.le_of_ble_eq_true rfl) dyL_law_1958 ⟨g_156.2.2.1, g_156.2.2.2⟩ (fun r_197 I_198 h => ?_)
                            refine zr_if_lt C dyL_law_1961 (tgt := 1978) (by decide) (fun hc_202 => ?_) (fun hc_202 => ?_)
                            · replace h := zif_pos hc_202 h
                              refine zr_sub (lv2 := [(14, .int v14_161), (13, .int r_158), (2, .ref (B + 0)), (6, .int v6)]) [2, 3, 5, 6] rfl ?_
                              exact h
                            · replace h := zif_neg hc_202 h
                              refine zr_aload_n C dyL_law_1964 rfl 5 rfl ?_
                              refine zv_L_151t C g_156.1 (st := []) h ⟨Nat.le_of_ble_eq_true rfl, Nat.le_of_ble_eq_true rfl⟩ (Nat.le_of_ble_eq_true rfl) dyL_law_1965 ⟨g_156.2.2.1, g_156.2.2.2⟩ (fun r_199 I_200 h => ?_)
                              refine zr_sipush C dyL_law_1968 zc_s_2048 ?_
                              refine zr_icmp_ge C dyL_law_1971 (tgt := 1978) (by decide) (fun hc_201 => ?_) (fun hc_201 => ?_)
                              · replace h := zif_pos hc_201 h
                                refine zr_sub (lv2 := [(14, .int v14_161), (13, .int r_158), (2, .ref (B + 0)), (6, .int v6)]) [2, 3, 5, 6] rfl ?_
                                exact h
                              · replace h := zif_neg hc_201 h
                                refine zr_iconst C dyL_law_1974 zc_i_1 ?_
                                refine zr_goto C dyL_law_1975 (tgt := 1979) (by decide) ?_
                                refine zr_sub (lv2 := [(14, .int v14_161), (13, .int r_158), (2, .ref (B + 0)), (6, .int v6)]) [2, 3, 5, 6] rfl ?_
                                exact h
                    refine zr_icmp_ne C dyL_law_1932 (tgt := 1939) (by decide) (fun hc_206 => ?_) (fun hc_206 => ?_)
                    · replace h := zif_neg hc_206 h
                      refine zr_iconst C dyL_law_1939 zc_i_0 ?_
                      exact h
                    · replace h := zif_pos hc_206 h
                      refine zr_iconst C dyL_law_1935 zc_i_1 ?_
                      refine zr_goto C dyL_law_1936 (tgt := 1940) (by decide) ?_
                      exact h
                  refine zr_icmp_ne C dyL_law_1920 (tgt := 1927) (by decide) (fun hc_207 => ?_) (fun hc_207 => ?_)
                  · replace h := zif_neg hc_207 h
                    refine zr_iconst C dyL_law_1927 zc_i_0 ?_
                    refine zr_sub (lv2 := [(16, .int r_164), (15, .int r_162), (14, .int v14_161), (13, .int r_158), (11, .int r_146), (2, .ref (B + 0)), (6, .int v6)]) [0, 1, 2, 3, 5, 8, 9] rfl ?_
                    exact h
                  · replace h := zif_pos hc_207 h
                    refine zr_iconst C dyL_law_1923 zc_i_1 ?_
                    refine zr_goto C dyL_law_1924 (tgt := 1928) (by decide) ?_
                    refine zr_sub (lv2 := [(16, .int r_164), (15, .int r_162), (14, .int v14_161), (13, .int r_158), (11, .int r_146), (2, .ref (B + 0)), (6, .int v6)]) [0, 1, 2, 3, 5, 8, 9] rfl ?_
                    exact h
              refine zjn (h (zX p l e room_1 s m #[Value.ref b] below meth c (lw_Z below #[Value.ref b] s) D B cA 25 (c0 + 1 + 500 + 1) (u0 + 400 + 3000 + 400) S_154 I_155 [(11, .int r_146), (10, .int r_144), (9, .int r_142), (2, .ref (B + 0)), (6, .int v6)] [] 1860) (fun  h => ?_)) (fun h => ?_)
              · refine zr_iconst C dyL_law_1860 zc_i_0 ?_
                exact h
              refine zr_if_lt C dyL_law_1840 (tgt := 1860) (by decide) (fun hc_212 => ?_) (fun hc_212 => ?_)
              · replace h := zif_pos hc_212 h
                refine zr_sub (lv2 := [(11, .int r_146), (10, .int r_144), (9, .int r_142), (2, .ref (B + 0)), (6, .int v6)]) [1, 2, 3, 6, 7] rfl ?_
                exact h
              · replace h := zif_neg hc_212 h
                refine zr_iload C dyL_law_1843 2 rfl ?_
                refine zr_if_le C dyL_law_1845 (tgt := 1860) (by decide) (fun hc_211 => ?_) (fun hc_211 => ?_)
                · replace h := zif_pos hc_211 h
                  refine zr_sub (lv2 := [(11, .int r_146), (10, .int r_144), (9, .int r_142), (2, .ref (B + 0)), (6, .int v6)]) [1, 2, 3, 6, 7] rfl ?_
                  exact h
                · replace h := zif_neg hc_211 h
                  refine zr_aload C dyL_law_1848 0 rfl ?_
                  refine zv_L_134t C g_156.1 (st := []) h ⟨Nat.le_of_ble_eq_true rfl, Nat.le_of_ble_eq_true rfl⟩ (Nat.le_of_ble_eq_true rfl) dyL_law_1850 ⟨g_156.2.2.1, g_156.2.2.2⟩ (fun r_209 h => ?_)
                  refine zr_if_lt C dyL_law_1853 (tgt := 1860) (by decide) (fun hc_210 => ?_) (fun hc_210 => ?_)
                  · replace h := zif_pos hc_210 h
                    refine zr_sub (lv2 := [(11, .int r_146), (10, .int r_144), (9, .int r_142), (2, .ref (B + 0)), (6, .int v6)]) [1, 2, 3, 6, 7] rfl ?_
                    exact h
                  · replace h := zif_neg hc_210 h
                    refine zr_iconst C dyL_law_1856 zc_i_1 ?_
                    refine zr_goto C dyL_law_1857 (tgt := 1861) (by decide) ?_
                    refine zr_sub (lv2 := [(11, .int r_146), (10, .int r_144), (9, .int r_142), (2, .ref (B + 0)), (6, .int v6)]) [1, 2, 3, 6, 7] rfl ?_
                    exact h
        refine zjn (h (zX p l e room_1 s m #[Value.ref b] below meth c (lw_Z below #[Value.ref b] s) D B cA 25 c0 u0 S I_23 [(2, .ref (B + 0)), (6, .int v6)] [] 1787) (fun  h => ?_)) (fun h => ?_)
        · refine zr_iconst C dyL_law_1787 zc_i_0 ?_
          exact h
        refine zr_if_eq C dyL_law_1749 (tgt := 1787) (by decide) (fun hc_221 => ?_) (fun hc_221 => ?_)
        · replace h := zif_pos hc_221 h
          refine zr_sub (lv2 := [(2, .ref (B + 0)), (6, .int v6)]) [1, 4] rfl ?_
          exact h
        · replace h := zif_neg hc_221 h
          refine zr_aload_n C dyL_law_1752 rfl 1 rfl ?_
          refine zr_iconst C dyL_law_1753 zc_i_4 ?_
          refine zv_L_36t C hg.1 (st := []) h ⟨Nat.le_of_ble_eq_true rfl, Nat.le_of_ble_eq_true rfl⟩ (Nat.le_of_ble_eq_true rfl) dyL_law_1754 ⟨hg.2.2.1, hg.2.2.2⟩ (fun r_215 h => ?_)
          refine zr_iload C dyL_law_1757 2 rfl ?_
          refine zr_icmp_ne C dyL_law_1759 (tgt := 1787) (by decide) (fun hc_220 => ?_) (fun hc_220 => ?_)
          · replace h := zif_neg hc_220 h
            refine zr_sub (lv2 := [(2, .ref (B + 0)), (6, .int v6)]) [1, 4] rfl ?_
            exact h
          · replace h := zif_pos hc_220 h
            refine zr_aload_n C dyL_law_1762 rfl 1 rfl ?_
            refine zr_iconst C dyL_law_1763 zc_i_0 ?_
            refine zv_L_36t C hg.1 (st := []) h ⟨Nat.le_of_ble_eq_true rfl, Nat.le_of_ble_eq_true rfl⟩ (Nat.le_of_ble_eq_true rfl) dyL_law_1764 ⟨hg.2.2.1, hg.2.2.2⟩ (fun r_216 h => ?_)
            refine zr_iload C dyL_law_1767 3 rfl ?_
            refine zr_icmp_ne C dyL_law_1769 (tgt := 1787) (by decide) (fun hc_219 => ?_) (fun hc_219 => ?_)
            · replace h := zif_neg hc_219 h
              refine zr_sub (lv2 := [(2, .ref (B + 0)), (6, .int v6)]) [1, 4] rfl ?_
              exact h
            · replace h := zif_pos hc_219 h
              refine zr_aload_n C dyL_law_1772 rfl 1 rfl ?_
              refine zr_bipush C dyL_law_1773 zc_b_9 ?_
              refine zv_L_36t C hg.1 (st := []) h ⟨Nat.le_of_ble_eq_true rfl, Nat.le_of_ble_eq_true rfl⟩ (Nat.le_of_ble_eq_true rfl) dyL_law_1775 ⟨hg.2.2.1, hg.2.2.2⟩ (fun r_217 h => ?_)
              refine zr_iload C dyL_law_1778 5 rfl ?_
              refine zr_icmp_ne C dyL_law_1780 (tgt := 1787) (by decide) (fun hc_218 => ?_) (fun hc_218 => ?_)
              · replace h := zif_neg hc_218 h
                refine zr_sub (lv2 := [(2, .ref (B + 0)), (6, .int v6)]) [1, 4] rfl ?_
                exact h
              · replace h := zif_pos hc_218 h
                refine zr_iconst C dyL_law_1783 zc_i_1 ?_
                refine zr_goto C dyL_law_1784 (tgt := 1788) (by decide) ?_
                refine zr_sub (lv2 := [(2, .ref (B + 0)), (6, .int v6)]) [1, 4] rfl ?_
                exact h
      refine zr_icmp_ge C dyL_law_1730 (tgt := 1748) (by decide) (fun hc_226 => ?_) (fun hc_226 => ?_)
      · replace h := zif_pos hc_226 h
        refine zr_sub (lv2 := [(3, .int v3_21), (2, .ref (B + 0)), (4, .int v4), (5, .int v5), (6, .int v6), (7, .int v7)]) [1, 2, 3, 4, 5, 6] rfl ?_
        exact h
      · replace h := zif_neg hc_226 h
        refine zr_iload_n C dyL_law_1733 rfl 1 rfl ?_
        refine zr_if_eq C dyL_law_1734 (tgt := 1748) (by decide) (fun hc_225 => ?_) (fun hc_225 => ?_)
        · replace h := zif_pos hc_225 h
          refine zr_sub (lv2 := [(3, .int v3_21), (2, .ref (B + 0)), (4, .int v4), (5, .int v5), (6, .int v6), (7, .int v7)]) [1, 2, 3, 4, 5, 6] rfl ?_
          exact h
        · replace h := zif_neg hc_225 h
          refine zr_aload_n C dyL_law_1737 rfl 2 rfl ?_
          refine zv_L_93t C hg.1 (st := []) h ⟨Nat.le_of_ble_eq_true rfl, Nat.le_of_ble_eq_true rfl⟩ (Nat.le_of_ble_eq_true rfl) dyL_law_1738 ⟨hg.2.2.1, hg.2.2.2⟩ (fun r_222 I_223 h => ?_)
          refine zr_istore_n C dyL_law_1741 rfl (Nat.le_of_ble_eq_true rfl) (lv2 := [(3, .int r_222), (8, .int v8_22), (2, .ref (B + 0)), (4, .int v4), (5, .int v5), (6, .int v6), (7, .int v7)]) rfl ?_
          refine zn_iinc C (fun v8_224 => [(8, .int v8_224), (3, .int r_222), (2, .ref (B + 0)), (4, .int v4), (5, .int v5), (6, .int v6), (7, .int v7)]) dyL_law_1742 1 rfl zc_i_1 (Nat.le_of_ble_eq_true rfl) (fun _ => rfl) (fun v8_224 ev8_224 => ?_)
          replace h := h v8_224 ev8_224
          refine zr_goto C dyL_law_1745 (tgt := 1726) (by decide) ?_
          exact h
    exact h
  refine zjn (h (fun (I_227 : zI) => zX p l e room_1 s m #[Value.ref b] below meth c (lw_Z below #[Value.ref b] s) D B cA 25 c0 u0 S I_227 [(2, .ref (B + 0)), (4, .int v4), (5, .int v5), (6, .int v6), (7, .int v7)] [] 1721) (fun I_227 h => ?_)) (fun h => ?_)
  · refine zr_iconst C dyL_law_1721 zc_i_0 ?_
    exact h
  refine zr_if_eq C dyL_law_1693 (tgt := 1721) (by decide) (fun hc_233 => ?_) (fun hc_233 => ?_)
  · replace h := zif_pos hc_233 h
    refine zr_sub (lv2 := [(2, .ref (B + 0)), (4, .int v4), (5, .int v5), (6, .int v6), (7, .int v7)]) [0, 2, 3, 4, 5] rfl ?_
    exact h
  · replace h := zif_neg hc_233 h
    refine zr_aload_n C dyL_law_1696 rfl 0 rfl ?_
    refine zv_L_89t C hg.1 (st := []) h ⟨Nat.le_of_ble_eq_true rfl, Nat.le_of_ble_eq_true rfl⟩ (Nat.le_of_ble_eq_true rfl) dyL_law_1697 ⟨hg.2.2.1, hg.2.2.2⟩ (fun r_228 I_229 h => ?_)
    refine zr_if_ne C dyL_law_1700 (tgt := 1721) (by decide) (fun hc_232 => ?_) (fun hc_232 => ?_)
    · replace h := zif_neg hc_232 h
      refine zr_sub (lv2 := [(2, .ref (B + 0)), (4, .int v4), (5, .int v5), (6, .int v6), (7, .int v7)]) [0, 2, 3, 4, 5] rfl ?_
      exact h
    · replace h := zif_pos hc_232 h
      refine zr_aload_n C dyL_law_1703 rfl 0 rfl ?_
      refine zr_bipush C dyL_law_1704 zc_b_9 ?_
      refine zv_L_36t C hg.1 (st := []) h ⟨Nat.le_of_ble_eq_true rfl, Nat.le_of_ble_eq_true rfl⟩ (Nat.le_of_ble_eq_true rfl) dyL_law_1706 ⟨hg.2.2.1, hg.2.2.2⟩ (fun r_230 h => ?_)
      refine zr_iload C dyL_law_1709 4 rfl ?_
      refine zr_iload C dyL_law_1711 5 rfl ?_
      refine zr_iadd C dyL_law_1713 ?_
      refine zr_icmp_ne C dyL_law_1714 (tgt := 1721) (by decide) (fun hc_231 => ?_) (fun hc_231 => ?_)
      · replace h := zif_neg hc_231 h
        refine zr_sub (lv2 := [(2, .ref (B + 0)), (4, .int v4), (5, .int v5), (6, .int v6), (7, .int v7)]) [0, 2, 3, 4, 5] rfl ?_
        exact h
      · replace h := zif_pos hc_231 h
        refine zr_iconst C dyL_law_1717 zc_i_1 ?_
        refine zr_goto C dyL_law_1718 (tgt := 1722) (by decide) ?_
        refine zr_sub (lv2 := [(2, .ref (B + 0)), (4, .int v4), (5, .int v5), (6, .int v6), (7, .int v7)]) [0, 2, 3, 4, 5] rfl ?_
        exact h
def w_law_1615 (v3 : Int32) (c0 u0 : Nat) (S : List zC) (I : zI) : Prop :=
  w_Desk_count 4 I (fun r_8 => w_Desk_count 0 I (fun r_9 => w_Desk_count 8 I (fun r_10 => w_Desk_count 9 I (fun r_11 => ∀ (P1648 : Int32 → Int32 → (List zC) → Nat → Nat → zI → Prop), (∀ (v3_12 : Int32) (v8_13 : Int32) (S_14 : List zC) (c_15 : Nat) (u_16 : Nat) (I_18 : zI), (∀ (P1692 : Prop), ((w_law_1692 v3_12 r_8 r_9 r_10 r_11 c_15 u_16 S_14 I_18) → P1692) → (if r_10 ≤ v8_13 then P1692 else (if v3_12 = 0 then P1692 else (w_Desk_undo I_18 (fun r_234 I_235 => ∀ (P1685 : Int32 → (List zC) → Nat → Nat → zI → Prop), (∀ (t_236 : Int32) (S_237 : List zC) (c_238 : Nat) (u_239 : Nat) (I_241 : zI), (∀ v8_242, v8_242 = (v8_13 + 1) → P1648 t_236 v8_242 S_237 c_238 u_239 I_241) → P1685 t_236 S_237 c_238 u_239 I_241) → ∀ (P1684 : (List zC) → Nat → Nat → zI → Prop), (∀ (S_243 : List zC) (c_244 : Nat) (u_245 : Nat) (I_247 : zI), (P1685 0 S_243 c_244 u_245 I_247) → P1684 S_243 c_244 u_245 I_247) → (if r_234 = 0 then P1684 S_14 c_15 u_16 I_235 else (∀ (P1680 : (List zC) → Nat → Nat → zI → Prop), (∀ (S_248 : List zC) (c_249 : Nat) (u_250 : Nat) (I_252 : zI), (P1685 1 S_248 c_249 u_250 I_252) → P1680 S_248 c_249 u_250 I_252) → (if 0 < (v8_13 - v8_13 / 4 * 4) then P1680 S_14 c_15 u_16 I_235 else ((c_15 + 500 ≤ 600000 ∧ u_16 + 3000 ≤ 7302250) ∧ w_Law_stands S_14 I_235 (fun r_253 S_254 I_255 => (if r_253 = 0 then (P1684 S_254 (c_15 + 500) (u_16 + 3000) I_255) else (P1680 S_254 (c_15 + 500) (u_16 + 3000) I_255)))))))))))) → P1648 v3_12 v8_13 S_14 c_15 u_16 I_18) → P1648 v3 0 S c0 u0 I))))
set_option maxHeartbeats 8000000 in
set_option maxRecDepth 20000 in
theorem zl_law_1615 {p : Program} {l : Launch} {e : Env} {s : State} {m : MethodId} {below : List Frame} {meth : Method} {c : Code} {D : va_G} {B : Nat} {cA : Nat → ClassId} {ad : Nat → Nat} {b : Nat} {S0 S : List zC} {I : zI} {c0 u0 : Nat} (C : zCx p s m #[Value.ref b] meth c cL_law 25 RL ret D B cA ad) (hB : B = s.heap.size + 1) {v3 : Int32}  (hg : zGo S0 600000 7302250 S c0 u0) (h : w_law_1615 v3 c0 u0 S I)  : zX p l e room_1 s m #[Value.ref b] below meth c (lw_Z below #[Value.ref b] s) D B cA 25 c0 u0 S I [(2, .ref (B + 0)), (3, .int v3)] [] 1615 := by
  unfold w_law_1615 at h
  refine zr_aload_n C dyL_law_1615 rfl 0 rfl ?_
  refine zr_iconst C dyL_law_1616 zc_i_4 ?_
  refine zv_L_36t C hg.1 (st := []) h ⟨Nat.le_of_ble_eq_true rfl, Nat.le_of_ble_eq_true rfl⟩ (Nat.le_of_ble_eq_true rfl) dyL_law_1617 ⟨hg.2.2.1, hg.2.2.2⟩ (fun r_8 h => ?_)
  refine zr_istore C dyL_law_1620 (Nat.le_of_ble_eq_true rfl) (lv2 := [(4, .int r_8), (2, .ref (B + 0)), (3, .int v3)]) rfl ?_
  refine zr_aload_n C dyL_law_1622 rfl 1 rfl ?_
  refine zr_iconst C dyL_law_1623 zc_i_0 ?_
  refine zv_L_36t C hg.1 (st := []) h ⟨Nat.le_of_ble_eq_true rfl, Nat.le_of_ble_eq_true rfl⟩ (Nat.le_of_ble_eq_true rfl) dyL_law_1624 ⟨hg.2.2.1, hg.2.2.2⟩ (fun r_9 h => ?_)
  refine zr_istore C dyL_law_1627 (Nat.le_of_ble_eq_true rfl) (lv2 := [(5, .int r_9), (4, .int r_8), (2, .ref (B + 0)), (3, .int v3)]) rfl ?_
  refine zr_aload_n C dyL_law_1629 rfl 2 rfl ?_
  refine zr_bipush C dyL_law_1630 zc_b_8 ?_
  refine zv_L_36t C hg.1 (st := []) h ⟨Nat.le_of_ble_eq_true rfl, Nat.le_of_ble_eq_true rfl⟩ (Nat.le_of_ble_eq_true rfl) dyL_law_1632 ⟨hg.2.2.1, hg.2.2.2⟩ (fun r_10 h => ?_)
  refine zr_istore C dyL_law_1635 (Nat.le_of_ble_eq_true rfl) (lv2 := [(6, .int r_10), (5, .int r_9), (4, .int r_8), (2, .ref (B + 0)), (3, .int v3)]) rfl ?_
  refine zr_aload_n C dyL_law_1637 rfl 3 rfl ?_
  refine zr_bipush C dyL_law_1638 zc_b_9 ?_
  refine zv_L_36t C hg.1 (st := []) h ⟨Nat.le_of_ble_eq_true rfl, Nat.le_of_ble_eq_true rfl⟩ (Nat.le_of_ble_eq_true rfl) dyL_law_1640 ⟨hg.2.2.1, hg.2.2.2⟩ (fun r_11 h => ?_)
  refine zr_istore C dyL_law_1643 (Nat.le_of_ble_eq_true rfl) (lv2 := [(7, .int r_11), (6, .int r_10), (5, .int r_9), (4, .int r_8), (2, .ref (B + 0)), (3, .int v3)]) rfl ?_
  refine zr_iconst C dyL_law_1645 zc_i_0 ?_
  refine zr_istore C dyL_law_1646 (Nat.le_of_ble_eq_true rfl) (lv2 := [(8, .int 0), (7, .int r_11), (6, .int r_10), (5, .int r_9), (4, .int r_8), (2, .ref (B + 0)), (3, .int v3)]) rfl ?_
  refine zjn (h (fun (v3_12 : Int32) (v8_13 : Int32) (S_14 : List zC) (c_15 : Nat) (u_16 : Nat) (I_18 : zI) => zGo S0 600000 7302250 S_14 c_15 u_16 → zX p l e room_1 s m #[Value.ref b] below meth c (lw_Z below #[Value.ref b] s) D B cA 25 c_15 u_16 S_14 I_18 [(8, .int v8_13), (7, .int r_11), (6, .int r_10), (5, .int r_9), (4, .int r_8), (2, .ref (B + 0)), (3, .int v3_12)] [] 1648) (fun v3_12 v8_13 S_14 c_15 u_16 I_18 h g_17 => ?_)) (fun h => ?_)
  · refine zr_iload C dyL_law_1648 0 rfl ?_
    refine zr_iload C dyL_law_1650 2 rfl ?_
    refine zjn (h (zX p l e room_1 s m #[Value.ref b] below meth c (lw_Z below #[Value.ref b] s) D B cA 25 c_15 u_16 S_14 I_18 [(7, .int r_11), (6, .int r_10), (5, .int r_9), (4, .int r_8), (2, .ref (B + 0)), (3, .int v3_12)] [] 1692) (fun  h => ?_)) (fun h => ?_)
    · refine zr_sub (lv2 := [(2, .ref (B + 0)), (3, .int v3_12), (4, .int r_8), (5, .int r_9), (6, .int r_10), (7, .int r_11)]) [4, 5, 3, 2, 1, 0] rfl ?_
      exact zl_law_1692 C hB g_17 h
    refine zr_icmp_ge C dyL_law_1652 (tgt := 1692) (by decide) (fun hc_261 => ?_) (fun hc_261 => ?_)
    · replace h := zif_pos hc_261 h
      refine zr_sub (lv2 := [(7, .int r_11), (6, .int r_10), (5, .int r_9), (4, .int r_8), (2, .ref (B + 0)), (3, .int v3_12)]) [1, 2, 3, 4, 5, 6] rfl ?_
      exact h
    · replace h := zif_neg hc_261 h
      refine zr_iload_n C dyL_law_1655 rfl 6 rfl ?_
      refine zr_if_eq C dyL_law_1656 (tgt := 1692) (by decide) (fun hc_260 => ?_) (fun hc_260 => ?_)
      · replace h := zif_pos hc_260 h
        refine zr_sub (lv2 := [(7, .int r_11), (6, .int r_10), (5, .int r_9), (4, .int r_8), (2, .ref (B + 0)), (3, .int v3_12)]) [1, 2, 3, 4, 5, 6] rfl ?_
        exact h
      · replace h := zif_neg hc_260 h
        refine zr_aload_n C dyL_law_1659 rfl 5 rfl ?_
        refine zv_L_89t C g_17.1 (st := []) h ⟨Nat.le_of_ble_eq_true rfl, Nat.le_of_ble_eq_true rfl⟩ (Nat.le_of_ble_eq_true rfl) dyL_law_1660 ⟨g_17.2.2.1, g_17.2.2.2⟩ (fun r_234 I_235 h => ?_)
        refine zjn (h (fun (t_236 : Int32) (S_237 : List zC) (c_238 : Nat) (u_239 : Nat) (I_241 : zI) => zGo S0 600000 7302250 S_237 c_238 u_239 → zX p l e room_1 s m #[Value.ref b] below meth c (lw_Z below #[Value.ref b] s) D B cA 25 c_238 u_239 S_237 I_241 [(8, .int v8_13), (7, .int r_11), (6, .int r_10), (5, .int r_9), (4, .int r_8), (2, .ref (B + 0))] [.int t_236] 1685) (fun t_236 S_237 c_238 u_239 I_241 h g_240 => ?_)) (fun h => ?_)
        · refine zr_istore_n C dyL_law_1685 rfl (Nat.le_of_ble_eq_true rfl) (lv2 := [(3, .int t_236), (8, .int v8_13), (7, .int r_11), (6, .int r_10), (5, .int r_9), (4, .int r_8), (2, .ref (B + 0))]) rfl ?_
          refine zn_iinc C (fun v8_242 => [(8, .int v8_242), (3, .int t_236), (7, .int r_11), (6, .int r_10), (5, .int r_9), (4, .int r_8), (2, .ref (B + 0))]) dyL_law_1686 1 rfl zc_i_1 (Nat.le_of_ble_eq_true rfl) (fun _ => rfl) (fun v8_242 ev8_242 => ?_)
          replace h := h v8_242 ev8_242
          refine zr_goto C dyL_law_1689 (tgt := 1648) (by decide) ?_
          refine zr_sub (lv2 := [(8, .int v8_242), (7, .int r_11), (6, .int r_10), (5, .int r_9), (4, .int r_8), (2, .ref (B + 0)), (3, .int t_236)]) [0, 2, 3, 4, 5, 6, 1] rfl ?_
          exact h g_240
        refine zjn (h (fun (S_243 : List zC) (c_244 : Nat) (u_245 : Nat) (I_247 : zI) => zGo S0 600000 7302250 S_243 c_244 u_245 → zX p l e room_1 s m #[Value.ref b] below meth c (lw_Z below #[Value.ref b] s) D B cA 25 c_244 u_245 S_243 I_247 [(8, .int v8_13), (7, .int r_11), (6, .int r_10), (5, .int r_9), (4, .int r_8), (2, .ref (B + 0))] [] 1684) (fun S_243 c_244 u_245 I_247 h g_246 => ?_)) (fun h => ?_)
        · refine zr_iconst C dyL_law_1684 zc_i_0 ?_
          exact h g_246
        refine zr_if_eq C dyL_law_1663 (tgt := 1684) (by decide) (fun hc_259 => ?_) (fun hc_259 => ?_)
        · replace h := zif_pos hc_259 h
          refine zr_sub (lv2 := [(8, .int v8_13), (7, .int r_11), (6, .int r_10), (5, .int r_9), (4, .int r_8), (2, .ref (B + 0))]) [0, 1, 2, 3, 4, 5] rfl ?_
          exact h g_17
        · replace h := zif_neg hc_259 h
          refine zr_iload C dyL_law_1666 0 rfl ?_
          refine zr_iconst C dyL_law_1668 zc_i_4 ?_
          refine zr_irem C dyL_law_1669 (by decide) ?_
          refine zjn (h (fun (S_248 : List zC) (c_249 : Nat) (u_250 : Nat) (I_252 : zI) => zGo S0 600000 7302250 S_248 c_249 u_250 → zX p l e room_1 s m #[Value.ref b] below meth c (lw_Z below #[Value.ref b] s) D B cA 25 c_249 u_250 S_248 I_252 [(8, .int v8_13), (7, .int r_11), (6, .int r_10), (5, .int r_9), (4, .int r_8), (2, .ref (B + 0))] [] 1680) (fun S_248 c_249 u_250 I_252 h g_251 => ?_)) (fun h => ?_)
          · refine zr_iconst C dyL_law_1680 zc_i_1 ?_
            refine zr_goto C dyL_law_1681 (tgt := 1685) (by decide) ?_
            exact h g_251
          refine zr_if_gt C dyL_law_1670 (tgt := 1680) (by decide) (fun hc_258 => ?_) (fun hc_258 => ?_)
          · replace h := zif_pos hc_258 h
            refine zr_sub (lv2 := [(8, .int v8_13), (7, .int r_11), (6, .int r_10), (5, .int r_9), (4, .int r_8), (2, .ref (B + 0))]) [0, 1, 2, 3, 4, 5] rfl ?_
            exact h g_17
          · replace h := zif_neg hc_258 h
            refine zr_aload_n C dyL_law_1673 rfl 5 rfl ?_
            refine zv_L_141t C g_17 (st := []) h.2 ⟨Nat.le_of_ble_eq_true rfl, Nat.le_of_ble_eq_true rfl⟩ (Nat.le_of_ble_eq_true rfl) dyL_law_1674 h.1 (fun r_253 S_254 I_255 g_256 h => ?_)
            refine zr_if_eq C dyL_law_1677 (tgt := 1684) (by decide) (fun hc_257 => ?_) (fun hc_257 => ?_)
            · replace h := zif_pos hc_257 h
              refine zr_sub (lv2 := [(8, .int v8_13), (7, .int r_11), (6, .int r_10), (5, .int r_9), (4, .int r_8), (2, .ref (B + 0))]) [0, 1, 2, 3, 4, 5] rfl ?_
              exact h g_256
            · replace h := zif_neg hc_257 h
              refine zr_sub (lv2 := [(8, .int v8_13), (7, .int r_11), (6, .int r_10), (5, .int r_9), (4, .int r_8), (2, .ref (B + 0))]) [0, 1, 2, 3, 4, 5] rfl ?_
              exact h g_256
  exact h hg
def w_law_1592 (v3 : Int32) (v4 : Int32) (P44 : Int32 → Int32 → (List zC) → Nat → Nat → zI → Prop) (c0 u0 : Nat) (S : List zC) (I : zI) : Prop :=
  ∀ (P1608 : Int32 → (List zC) → Nat → Nat → zI → Prop), (∀ (t_289 : Int32) (S_290 : List zC) (c_291 : Nat) (u_292 : Nat) (I_294 : zI), (∀ v4_295, v4_295 = (v4 + 1) → P44 t_289 v4_295 S_290 c_291 u_292 I_294) → P1608 t_289 S_290 c_291 u_292 I_294) → ∀ (P1607 : (List zC) → Nat → Nat → zI → Prop), (∀ (S_296 : List zC) (c_297 : Nat) (u_298 : Nat) (I_300 : zI), (P1608 0 S_296 c_297 u_298 I_300) → P1607 S_296 c_297 u_298 I_300) → (if v3 = 0 then P1607 S c0 u0 I else ((c0 + 500 ≤ 600000 ∧ u0 + 3000 ≤ 7302250) ∧ w_Law_stands S I (fun r_301 S_302 I_303 => (if r_301 = 0 then (P1607 S_302 (c0 + 500) (u0 + 3000) I_303) else (P1608 1 S_302 (c0 + 500) (u0 + 3000) I_303)))))
set_option maxHeartbeats 8000000 in
set_option maxRecDepth 20000 in
theorem zl_law_1592 {p : Program} {l : Launch} {e : Env} {s : State} {m : MethodId} {below : List Frame} {meth : Method} {c : Code} {D : va_G} {B : Nat} {cA : Nat → ClassId} {ad : Nat → Nat} {b : Nat} {S0 S : List zC} {I : zI} {c0 u0 : Nat} (C : zCx p s m #[Value.ref b] meth c cL_law 25 RL ret D B cA ad) (hB : B = s.heap.size + 1) {v3 : Int32} {v4 : Int32} {P44 : Int32 → Int32 → (List zC) → Nat → Nat → zI → Prop}  (hg : zGo S0 600000 7302250 S c0 u0) (h : w_law_1592 v3 v4 P44 c0 u0 S I) (kP44 : ∀ (v3_1 : Int32) (v4_2 : Int32) (S_3 : List zC) (c_4 : Nat) (u_5 : Nat) (I_7 : zI), P44 v3_1 v4_2 S_3 c_4 u_5 I_7 → zGo S0 600000 7302250 S_3 c_4 u_5 → zX p l e room_1 s m #[Value.ref b] below meth c (lw_Z below #[Value.ref b] s) D B cA 25 c_4 u_5 S_3 I_7 [(4, .int v4_2), (3, .int v3_1), (2, .ref (B + 0)), (1, .ref s.heap.size)] [] 44) : zX p l e room_1 s m #[Value.ref b] below meth c (lw_Z below #[Value.ref b] s) D B cA 25 c0 u0 S I [(1, .ref s.heap.size), (2, .ref (B + 0)), (3, .int v3), (4, .int v4)] [] 1592 := by
  unfold w_law_1592 at h
  refine zr_iload_n C dyL_law_1592 rfl 2 rfl ?_
  refine zjn (h (fun (t_289 : Int32) (S_290 : List zC) (c_291 : Nat) (u_292 : Nat) (I_294 : zI) => zGo S0 600000 7302250 S_290 c_291 u_292 → zX p l e room_1 s m #[Value.ref b] below meth c (lw_Z below #[Value.ref b] s) D B cA 25 c_291 u_292 S_290 I_294 [(1, .ref s.heap.size), (2, .ref (B + 0)), (4, .int v4)] [.int t_289] 1608) (fun t_289 S_290 c_291 u_292 I_294 h g_293 => ?_)) (fun h => ?_)
  · refine zr_istore_n C dyL_law_1608 rfl (Nat.le_of_ble_eq_true rfl) (lv2 := [(3, .int t_289), (1, .ref s.heap.size), (2, .ref (B + 0)), (4, .int v4)]) rfl ?_
    refine zn_iinc C (fun v4_295 => [(4, .int v4_295), (3, .int t_289), (1, .ref s.heap.size), (2, .ref (B + 0))]) dyL_law_1609 3 rfl zc_i_1 (Nat.le_of_ble_eq_true rfl) (fun _ => rfl) (fun v4_295 ev4_295 => ?_)
    replace h := h v4_295 ev4_295
    refine zr_goto C dyL_law_1612 (tgt := 44) (by decide) ?_
    refine zr_sub (lv2 := [(4, .int v4_295), (3, .int t_289), (2, .ref (B + 0)), (1, .ref s.heap.size)]) [0, 1, 3, 2] rfl ?_
    exact kP44 _ _ _ _ _ _ h g_293
  refine zjn (h (fun (S_296 : List zC) (c_297 : Nat) (u_298 : Nat) (I_300 : zI) => zGo S0 600000 7302250 S_296 c_297 u_298 → zX p l e room_1 s m #[Value.ref b] below meth c (lw_Z below #[Value.ref b] s) D B cA 25 c_297 u_298 S_296 I_300 [(1, .ref s.heap.size), (2, .ref (B + 0)), (4, .int v4)] [] 1607) (fun S_296 c_297 u_298 I_300 h g_299 => ?_)) (fun h => ?_)
  · refine zr_iconst C dyL_law_1607 zc_i_0 ?_
    exact h g_299
  refine zr_if_eq C dyL_law_1593 (tgt := 1607) (by decide) (fun hc_306 => ?_) (fun hc_306 => ?_)
  · replace h := zif_pos hc_306 h
    refine zr_sub (lv2 := [(1, .ref s.heap.size), (2, .ref (B + 0)), (4, .int v4)]) [0, 1, 3] rfl ?_
    exact h hg
  · replace h := zif_neg hc_306 h
    refine zr_aload_n C dyL_law_1596 rfl 1 rfl ?_
    refine zv_L_141t C hg (st := []) h.2 ⟨Nat.le_of_ble_eq_true rfl, Nat.le_of_ble_eq_true rfl⟩ (Nat.le_of_ble_eq_true rfl) dyL_law_1597 h.1 (fun r_301 S_302 I_303 g_304 h => ?_)
    refine zr_if_eq C dyL_law_1600 (tgt := 1607) (by decide) (fun hc_305 => ?_) (fun hc_305 => ?_)
    · replace h := zif_pos hc_305 h
      refine zr_sub (lv2 := [(1, .ref s.heap.size), (2, .ref (B + 0)), (4, .int v4)]) [0, 1, 3] rfl ?_
      exact h g_304
    · replace h := zif_neg hc_305 h
      refine zr_iconst C dyL_law_1603 zc_i_1 ?_
      refine zr_goto C dyL_law_1604 (tgt := 1608) (by decide) ?_
      refine zr_sub (lv2 := [(1, .ref s.heap.size), (2, .ref (B + 0)), (4, .int v4)]) [0, 1, 3] rfl ?_
      exact h g_304
def w_law_1422 (v3 : Int32) (v4 : Int32) (v5 : Int32) (v6 : Int32) (v7 : Int32) (v10 : Int32) (v11 : Int32) (v15 : Int32) (P44 : Int32 → Int32 → (List zC) → Nat → Nat → zI → Prop) (c0 u0 : Nat) (S : List zC) (I : zI) : Prop :=
  ∀ (P1539 : Int32 → Prop), (∀ (v3_287 : Int32), (∀ (P1592 : Int32 → Prop), (∀ (v3_288 : Int32), (w_law_1592 v3_288 v4 P44 c0 u0 S I) → P1592 v3_288) → (if 0 ≤ v15 then P1592 v3_287 else (if v15 ≤ (-2) then P1592 v3_287 else (∀ (P1591 : Int32 → Prop), (∀ (t_307 : Int32), (P1592 t_307) → P1591 t_307) → ∀ (P1590 : Prop), ((P1591 0) → P1590) → (if v3_287 = 0 then P1590 else (w_Desk_count 6 I (fun r_308 => (if r_308 = v6 then (w_Desk_count 0 I (fun r_309 => (if r_309 = v5 then (w_Desk_count 4 I (fun r_310 => (if r_310 = v10 then P1591 1 else P1590))) else P1590))) else P1590)))))))) → P1539 v3_287) → (if v15 < 0 then P1539 v3 else (∀ (P1538 : Int32 → Prop), (∀ (t_317 : Int32), (P1539 t_317) → P1538 t_317) → ∀ (P1537 : Prop), ((P1538 0) → P1537) → (if v3 = 0 then P1537 else (w_Desk_count 6 I (fun r_318 => (if r_318 = (v6 + (1 : Int32)) then (w_Desk_count 9 I (fun r_319 => (if r_319 = 0 then (w_Desk_count 8 I (fun r_320 => (if r_320 = (if (v7 + (1 : Int32)) < 20 then (v7 + (1 : Int32)) else 20) then (w_Desk_count 2 I (fun r_321 => ∀ (P1485 : Int32 → Prop), (∀ (t_322 : Int32), (∀ (P1495 : Int32 → Prop), (∀ (t_323 : Int32), ((if t_322 = t_323 then (∀ (P1533 : Prop), ((P1538 1) → P1533) → (if v15 = 1 then P1533 else (w_Desk_last 5 I (fun r_324 => w_Desk_last 2 I (fun r_325 => (if r_324 < r_325 then P1537 else (w_Desk_count 5 I (fun r_326 => w_Desk_last 3 I (fun r_327 => (if r_326 = (v11 + r_327) then P1533 else P1537)))))))))) else P1537)) → P1495 t_323) → (if v15 = 0 then P1495 1 else P1495 0)) → P1485 t_322) → (if r_321 = 1 then P1485 1 else P1485 0))) else P1537))) else P1537))) else P1537))))))
set_option maxHeartbeats 8000000 in
set_option maxRecDepth 20000 in
theorem zl_law_1422 {p : Program} {l : Launch} {e : Env} {s : State} {m : MethodId} {below : List Frame} {meth : Method} {c : Code} {D : va_G} {B : Nat} {cA : Nat → ClassId} {ad : Nat → Nat} {b : Nat} {S0 S : List zC} {I : zI} {c0 u0 : Nat} (C : zCx p s m #[Value.ref b] meth c cL_law 25 RL ret D B cA ad) (hB : B = s.heap.size + 1) {v3 : Int32} {v4 : Int32} {v5 : Int32} {v6 : Int32} {v7 : Int32} {v10 : Int32} {v11 : Int32} {v15 : Int32} {P44 : Int32 → Int32 → (List zC) → Nat → Nat → zI → Prop}  (hg : zGo S0 600000 7302250 S c0 u0) (h : w_law_1422 v3 v4 v5 v6 v7 v10 v11 v15 P44 c0 u0 S I) (kP44 : ∀ (v3_1 : Int32) (v4_2 : Int32) (S_3 : List zC) (c_4 : Nat) (u_5 : Nat) (I_7 : zI), P44 v3_1 v4_2 S_3 c_4 u_5 I_7 → zGo S0 600000 7302250 S_3 c_4 u_5 → zX p l e room_1 s m #[Value.ref b] below meth c (lw_Z below #[Value.ref b] s) D B cA 25 c_4 u_5 S_3 I_7 [(4, .int v4_2), (3, .int v3_1), (2, .ref (B + 0)), (1, .ref s.heap.size)] [] 44) : zX p l e room_1 s m #[Value.ref b] below meth c (lw_Z below #[Value.ref b] s) D B cA 25 c0 u0 S I [(1, .ref s.heap.size), (2, .ref (B + 0)), (3, .int v3), (4, .int v4), (5, .int v5), (6, .int v6), (7, .int v7), (10, .int v10), (11, .int v11), (15, .int v15)] [] 1422 := by
  unfold w_law_1422 at h
  refine zr_iload C dyL_law_1422 9 rfl ?_
  refine zjn (h (fun (v3_287 : Int32) => zX p l e room_1 s m #[Value.ref b] below meth c (lw_Z below #[Value.ref b] s) D B cA 25 c0 u0 S I [(1, .ref s.heap.size), (2, .ref (B + 0)), (3, .int v3_287), (4, .int v4), (5, .int v5), (6, .int v6), (10, .int v10), (15, .int v15)] [] 1539) (fun v3_287 h => ?_)) (fun h => ?_)
  · refine zr_iload C dyL_law_1539 7 rfl ?_
    refine zjn (h (fun (v3_288 : Int32) => zX p l e room_1 s m #[Value.ref b] below meth c (lw_Z below #[Value.ref b] s) D B cA 25 c0 u0 S I [(1, .ref s.heap.size), (2, .ref (B + 0)), (3, .int v3_288), (4, .int v4)] [] 1592) (fun v3_288 h => ?_)) (fun h => ?_)
    · exact zl_law_1592 C hB hg h kP44
    refine zr_if_ge C dyL_law_1541 (tgt := 1592) (by decide) (fun hc_316 => ?_) (fun hc_316 => ?_)
    · replace h := zif_pos hc_316 h
      refine zr_sub (lv2 := [(1, .ref s.heap.size), (2, .ref (B + 0)), (3, .int v3_287), (4, .int v4)]) [0, 1, 2, 3] rfl ?_
      exact h
    · replace h := zif_neg hc_316 h
      refine zr_iload C dyL_law_1544 7 rfl ?_
      refine zr_bipush C dyL_law_1546 zc_b_m2 ?_
      refine zr_icmp_le C dyL_law_1548 (tgt := 1592) (by decide) (fun hc_315 => ?_) (fun hc_315 => ?_)
      · replace h := zif_pos hc_315 h
        refine zr_sub (lv2 := [(1, .ref s.heap.size), (2, .ref (B + 0)), (3, .int v3_287), (4, .int v4)]) [0, 1, 2, 3] rfl ?_
        exact h
      · replace h := zif_neg hc_315 h
        refine zr_iload_n C dyL_law_1551 rfl 2 rfl ?_
        refine zjn (h (fun (t_307 : Int32) => zX p l e room_1 s m #[Value.ref b] below meth c (lw_Z below #[Value.ref b] s) D B cA 25 c0 u0 S I [(1, .ref s.heap.size), (2, .ref (B + 0)), (4, .int v4)] [.int t_307] 1591) (fun t_307 h => ?_)) (fun h => ?_)
        · refine zr_istore_n C dyL_law_1591 rfl (Nat.le_of_ble_eq_true rfl) (lv2 := [(3, .int t_307), (1, .ref s.heap.size), (2, .ref (B + 0)), (4, .int v4)]) rfl ?_
          refine zr_sub (lv2 := [(1, .ref s.heap.size), (2, .ref (B + 0)), (3, .int t_307), (4, .int v4)]) [1, 2, 0, 3] rfl ?_
          exact h
        refine zjn (h (zX p l e room_1 s m #[Value.ref b] below meth c (lw_Z below #[Value.ref b] s) D B cA 25 c0 u0 S I [(1, .ref s.heap.size), (2, .ref (B + 0)), (4, .int v4)] [] 1590) (fun  h => ?_)) (fun h => ?_)
        · refine zr_iconst C dyL_law_1590 zc_i_0 ?_
          exact h
        refine zr_if_eq C dyL_law_1552 (tgt := 1590) (by decide) (fun hc_314 => ?_) (fun hc_314 => ?_)
        · replace h := zif_pos hc_314 h
          refine zr_sub (lv2 := [(1, .ref s.heap.size), (2, .ref (B + 0)), (4, .int v4)]) [0, 1, 3] rfl ?_
          exact h
        · replace h := zif_neg hc_314 h
          refine zr_aload_n C dyL_law_1555 rfl 1 rfl ?_
          refine zr_bipush C dyL_law_1556 zc_b_6 ?_
          refine zv_L_36t C hg.1 (st := []) h ⟨Nat.le_of_ble_eq_true rfl, Nat.le_of_ble_eq_true rfl⟩ (Nat.le_of_ble_eq_true rfl) dyL_law_1558 ⟨hg.2.2.1, hg.2.2.2⟩ (fun r_308 h => ?_)
          refine zr_iload C dyL_law_1561 5 rfl ?_
          refine zr_icmp_ne C dyL_law_1563 (tgt := 1590) (by decide) (fun hc_313 => ?_) (fun hc_313 => ?_)
          · replace h := zif_neg hc_313 h
            refine zr_sub (lv2 := [(1, .ref s.heap.size), (2, .ref (B + 0)), (4, .int v4)]) [0, 1, 3] rfl ?_
            exact h
          · replace h := zif_pos hc_313 h
            refine zr_aload_n C dyL_law_1566 rfl 1 rfl ?_
            refine zr_iconst C dyL_law_1567 zc_i_0 ?_
            refine zv_L_36t C hg.1 (st := []) h ⟨Nat.le_of_ble_eq_true rfl, Nat.le_of_ble_eq_true rfl⟩ (Nat.le_of_ble_eq_true rfl) dyL_law_1568 ⟨hg.2.2.1, hg.2.2.2⟩ (fun r_309 h => ?_)
            refine zr_iload C dyL_law_1571 4 rfl ?_
            refine zr_icmp_ne C dyL_law_1573 (tgt := 1590) (by decide) (fun hc_312 => ?_) (fun hc_312 => ?_)
            · replace h := zif_neg hc_312 h
              refine zr_sub (lv2 := [(1, .ref s.heap.size), (2, .ref (B + 0)), (4, .int v4)]) [0, 1, 3] rfl ?_
              exact h
            · replace h := zif_pos hc_312 h
              refine zr_aload_n C dyL_law_1576 rfl 1 rfl ?_
              refine zr_iconst C dyL_law_1577 zc_i_4 ?_
              refine zv_L_36t C hg.1 (st := []) h ⟨Nat.le_of_ble_eq_true rfl, Nat.le_of_ble_eq_true rfl⟩ (Nat.le_of_ble_eq_true rfl) dyL_law_1578 ⟨hg.2.2.1, hg.2.2.2⟩ (fun r_310 h => ?_)
              refine zr_iload C dyL_law_1581 6 rfl ?_
              refine zr_icmp_ne C dyL_law_1583 (tgt := 1590) (by decide) (fun hc_311 => ?_) (fun hc_311 => ?_)
              · replace h := zif_neg hc_311 h
                refine zr_sub (lv2 := [(1, .ref s.heap.size), (2, .ref (B + 0)), (4, .int v4)]) [0, 1, 3] rfl ?_
                exact h
              · replace h := zif_pos hc_311 h
                refine zr_iconst C dyL_law_1586 zc_i_1 ?_
                refine zr_goto C dyL_law_1587 (tgt := 1591) (by decide) ?_
                refine zr_sub (lv2 := [(1, .ref s.heap.size), (2, .ref (B + 0)), (4, .int v4)]) [0, 1, 3] rfl ?_
                exact h
  refine zr_if_lt C dyL_law_1424 (tgt := 1539) (by decide) (fun hc_338 => ?_) (fun hc_338 => ?_)
  · replace h := zif_pos hc_338 h
    refine zr_sub (lv2 := [(1, .ref s.heap.size), (2, .ref (B + 0)), (3, .int v3), (4, .int v4), (5, .int v5), (6, .int v6), (10, .int v10), (15, .int v15)]) [0, 1, 2, 3, 4, 5, 7, 9] rfl ?_
    exact h
  · replace h := zif_neg hc_338 h
    refine zr_iload_n C dyL_law_1427 rfl 2 rfl ?_
    refine zjn (h (fun (t_317 : Int32) => zX p l e room_1 s m #[Value.ref b] below meth c (lw_Z below #[Value.ref b] s) D B cA 25 c0 u0 S I [(1, .ref s.heap.size), (2, .ref (B + 0)), (4, .int v4), (5, .int v5), (6, .int v6), (10, .int v10), (15, .int v15)] [.int t_317] 1538) (fun t_317 h => ?_)) (fun h => ?_)
    · refine zr_istore_n C dyL_law_1538 rfl (Nat.le_of_ble_eq_true rfl) (lv2 := [(3, .int t_317), (1, .ref s.heap.size), (2, .ref (B + 0)), (4, .int v4), (5, .int v5), (6, .int v6), (10, .int v10), (15, .int v15)]) rfl ?_
      refine zr_sub (lv2 := [(1, .ref s.heap.size), (2, .ref (B + 0)), (3, .int t_317), (4, .int v4), (5, .int v5), (6, .int v6), (10, .int v10), (15, .int v15)]) [1, 2, 0, 3, 4, 5, 6, 7] rfl ?_
      exact h
    refine zjn (h (zX p l e room_1 s m #[Value.ref b] below meth c (lw_Z below #[Value.ref b] s) D B cA 25 c0 u0 S I [(1, .ref s.heap.size), (2, .ref (B + 0)), (4, .int v4), (5, .int v5), (6, .int v6), (10, .int v10), (15, .int v15)] [] 1537) (fun  h => ?_)) (fun h => ?_)
    · refine zr_iconst C dyL_law_1537 zc_i_0 ?_
      exact h
    refine zr_if_eq C dyL_law_1428 (tgt := 1537) (by decide) (fun hc_337 => ?_) (fun hc_337 => ?_)
    · replace h := zif_pos hc_337 h
      refine zr_sub (lv2 := [(1, .ref s.heap.size), (2, .ref (B + 0)), (4, .int v4), (5, .int v5), (6, .int v6), (10, .int v10), (15, .int v15)]) [0, 1, 3, 4, 5, 7, 9] rfl ?_
      exact h
    · replace h := zif_neg hc_337 h
      refine zr_aload_n C dyL_law_1431 rfl 1 rfl ?_
      refine zr_bipush C dyL_law_1432 zc_b_6 ?_
      refine zv_L_36t C hg.1 (st := []) h ⟨Nat.le_of_ble_eq_true rfl, Nat.le_of_ble_eq_true rfl⟩ (Nat.le_of_ble_eq_true rfl) dyL_law_1434 ⟨hg.2.2.1, hg.2.2.2⟩ (fun r_318 h => ?_)
      refine zr_iload C dyL_law_1437 5 rfl ?_
      refine zr_iconst C dyL_law_1439 zc_i_1 ?_
      refine zr_iadd C dyL_law_1440 ?_
      refine zr_icmp_ne C dyL_law_1441 (tgt := 1537) (by decide) (fun hc_336 => ?_) (fun hc_336 => ?_)
      · replace h := zif_neg hc_336 h
        refine zr_sub (lv2 := [(1, .ref s.heap.size), (2, .ref (B + 0)), (4, .int v4), (5, .int v5), (6, .int v6), (10, .int v10), (15, .int v15)]) [0, 1, 3, 4, 5, 7, 9] rfl ?_
        exact h
      · replace h := zif_pos hc_336 h
        refine zr_aload_n C dyL_law_1444 rfl 1 rfl ?_
        refine zr_bipush C dyL_law_1445 zc_b_9 ?_
        refine zv_L_36t C hg.1 (st := []) h ⟨Nat.le_of_ble_eq_true rfl, Nat.le_of_ble_eq_true rfl⟩ (Nat.le_of_ble_eq_true rfl) dyL_law_1447 ⟨hg.2.2.1, hg.2.2.2⟩ (fun r_319 h => ?_)
        refine zr_if_ne C dyL_law_1450 (tgt := 1537) (by decide) (fun hc_335 => ?_) (fun hc_335 => ?_)
        · replace h := zif_neg hc_335 h
          refine zr_sub (lv2 := [(1, .ref s.heap.size), (2, .ref (B + 0)), (4, .int v4), (5, .int v5), (6, .int v6), (10, .int v10), (15, .int v15)]) [0, 1, 3, 4, 5, 7, 9] rfl ?_
          exact h
        · replace h := zif_pos hc_335 h
          refine zr_aload_n C dyL_law_1453 rfl 1 rfl ?_
          refine zr_bipush C dyL_law_1454 zc_b_8 ?_
          refine zv_L_36t C hg.1 (st := []) h ⟨Nat.le_of_ble_eq_true rfl, Nat.le_of_ble_eq_true rfl⟩ (Nat.le_of_ble_eq_true rfl) dyL_law_1456 ⟨hg.2.2.1, hg.2.2.2⟩ (fun r_320 h => ?_)
          refine zr_bipush C dyL_law_1459 zc_b_20 ?_
          refine zr_iload C dyL_law_1461 6 rfl ?_
          refine zr_iconst C dyL_law_1463 zc_i_1 ?_
          refine zr_iadd C dyL_law_1464 ?_
          refine zr_mmin C zk_ml_L_68 zk_st_J_min zk_in_Math zk_cd_J_min (Nat.le_of_ble_eq_true rfl) (Nat.le_of_ble_eq_true rfl) (Nat.le_of_ble_eq_true rfl) hg.2.2.1 hg.2.2.2 dyL_law_1465 ?_
          refine zr_icmp_ne C dyL_law_1468 (tgt := 1537) (by decide) (fun hc_334 => ?_) (fun hc_334 => ?_)
          · replace h := zif_neg hc_334 h
            refine zr_sub (lv2 := [(1, .ref s.heap.size), (2, .ref (B + 0)), (4, .int v4), (5, .int v5), (6, .int v6), (10, .int v10), (15, .int v15)]) [0, 1, 3, 4, 5, 7, 9] rfl ?_
            exact h
          · replace h := zif_pos hc_334 h
            refine zr_aload_n C dyL_law_1471 rfl 1 rfl ?_
            refine zr_iconst C dyL_law_1472 zc_i_2 ?_
            refine zv_L_36t C hg.1 (st := []) h ⟨Nat.le_of_ble_eq_true rfl, Nat.le_of_ble_eq_true rfl⟩ (Nat.le_of_ble_eq_true rfl) dyL_law_1473 ⟨hg.2.2.1, hg.2.2.2⟩ (fun r_321 h => ?_)
            refine zr_iconst C dyL_law_1476 zc_i_1 ?_
            refine zjn (h (fun (t_322 : Int32) => zX p l e room_1 s m #[Value.ref b] below meth c (lw_Z below #[Value.ref b] s) D B cA 25 c0 u0 S I [(1, .ref s.heap.size), (2, .ref (B + 0)), (4, .int v4), (5, .int v5), (6, .int v6), (10, .int v10), (11, .int v11), (15, .int v15)] [.int t_322] 1485) (fun t_322 h => ?_)) (fun h => ?_)
            · refine zr_iload C dyL_law_1485 7 rfl ?_
              refine zjn (h (fun (t_323 : Int32) => zX p l e room_1 s m #[Value.ref b] below meth c (lw_Z below #[Value.ref b] s) D B cA 25 c0 u0 S I [(1, .ref s.heap.size), (2, .ref (B + 0)), (4, .int v4), (5, .int v5), (6, .int v6), (10, .int v10), (11, .int v11), (15, .int v15)] [.int t_323, .int t_322] 1495) (fun t_323 h => ?_)) (fun h => ?_)
              · refine zr_icmp_ne C dyL_law_1495 (tgt := 1537) (by decide) (fun hc_331 => ?_) (fun hc_331 => ?_)
                · replace h := zif_neg hc_331 h
                  refine zr_sub (lv2 := [(1, .ref s.heap.size), (2, .ref (B + 0)), (4, .int v4), (5, .int v5), (6, .int v6), (10, .int v10), (15, .int v15)]) [0, 1, 2, 3, 4, 5, 7] rfl ?_
                  exact h
                · replace h := zif_pos hc_331 h
                  refine zr_iload C dyL_law_1498 7 rfl ?_
                  refine zr_iconst C dyL_law_1500 zc_i_1 ?_
                  refine zjn (h (zX p l e room_1 s m #[Value.ref b] below meth c (lw_Z below #[Value.ref b] s) D B cA 25 c0 u0 S I [(1, .ref s.heap.size), (2, .ref (B + 0)), (4, .int v4), (5, .int v5), (6, .int v6), (10, .int v10), (15, .int v15)] [] 1533) (fun  h => ?_)) (fun h => ?_)
                  · refine zr_iconst C dyL_law_1533 zc_i_1 ?_
                    refine zr_goto C dyL_law_1534 (tgt := 1538) (by decide) ?_
                    exact h
                  refine zr_icmp_eq C dyL_law_1501 (tgt := 1533) (by decide) (fun hc_330 => ?_) (fun hc_330 => ?_)
                  · replace h := zif_pos hc_330 h
                    refine zr_sub (lv2 := [(1, .ref s.heap.size), (2, .ref (B + 0)), (4, .int v4), (5, .int v5), (6, .int v6), (10, .int v10), (15, .int v15)]) [0, 1, 2, 3, 4, 5, 7] rfl ?_
                    exact h
                  · replace h := zif_neg hc_330 h
                    refine zr_aload_n C dyL_law_1504 rfl 1 rfl ?_
                    refine zr_iconst C dyL_law_1505 zc_i_5 ?_
                    refine zv_L_138t C hg.1 (st := []) h ⟨Nat.le_of_ble_eq_true rfl, Nat.le_of_ble_eq_true rfl⟩ (Nat.le_of_ble_eq_true rfl) dyL_law_1506 ⟨hg.2.2.1, hg.2.2.2⟩ (fun r_324 h => ?_)
                    refine zr_aload_n C dyL_law_1509 rfl 1 rfl ?_
                    refine zr_iconst C dyL_law_1510 zc_i_2 ?_
                    refine zv_L_138t C hg.1 (st := [.int r_324]) h ⟨Nat.le_of_ble_eq_true rfl, Nat.le_of_ble_eq_true rfl⟩ (Nat.le_of_ble_eq_true rfl) dyL_law_1511 ⟨hg.2.2.1, hg.2.2.2⟩ (fun r_325 h => ?_)
                    refine zr_icmp_lt C dyL_law_1514 (tgt := 1537) (by decide) (fun hc_329 => ?_) (fun hc_329 => ?_)
                    · replace h := zif_pos hc_329 h
                      refine zr_sub (lv2 := [(1, .ref s.heap.size), (2, .ref (B + 0)), (4, .int v4), (5, .int v5), (6, .int v6), (10, .int v10), (15, .int v15)]) [0, 1, 2, 3, 4, 5, 7] rfl ?_
                      exact h
                    · replace h := zif_neg hc_329 h
                      refine zr_aload_n C dyL_law_1517 rfl 1 rfl ?_
                      refine zr_iconst C dyL_law_1518 zc_i_5 ?_
                      refine zv_L_36t C hg.1 (st := []) h ⟨Nat.le_of_ble_eq_true rfl, Nat.le_of_ble_eq_true rfl⟩ (Nat.le_of_ble_eq_true rfl) dyL_law_1519 ⟨hg.2.2.1, hg.2.2.2⟩ (fun r_326 h => ?_)
                      refine zr_iload C dyL_law_1522 6 rfl ?_
                      refine zr_aload_n C dyL_law_1524 rfl 1 rfl ?_
                      refine zr_iconst C dyL_law_1525 zc_i_3 ?_
                      refine zv_L_138t C hg.1 (st := [.int v11, .int r_326]) h ⟨Nat.le_of_ble_eq_true rfl, Nat.le_of_ble_eq_true rfl⟩ (Nat.le_of_ble_eq_true rfl) dyL_law_1526 ⟨hg.2.2.1, hg.2.2.2⟩ (fun r_327 h => ?_)
                      refine zr_iadd C dyL_law_1529 ?_
                      refine zr_icmp_ne C dyL_law_1530 (tgt := 1537) (by decide) (fun hc_328 => ?_) (fun hc_328 => ?_)
                      · replace h := zif_neg hc_328 h
                        refine zr_sub (lv2 := [(1, .ref s.heap.size), (2, .ref (B + 0)), (4, .int v4), (5, .int v5), (6, .int v6), (10, .int v10), (15, .int v15)]) [0, 1, 2, 3, 4, 5, 7] rfl ?_
                        exact h
                      · replace h := zif_pos hc_328 h
                        refine zr_sub (lv2 := [(1, .ref s.heap.size), (2, .ref (B + 0)), (4, .int v4), (5, .int v5), (6, .int v6), (10, .int v10), (15, .int v15)]) [0, 1, 2, 3, 4, 5, 7] rfl ?_
                        exact h
              refine zr_if_ne C dyL_law_1487 (tgt := 1494) (by decide) (fun hc_332 => ?_) (fun hc_332 => ?_)
              · replace h := zif_neg hc_332 h
                refine zr_iconst C dyL_law_1494 zc_i_0 ?_
                exact h
              · replace h := zif_pos hc_332 h
                refine zr_iconst C dyL_law_1490 zc_i_1 ?_
                refine zr_goto C dyL_law_1491 (tgt := 1495) (by decide) ?_
                exact h
            refine zr_icmp_ne C dyL_law_1477 (tgt := 1484) (by decide) (fun hc_333 => ?_) (fun hc_333 => ?_)
            · replace h := zif_neg hc_333 h
              refine zr_iconst C dyL_law_1484 zc_i_0 ?_
              refine zr_sub (lv2 := [(1, .ref s.heap.size), (2, .ref (B + 0)), (4, .int v4), (5, .int v5), (6, .int v6), (10, .int v10), (11, .int v11), (15, .int v15)]) [0, 1, 3, 4, 5, 7, 8, 9] rfl ?_
              exact h
            · replace h := zif_pos hc_333 h
              refine zr_iconst C dyL_law_1480 zc_i_1 ?_
              refine zr_goto C dyL_law_1481 (tgt := 1485) (by decide) ?_
              refine zr_sub (lv2 := [(1, .ref s.heap.size), (2, .ref (B + 0)), (4, .int v4), (5, .int v5), (6, .int v6), (10, .int v10), (11, .int v11), (15, .int v15)]) [0, 1, 3, 4, 5, 7, 8, 9] rfl ?_
              exact h
def w_law_196 (v4 : Int32) (v5 : Int32) (v6 : Int32) (v7 : Int32) (v8 : Int32) (v9 : Int32) (v10 : Int32) (v11 : Int32) (k14 : Nat) (n14 : Nat) (v15 : Int32) (P1422 : Int32 → Int32 → (List zC) → Nat → Nat → zI → Prop) (c0 u0 : Nat) (S : List zC) (I : zI) : Prop :=
  w_Desk_undo I (fun r_340 I_341 => ∀ (P214 : Int32 → Prop), (∀ (t_342 : Int32), (∀ (P266 : Int32 → Prop), (∀ (t_343 : Int32), ((if r_340 = 0 then P1422 t_343 v15 S c0 u0 I_341 else (vp_in v4 44 ∧ ∀ (v_344 : Int32), (if ((v_344 >>> ((4 : Int32) &&& (31 : Int32))) &&& (1 : Int32)) = 0 then (∀ (P338 : Int32 → zI → Prop), (∀ (t_345 : Int32) (I_346 : zI), (∀ (P342 : Int32 → Int32 → Prop), (∀ (v3_347 : Int32) (v17_348 : Int32), ((if v5 ≤ v17_348 then P1422 v3_347 v15 S c0 u0 I_346 else (∀ (P372 : Int32 → Prop), (∀ (t_349 : Int32), (∀ v17_350, v17_350 = (v17_348 + 1) → P342 t_349 v17_350) → P372 t_349) → ∀ (P371 : Prop), ((P372 0) → P371) → (if v3_347 = 0 then P371 else (w_Desk_text v17_348 I_346 (fun r_351 => (zAt S k14 n14 ∧ vp_in v17_348 n14) ∧ (if r_351 = (I_346.1 k14 (Int32.toNatClampNeg v17_348)) then P372 1 else P371))))))) → P342 v3_347 v17_348) → P342 t_345 0) → P338 t_345 I_346) → ∀ (P337 : zI → Prop), (∀ (I_355 : zI), (P338 0 I_355) → P337 I_355) → (if t_343 = 0 then P337 I_341 else (w_Desk_redo I_341 (fun r_356 I_357 => (if r_356 = 0 then P337 I_357 else (w_Desk_count 4 I_357 (fun r_358 => (if r_358 = v10 then (w_Desk_count 0 I_357 (fun r_359 => (if r_359 = v5 then (w_Desk_count 2 I_357 (fun r_360 => ∀ (P328 : Int32 → Prop), (∀ (t_361 : Int32), ((if t_361 = v9 then P338 1 I_357 else P337 I_357)) → P328 t_361) → (if r_360 = 1 then P328 1 else P328 0))) else P337 I_357))) else P337 I_357)))))))) else P1422 t_343 v15 S c0 u0 I_341)))) → P266 t_343) → ∀ (P265 : Prop), ((P266 0) → P265) → (if r_340 = t_342 then (w_Desk_count 8 I_341 (fun r_370 => ∀ (P235 : Int32 → Prop), (∀ (t_371 : Int32), ((if r_370 = (v7 - t_371) then (w_Desk_count 9 I_341 (fun r_372 => ∀ (P257 : Int32 → Prop), (∀ (t_373 : Int32), ((if r_372 = (v8 + t_373) then P266 1 else P265)) → P257 t_373) → (if r_340 = 0 then P257 0 else P257 1))) else P265)) → P235 t_371) → (if r_340 = 0 then P235 0 else P235 1))) else P265)) → P214 t_342) → (if v7 ≤ 0 then P214 0 else P214 1))
set_option maxHeartbeats 8000000 in
set_option maxRecDepth 20000 in
theorem zl_law_196 {p : Program} {l : Launch} {e : Env} {s : State} {m : MethodId} {below : List Frame} {meth : Method} {c : Code} {D : va_G} {B : Nat} {cA : Nat → ClassId} {ad : Nat → Nat} {b : Nat} {S0 S : List zC} {I : zI} {c0 u0 : Nat} (C : zCx p s m #[Value.ref b] meth c cL_law 25 RL ret D B cA ad) (hB : B = s.heap.size + 1) {v4 : Int32} {v5 : Int32} {v6 : Int32} {v7 : Int32} {v8 : Int32} {v9 : Int32} {v10 : Int32} {v11 : Int32} {k14 : Nat} {n14 : Nat} {v15 : Int32} {P1422 : Int32 → Int32 → (List zC) → Nat → Nat → zI → Prop}  (hg : zGo S0 600000 7302250 S c0 u0) (h : w_law_196 v4 v5 v6 v7 v8 v9 v10 v11 k14 n14 v15 P1422 c0 u0 S I) (kP1422 : ∀ (v3_280 : Int32) (v15_281 : Int32) (S_282 : List zC) (c_283 : Nat) (u_284 : Nat) (I_286 : zI), P1422 v3_280 v15_281 S_282 c_283 u_284 I_286 → zGo S0 600000 7302250 S_282 c_283 u_284 → zX p l e room_1 s m #[Value.ref b] below meth c (lw_Z below #[Value.ref b] s) D B cA 25 c_283 u_284 S_282 I_286 [(15, .int v15_281), (11, .int v11), (10, .int v10), (7, .int v7), (6, .int v6), (5, .int v5), (1, .ref s.heap.size), (2, .ref (B + 0)), (4, .int v4), (3, .int v3_280)] [] 1422) : zX p l e room_1 s m #[Value.ref b] below meth c (lw_Z below #[Value.ref b] s) D B cA 25 c0 u0 S I [(1, .ref s.heap.size), (2, .ref (B + 0)), (4, .int v4), (5, .int v5), (6, .int v6), (7, .int v7), (8, .int v8), (9, .int v9), (10, .int v10), (11, .int v11), (14, .ref (B + k14)), (15, .int v15)] [] 196 := by
  unfold w_law_196 at h
  refine zr_aload_n C dyL_law_196 rfl 1 rfl ?_
  refine zv_L_89t C hg.1 (st := []) h ⟨Nat.le_of_ble_eq_true rfl, Nat.le_of_ble_eq_true rfl⟩ (Nat.le_of_ble_eq_true rfl) dyL_law_197 ⟨hg.2.2.1, hg.2.2.2⟩ (fun r_340 I_341 h => ?_)
  refine zr_istore C dyL_law_200 (Nat.le_of_ble_eq_true rfl) (lv2 := [(16, .int r_340), (1, .ref s.heap.size), (2, .ref (B + 0)), (4, .int v4), (5, .int v5), (6, .int v6), (7, .int v7), (8, .int v8), (9, .int v9), (10, .int v10), (11, .int v11), (14, .ref (B + k14)), (15, .int v15)]) rfl ?_
  refine zr_iload C dyL_law_202 0 rfl ?_
  refine zr_iload C dyL_law_204 6 rfl ?_
  refine zjn (h (fun (t_342 : Int32) => zX p l e room_1 s m #[Value.ref b] below meth c (lw_Z below #[Value.ref b] s) D B cA 25 c0 u0 S I_341 [(16, .int r_340), (1, .ref s.heap.size), (2, .ref (B + 0)), (4, .int v4), (5, .int v5), (6, .int v6), (7, .int v7), (8, .int v8), (9, .int v9), (10, .int v10), (11, .int v11), (14, .ref (B + k14)), (15, .int v15)] [.int t_342, .int r_340] 214) (fun t_342 h => ?_)) (fun h => ?_)
  · refine zjn (h (fun (t_343 : Int32) => zX p l e room_1 s m #[Value.ref b] below meth c (lw_Z below #[Value.ref b] s) D B cA 25 c0 u0 S I_341 [(16, .int r_340), (1, .ref s.heap.size), (2, .ref (B + 0)), (4, .int v4), (5, .int v5), (6, .int v6), (7, .int v7), (9, .int v9), (10, .int v10), (11, .int v11), (14, .ref (B + k14)), (15, .int v15)] [.int t_343] 266) (fun t_343 h => ?_)) (fun h => ?_)
    · refine zr_istore_n C dyL_law_266 rfl (Nat.le_of_ble_eq_true rfl) (lv2 := [(3, .int t_343), (16, .int r_340), (1, .ref s.heap.size), (2, .ref (B + 0)), (4, .int v4), (5, .int v5), (6, .int v6), (7, .int v7), (9, .int v9), (10, .int v10), (11, .int v11), (14, .ref (B + k14)), (15, .int v15)]) rfl ?_
      refine zr_iload C dyL_law_267 1 rfl ?_
      refine zr_if_eq C dyL_law_269 (tgt := 1422) (by decide) (fun hc_369 => ?_) (fun hc_369 => ?_)
      · replace h := zif_pos hc_369 h
        refine zr_sub (lv2 := [(15, .int v15), (11, .int v11), (10, .int v10), (7, .int v7), (6, .int v6), (5, .int v5), (1, .ref s.heap.size), (2, .ref (B + 0)), (4, .int v4), (3, .int t_343)]) [12, 10, 9, 7, 6, 5, 2, 3, 4, 0] rfl ?_
        exact kP1422 _ _ _ _ _ _ h hg
      · replace h := zif_neg hc_369 h
        refine zr_aload_n C dyL_law_272 rfl 2 rfl ?_
        refine zr_iload C dyL_law_273 4 rfl ?_
        refine zr_gld C (by omega) h.1 dyL_law_275 (fun v_344 => ?_)
        replace h := h.2 v_344
        refine zr_iconst C dyL_law_276 zc_i_4 ?_
        refine zr_ishr C dyL_law_277 ?_
        refine zr_iconst C dyL_law_278 zc_i_1 ?_
        refine zr_iand C dyL_law_279 ?_
        refine zr_if_ne C dyL_law_280 (tgt := 1422) (by decide) (fun hc_368 => ?_) (fun hc_368 => ?_)
        · replace h := zif_neg hc_368 h
          refine zr_sub (lv2 := [(15, .int v15), (11, .int v11), (10, .int v10), (7, .int v7), (6, .int v6), (5, .int v5), (1, .ref s.heap.size), (2, .ref (B + 0)), (4, .int v4), (3, .int t_343)]) [12, 10, 9, 7, 6, 5, 2, 3, 4, 0] rfl ?_
          exact kP1422 _ _ _ _ _ _ h hg
        · replace h := zif_pos hc_368 h
          refine zr_iload_n C dyL_law_283 rfl 0 rfl ?_
          refine zjn (h (fun (t_345 : Int32) (I_346 : zI) => zX p l e room_1 s m #[Value.ref b] below meth c (lw_Z below #[Value.ref b] s) D B cA 25 c0 u0 S I_346 [(1, .ref s.heap.size), (2, .ref (B + 0)), (4, .int v4), (5, .int v5), (6, .int v6), (7, .int v7), (10, .int v10), (11, .int v11), (14, .ref (B + k14)), (15, .int v15)] [.int t_345] 338) (fun t_345 I_346 h => ?_)) (fun h => ?_)
          · refine zr_istore_n C dyL_law_338 rfl (Nat.le_of_ble_eq_true rfl) (lv2 := [(3, .int t_345), (1, .ref s.heap.size), (2, .ref (B + 0)), (4, .int v4), (5, .int v5), (6, .int v6), (7, .int v7), (10, .int v10), (11, .int v11), (14, .ref (B + k14)), (15, .int v15)]) rfl ?_
            refine zr_iconst C dyL_law_339 zc_i_0 ?_
            refine zr_istore C dyL_law_340 (Nat.le_of_ble_eq_true rfl) (lv2 := [(17, .int 0), (3, .int t_345), (1, .ref s.heap.size), (2, .ref (B + 0)), (4, .int v4), (5, .int v5), (6, .int v6), (7, .int v7), (10, .int v10), (11, .int v11), (14, .ref (B + k14)), (15, .int v15)]) rfl ?_
            refine zjn (h (fun (v3_347 : Int32) (v17_348 : Int32) => zX p l e room_1 s m #[Value.ref b] below meth c (lw_Z below #[Value.ref b] s) D B cA 25 c0 u0 S I_346 [(17, .int v17_348), (3, .int v3_347), (1, .ref s.heap.size), (2, .ref (B + 0)), (4, .int v4), (5, .int v5), (6, .int v6), (7, .int v7), (10, .int v10), (11, .int v11), (14, .ref (B + k14)), (15, .int v15)] [] 342) (fun v3_347 v17_348 h => ?_)) (fun h => ?_)
            · refine zr_iload C dyL_law_342 0 rfl ?_
              refine zr_iload C dyL_law_344 5 rfl ?_
              refine zr_icmp_ge C dyL_law_346 (tgt := 379) (by decide) (fun hc_354 => ?_) (fun hc_354 => ?_)
              · replace h := zif_pos hc_354 h
                refine zr_goto C dyL_law_379 (tgt := 1422) (by decide) ?_
                refine zr_sub (lv2 := [(15, .int v15), (11, .int v11), (10, .int v10), (7, .int v7), (6, .int v6), (5, .int v5), (1, .ref s.heap.size), (2, .ref (B + 0)), (4, .int v4), (3, .int v3_347)]) [11, 9, 8, 7, 6, 5, 2, 3, 4, 1] rfl ?_
                exact kP1422 _ _ _ _ _ _ h hg
              · replace h := zif_neg hc_354 h
                refine zr_iload_n C dyL_law_349 rfl 1 rfl ?_
                refine zjn (h (fun (t_349 : Int32) => zX p l e room_1 s m #[Value.ref b] below meth c (lw_Z below #[Value.ref b] s) D B cA 25 c0 u0 S I_346 [(17, .int v17_348), (1, .ref s.heap.size), (2, .ref (B + 0)), (4, .int v4), (5, .int v5), (6, .int v6), (7, .int v7), (10, .int v10), (11, .int v11), (14, .ref (B + k14)), (15, .int v15)] [.int t_349] 372) (fun t_349 h => ?_)) (fun h => ?_)
                · refine zr_istore_n C dyL_law_372 rfl (Nat.le_of_ble_eq_true rfl) (lv2 := [(3, .int t_349), (17, .int v17_348), (1, .ref s.heap.size), (2, .ref (B + 0)), (4, .int v4), (5, .int v5), (6, .int v6), (7, .int v7), (10, .int v10), (11, .int v11), (14, .ref (B + k14)), (15, .int v15)]) rfl ?_
                  refine zn_iinc C (fun v17_350 => [(17, .int v17_350), (3, .int t_349), (1, .ref s.heap.size), (2, .ref (B + 0)), (4, .int v4), (5, .int v5), (6, .int v6), (7, .int v7), (10, .int v10), (11, .int v11), (14, .ref (B + k14)), (15, .int v15)]) dyL_law_373 1 rfl zc_i_1 (Nat.le_of_ble_eq_true rfl) (fun _ => rfl) (fun v17_350 ev17_350 => ?_)
                  replace h := h v17_350 ev17_350
                  refine zr_goto C dyL_law_376 (tgt := 342) (by decide) ?_
                  exact h
                refine zjn (h (zX p l e room_1 s m #[Value.ref b] below meth c (lw_Z below #[Value.ref b] s) D B cA 25 c0 u0 S I_346 [(17, .int v17_348), (1, .ref s.heap.size), (2, .ref (B + 0)), (4, .int v4), (5, .int v5), (6, .int v6), (7, .int v7), (10, .int v10), (11, .int v11), (14, .ref (B + k14)), (15, .int v15)] [] 371) (fun  h => ?_)) (fun h => ?_)
                · refine zr_iconst C dyL_law_371 zc_i_0 ?_
                  exact h
                refine zr_if_eq C dyL_law_350 (tgt := 371) (by decide) (fun hc_353 => ?_) (fun hc_353 => ?_)
                · replace h := zif_pos hc_353 h
                  refine zr_sub (lv2 := [(17, .int v17_348), (1, .ref s.heap.size), (2, .ref (B + 0)), (4, .int v4), (5, .int v5), (6, .int v6), (7, .int v7), (10, .int v10), (11, .int v11), (14, .ref (B + k14)), (15, .int v15)]) [0, 2, 3, 4, 5, 6, 7, 8, 9, 10, 11] rfl ?_
                  exact h
                · replace h := zif_neg hc_353 h
                  refine zr_aload_n C dyL_law_353 rfl 3 rfl ?_
                  refine zr_iload C dyL_law_354 0 rfl ?_
                  refine zv_L_62t C hg.1 (st := []) h ⟨Nat.le_of_ble_eq_true rfl, Nat.le_of_ble_eq_true rfl⟩ (Nat.le_of_ble_eq_true rfl) dyL_law_356 ⟨hg.2.2.1, hg.2.2.2⟩ (fun r_351 h => ?_)
                  refine zr_aload C dyL_law_359 10 rfl ?_
                  refine zr_iload C dyL_law_361 0 rfl ?_
                  refine zr_iald C h.1.1 h.1.2 dyL_law_363 ?_
                  replace h := h.2
                  refine zr_icmp_ne C dyL_law_364 (tgt := 371) (by decide) (fun hc_352 => ?_) (fun hc_352 => ?_)
                  · replace h := zif_neg hc_352 h
                    refine zr_sub (lv2 := [(17, .int v17_348), (1, .ref s.heap.size), (2, .ref (B + 0)), (4, .int v4), (5, .int v5), (6, .int v6), (7, .int v7), (10, .int v10), (11, .int v11), (14, .ref (B + k14)), (15, .int v15)]) [0, 2, 3, 4, 5, 6, 7, 8, 9, 10, 11] rfl ?_
                    exact h
                  · replace h := zif_pos hc_352 h
                    refine zr_iconst C dyL_law_367 zc_i_1 ?_
                    refine zr_goto C dyL_law_368 (tgt := 372) (by decide) ?_
                    refine zr_sub (lv2 := [(17, .int v17_348), (1, .ref s.heap.size), (2, .ref (B + 0)), (4, .int v4), (5, .int v5), (6, .int v6), (7, .int v7), (10, .int v10), (11, .int v11), (14, .ref (B + k14)), (15, .int v15)]) [0, 2, 3, 4, 5, 6, 7, 8, 9, 10, 11] rfl ?_
                    exact h
            exact h
          refine zjn (h (fun (I_355 : zI) => zX p l e room_1 s m #[Value.ref b] below meth c (lw_Z below #[Value.ref b] s) D B cA 25 c0 u0 S I_355 [(1, .ref s.heap.size), (2, .ref (B + 0)), (4, .int v4), (5, .int v5), (6, .int v6), (7, .int v7), (10, .int v10), (11, .int v11), (14, .ref (B + k14)), (15, .int v15)] [] 337) (fun I_355 h => ?_)) (fun h => ?_)
          · refine zr_iconst C dyL_law_337 zc_i_0 ?_
            exact h
          refine zr_if_eq C dyL_law_284 (tgt := 337) (by decide) (fun hc_367 => ?_) (fun hc_367 => ?_)
          · replace h := zif_pos hc_367 h
            refine zr_sub (lv2 := [(1, .ref s.heap.size), (2, .ref (B + 0)), (4, .int v4), (5, .int v5), (6, .int v6), (7, .int v7), (10, .int v10), (11, .int v11), (14, .ref (B + k14)), (15, .int v15)]) [2, 3, 4, 5, 6, 7, 9, 10, 11, 12] rfl ?_
            exact h
          · replace h := zif_neg hc_367 h
            refine zr_aload_n C dyL_law_287 rfl 3 rfl ?_
            refine zv_L_93t C hg.1 (st := []) h ⟨Nat.le_of_ble_eq_true rfl, Nat.le_of_ble_eq_true rfl⟩ (Nat.le_of_ble_eq_true rfl) dyL_law_288 ⟨hg.2.2.1, hg.2.2.2⟩ (fun r_356 I_357 h => ?_)
            refine zr_if_eq C dyL_law_291 (tgt := 337) (by decide) (fun hc_366 => ?_) (fun hc_366 => ?_)
            · replace h := zif_pos hc_366 h
              refine zr_sub (lv2 := [(1, .ref s.heap.size), (2, .ref (B + 0)), (4, .int v4), (5, .int v5), (6, .int v6), (7, .int v7), (10, .int v10), (11, .int v11), (14, .ref (B + k14)), (15, .int v15)]) [2, 3, 4, 5, 6, 7, 9, 10, 11, 12] rfl ?_
              exact h
            · replace h := zif_neg hc_366 h
              refine zr_aload_n C dyL_law_294 rfl 3 rfl ?_
              refine zr_iconst C dyL_law_295 zc_i_4 ?_
              refine zv_L_36t C hg.1 (st := []) h ⟨Nat.le_of_ble_eq_true rfl, Nat.le_of_ble_eq_true rfl⟩ (Nat.le_of_ble_eq_true rfl) dyL_law_296 ⟨hg.2.2.1, hg.2.2.2⟩ (fun r_358 h => ?_)
              refine zr_iload C dyL_law_299 9 rfl ?_
              refine zr_icmp_ne C dyL_law_301 (tgt := 337) (by decide) (fun hc_365 => ?_) (fun hc_365 => ?_)
              · replace h := zif_neg hc_365 h
                refine zr_sub (lv2 := [(1, .ref s.heap.size), (2, .ref (B + 0)), (4, .int v4), (5, .int v5), (6, .int v6), (7, .int v7), (10, .int v10), (11, .int v11), (14, .ref (B + k14)), (15, .int v15)]) [2, 3, 4, 5, 6, 7, 9, 10, 11, 12] rfl ?_
                exact h
              · replace h := zif_pos hc_365 h
                refine zr_aload_n C dyL_law_304 rfl 3 rfl ?_
                refine zr_iconst C dyL_law_305 zc_i_0 ?_
                refine zv_L_36t C hg.1 (st := []) h ⟨Nat.le_of_ble_eq_true rfl, Nat.le_of_ble_eq_true rfl⟩ (Nat.le_of_ble_eq_true rfl) dyL_law_306 ⟨hg.2.2.1, hg.2.2.2⟩ (fun r_359 h => ?_)
                refine zr_iload C dyL_law_309 5 rfl ?_
                refine zr_icmp_ne C dyL_law_311 (tgt := 337) (by decide) (fun hc_364 => ?_) (fun hc_364 => ?_)
                · replace h := zif_neg hc_364 h
                  refine zr_sub (lv2 := [(1, .ref s.heap.size), (2, .ref (B + 0)), (4, .int v4), (5, .int v5), (6, .int v6), (7, .int v7), (10, .int v10), (11, .int v11), (14, .ref (B + k14)), (15, .int v15)]) [2, 3, 4, 5, 6, 7, 9, 10, 11, 12] rfl ?_
                  exact h
                · replace h := zif_pos hc_364 h
                  refine zr_aload_n C dyL_law_314 rfl 3 rfl ?_
                  refine zr_iconst C dyL_law_315 zc_i_2 ?_
                  refine zv_L_36t C hg.1 (st := []) h ⟨Nat.le_of_ble_eq_true rfl, Nat.le_of_ble_eq_true rfl⟩ (Nat.le_of_ble_eq_true rfl) dyL_law_316 ⟨hg.2.2.1, hg.2.2.2⟩ (fun r_360 h => ?_)
                  refine zr_iconst C dyL_law_319 zc_i_1 ?_
                  refine zjn (h (fun (t_361 : Int32) => zX p l e room_1 s m #[Value.ref b] below meth c (lw_Z below #[Value.ref b] s) D B cA 25 c0 u0 S I_357 [(1, .ref s.heap.size), (2, .ref (B + 0)), (4, .int v4), (5, .int v5), (6, .int v6), (7, .int v7), (9, .int v9), (10, .int v10), (11, .int v11), (14, .ref (B + k14)), (15, .int v15)] [.int t_361] 328) (fun t_361 h => ?_)) (fun h => ?_)
                  · refine zr_iload C dyL_law_328 6 rfl ?_
                    refine zr_icmp_ne C dyL_law_330 (tgt := 337) (by decide) (fun hc_362 => ?_) (fun hc_362 => ?_)
                    · replace h := zif_neg hc_362 h
                      refine zr_sub (lv2 := [(1, .ref s.heap.size), (2, .ref (B + 0)), (4, .int v4), (5, .int v5), (6, .int v6), (7, .int v7), (10, .int v10), (11, .int v11), (14, .ref (B + k14)), (15, .int v15)]) [0, 1, 2, 3, 4, 5, 7, 8, 9, 10] rfl ?_
                      exact h
                    · replace h := zif_pos hc_362 h
                      refine zr_iconst C dyL_law_333 zc_i_1 ?_
                      refine zr_goto C dyL_law_334 (tgt := 338) (by decide) ?_
                      refine zr_sub (lv2 := [(1, .ref s.heap.size), (2, .ref (B + 0)), (4, .int v4), (5, .int v5), (6, .int v6), (7, .int v7), (10, .int v10), (11, .int v11), (14, .ref (B + k14)), (15, .int v15)]) [0, 1, 2, 3, 4, 5, 7, 8, 9, 10] rfl ?_
                      exact h
                  refine zr_icmp_ne C dyL_law_320 (tgt := 327) (by decide) (fun hc_363 => ?_) (fun hc_363 => ?_)
                  · replace h := zif_neg hc_363 h
                    refine zr_iconst C dyL_law_327 zc_i_0 ?_
                    refine zr_sub (lv2 := [(1, .ref s.heap.size), (2, .ref (B + 0)), (4, .int v4), (5, .int v5), (6, .int v6), (7, .int v7), (9, .int v9), (10, .int v10), (11, .int v11), (14, .ref (B + k14)), (15, .int v15)]) [2, 3, 4, 5, 6, 7, 8, 9, 10, 11, 12] rfl ?_
                    exact h
                  · replace h := zif_pos hc_363 h
                    refine zr_iconst C dyL_law_323 zc_i_1 ?_
                    refine zr_goto C dyL_law_324 (tgt := 328) (by decide) ?_
                    refine zr_sub (lv2 := [(1, .ref s.heap.size), (2, .ref (B + 0)), (4, .int v4), (5, .int v5), (6, .int v6), (7, .int v7), (9, .int v9), (10, .int v10), (11, .int v11), (14, .ref (B + k14)), (15, .int v15)]) [2, 3, 4, 5, 6, 7, 8, 9, 10, 11, 12] rfl ?_
                    exact h
    refine zjn (h (zX p l e room_1 s m #[Value.ref b] below meth c (lw_Z below #[Value.ref b] s) D B cA 25 c0 u0 S I_341 [(16, .int r_340), (1, .ref s.heap.size), (2, .ref (B + 0)), (4, .int v4), (5, .int v5), (6, .int v6), (7, .int v7), (9, .int v9), (10, .int v10), (11, .int v11), (14, .ref (B + k14)), (15, .int v15)] [] 265) (fun  h => ?_)) (fun h => ?_)
    · refine zr_iconst C dyL_law_265 zc_i_0 ?_
      exact h
    refine zr_icmp_ne C dyL_law_214 (tgt := 265) (by decide) (fun hc_378 => ?_) (fun hc_378 => ?_)
    · replace h := zif_neg hc_378 h
      refine zr_sub (lv2 := [(16, .int r_340), (1, .ref s.heap.size), (2, .ref (B + 0)), (4, .int v4), (5, .int v5), (6, .int v6), (7, .int v7), (9, .int v9), (10, .int v10), (11, .int v11), (14, .ref (B + k14)), (15, .int v15)]) [0, 1, 2, 3, 4, 5, 6, 8, 9, 10, 11, 12] rfl ?_
      exact h
    · replace h := zif_pos hc_378 h
      refine zr_aload_n C dyL_law_217 rfl 2 rfl ?_
      refine zr_bipush C dyL_law_218 zc_b_8 ?_
      refine zv_L_36t C hg.1 (st := []) h ⟨Nat.le_of_ble_eq_true rfl, Nat.le_of_ble_eq_true rfl⟩ (Nat.le_of_ble_eq_true rfl) dyL_law_220 ⟨hg.2.2.1, hg.2.2.2⟩ (fun r_370 h => ?_)
      refine zr_iload C dyL_law_223 6 rfl ?_
      refine zr_iload C dyL_law_225 0 rfl ?_
      refine zjn (h (fun (t_371 : Int32) => zX p l e room_1 s m #[Value.ref b] below meth c (lw_Z below #[Value.ref b] s) D B cA 25 c0 u0 S I_341 [(16, .int r_340), (1, .ref s.heap.size), (2, .ref (B + 0)), (4, .int v4), (5, .int v5), (6, .int v6), (7, .int v7), (8, .int v8), (9, .int v9), (10, .int v10), (11, .int v11), (14, .ref (B + k14)), (15, .int v15)] [.int t_371, .int v7, .int r_370] 235) (fun t_371 h => ?_)) (fun h => ?_)
      · refine zr_isub C dyL_law_235 ?_
        refine zr_icmp_ne C dyL_law_236 (tgt := 265) (by decide) (fun hc_376 => ?_) (fun hc_376 => ?_)
        · replace h := zif_neg hc_376 h
          refine zr_sub (lv2 := [(16, .int r_340), (1, .ref s.heap.size), (2, .ref (B + 0)), (4, .int v4), (5, .int v5), (6, .int v6), (7, .int v7), (9, .int v9), (10, .int v10), (11, .int v11), (14, .ref (B + k14)), (15, .int v15)]) [0, 1, 2, 3, 4, 5, 6, 8, 9, 10, 11, 12] rfl ?_
          exact h
        · replace h := zif_pos hc_376 h
          refine zr_aload_n C dyL_law_239 rfl 2 rfl ?_
          refine zr_bipush C dyL_law_240 zc_b_9 ?_
          refine zv_L_36t C hg.1 (st := []) h ⟨Nat.le_of_ble_eq_true rfl, Nat.le_of_ble_eq_true rfl⟩ (Nat.le_of_ble_eq_true rfl) dyL_law_242 ⟨hg.2.2.1, hg.2.2.2⟩ (fun r_372 h => ?_)
          refine zr_iload C dyL_law_245 7 rfl ?_
          refine zr_iload C dyL_law_247 0 rfl ?_
          refine zjn (h (fun (t_373 : Int32) => zX p l e room_1 s m #[Value.ref b] below meth c (lw_Z below #[Value.ref b] s) D B cA 25 c0 u0 S I_341 [(16, .int r_340), (1, .ref s.heap.size), (2, .ref (B + 0)), (4, .int v4), (5, .int v5), (6, .int v6), (7, .int v7), (9, .int v9), (10, .int v10), (11, .int v11), (14, .ref (B + k14)), (15, .int v15)] [.int t_373, .int v8, .int r_372] 257) (fun t_373 h => ?_)) (fun h => ?_)
          · refine zr_iadd C dyL_law_257 ?_
            refine zr_icmp_ne C dyL_law_258 (tgt := 265) (by decide) (fun hc_374 => ?_) (fun hc_374 => ?_)
            · replace h := zif_neg hc_374 h
              exact h
            · replace h := zif_pos hc_374 h
              refine zr_iconst C dyL_law_261 zc_i_1 ?_
              refine zr_goto C dyL_law_262 (tgt := 266) (by decide) ?_
              exact h
          refine zr_if_eq C dyL_law_249 (tgt := 256) (by decide) (fun hc_375 => ?_) (fun hc_375 => ?_)
          · replace h := zif_pos hc_375 h
            refine zr_iconst C dyL_law_256 zc_i_0 ?_
            refine zr_sub (lv2 := [(16, .int r_340), (1, .ref s.heap.size), (2, .ref (B + 0)), (4, .int v4), (5, .int v5), (6, .int v6), (7, .int v7), (9, .int v9), (10, .int v10), (11, .int v11), (14, .ref (B + k14)), (15, .int v15)]) [0, 1, 2, 3, 4, 5, 6, 8, 9, 10, 11, 12] rfl ?_
            exact h
          · replace h := zif_neg hc_375 h
            refine zr_iconst C dyL_law_252 zc_i_1 ?_
            refine zr_goto C dyL_law_253 (tgt := 257) (by decide) ?_
            refine zr_sub (lv2 := [(16, .int r_340), (1, .ref s.heap.size), (2, .ref (B + 0)), (4, .int v4), (5, .int v5), (6, .int v6), (7, .int v7), (9, .int v9), (10, .int v10), (11, .int v11), (14, .ref (B + k14)), (15, .int v15)]) [0, 1, 2, 3, 4, 5, 6, 8, 9, 10, 11, 12] rfl ?_
            exact h
      refine zr_if_eq C dyL_law_227 (tgt := 234) (by decide) (fun hc_377 => ?_) (fun hc_377 => ?_)
      · replace h := zif_pos hc_377 h
        refine zr_iconst C dyL_law_234 zc_i_0 ?_
        exact h
      · replace h := zif_neg hc_377 h
        refine zr_iconst C dyL_law_230 zc_i_1 ?_
        refine zr_goto C dyL_law_231 (tgt := 235) (by decide) ?_
        exact h
  refine zr_if_le C dyL_law_206 (tgt := 213) (by decide) (fun hc_379 => ?_) (fun hc_379 => ?_)
  · replace h := zif_pos hc_379 h
    refine zr_iconst C dyL_law_213 zc_i_0 ?_
    exact h
  · replace h := zif_neg hc_379 h
    refine zr_iconst C dyL_law_209 zc_i_1 ?_
    refine zr_goto C dyL_law_210 (tgt := 214) (by decide) ?_
    exact h
