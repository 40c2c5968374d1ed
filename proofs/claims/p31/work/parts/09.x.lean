theorem zg_11_29 {p : Program} {l : Launch} {e : Env} {R : Room} {s : State} {m : MethodId} {args : Array Value} {below : List Frame} {meth : Method} {c : Code} {Q : State → Prop} {D : va_G} {B : Nat} {cA : Nat → ClassId} {ad : Nat → Nat} {cc : ByteArray} {nL : Nat} {ret : Option FieldType} {S : List zC} {I : zI} {lv : List (Nat × Value)} {st : List Value} {pc : Nat} (C : zCx p s m args meth c cc nL RX11 ret D B cA ad) (hS : zOkX S) (hd : decode cc pc = .ok (.getfield 29, 3)) (kk : zX p l e R s m args below meth c Q D B cA nL 0 0 S I lv (.ref (B + 22) :: st) (pc + 3)) : zX p l e R s m args below meth c Q D B cA nL 0 0 S I lv (.ref (B + 0) :: st) pc :=
  zr_getr C (ci := 11) (Cn := RX11) (T := TX11) (N := 19) (k := 0) (j := 8) (fs := [some (some 1), none, some (some 3), some (some 4), none, none, none, none, some (some 22), some (some 24), some (some 43), some (some 64), some (some 69), some (some 88), some (some 97), some (some 100), some (some 109), some (some 111), none]) rfl zin_11 (Nat.le_of_ble_eq_true rfl) rfl (hS _ _ zs_0) rfl zk_fl_11_29 hd kk
theorem zg_11_53 {p : Program} {l : Launch} {e : Env} {R : Room} {s : State} {m : MethodId} {args : Array Value} {below : List Frame} {meth : Method} {c : Code} {Q : State → Prop} {D : va_G} {B : Nat} {cA : Nat → ClassId} {ad : Nat → Nat} {cc : ByteArray} {nL : Nat} {ret : Option FieldType} {S : List zC} {I : zI} {lv : List (Nat × Value)} {st : List Value} {pc : Nat} (C : zCx p s m args meth c cc nL RX11 ret D B cA ad) (hS : zOkX S) (hd : decode cc pc = .ok (.getfield 53, 3)) (kk : zX p l e R s m args below meth c Q D B cA nL 0 0 S I lv (.ref (B + 64) :: st) (pc + 3)) : zX p l e R s m args below meth c Q D B cA nL 0 0 S I lv (.ref (B + 0) :: st) pc :=
  zr_getr C (ci := 11) (Cn := RX11) (T := TX11) (N := 19) (k := 0) (j := 11) (fs := [some (some 1), none, some (some 3), some (some 4), none, none, none, none, some (some 22), some (some 24), some (some 43), some (some 64), some (some 69), some (some 88), some (some 97), some (some 100), some (some 109), some (some 111), none]) rfl zin_11 (Nat.le_of_ble_eq_true rfl) rfl (hS _ _ zs_0) rfl zk_fl_11_53 hd kk
theorem zg_11_397 {p : Program} {l : Launch} {e : Env} {R : Room} {s : State} {m : MethodId} {args : Array Value} {below : List Frame} {meth : Method} {c : Code} {Q : State → Prop} {D : va_G} {B : Nat} {cA : Nat → ClassId} {ad : Nat → Nat} {cc : ByteArray} {nL : Nat} {ret : Option FieldType} {S : List zC} {I : zI} {lv : List (Nat × Value)} {st : List Value} {pc : Nat} (C : zCx p s m args meth c cc nL RX11 ret D B cA ad) (hS : zOkX S) (hd : decode cc pc = .ok (.getfield 397, 3)) (kk : zX p l e R s m args below meth c Q D B cA nL 0 0 S I lv (.int (I.1 64 7) :: st) (pc + 3)) : zX p l e R s m args below meth c Q D B cA nL 0 0 S I lv (.ref (B + 64) :: st) pc :=
  zr_geti C (ci := 1) (Cn := RX1) (T := TX1) (N := 14) (k := 64) (j := 7) (fs := [some (some 24), some (some 43), some (some 65), some (some 67), none, none, none, none, none, none, none, none, none, none]) rfl zin_1 (Nat.le_of_ble_eq_true rfl) rfl (hS _ _ zs_64) rfl zk_fl_11_397 hd kk
theorem zg_11_400 {p : Program} {l : Launch} {e : Env} {R : Room} {s : State} {m : MethodId} {args : Array Value} {below : List Frame} {meth : Method} {c : Code} {Q : State → Prop} {D : va_G} {B : Nat} {cA : Nat → ClassId} {ad : Nat → Nat} {cc : ByteArray} {nL : Nat} {ret : Option FieldType} {S : List zC} {I : zI} {lv : List (Nat × Value)} {st : List Value} {pc : Nat} (C : zCx p s m args meth c cc nL RX11 ret D B cA ad) (hS : zOkX S) (hd : decode cc pc = .ok (.getfield 400, 3)) (kk : zX p l e R s m args below meth c Q D B cA nL 0 0 S I lv (.int (I.1 64 8) :: st) (pc + 3)) : zX p l e R s m args below meth c Q D B cA nL 0 0 S I lv (.ref (B + 64) :: st) pc :=
  zr_geti C (ci := 1) (Cn := RX1) (T := TX1) (N := 14) (k := 64) (j := 8) (fs := [some (some 24), some (some 43), some (some 65), some (some 67), none, none, none, none, none, none, none, none, none, none]) rfl zin_1 (Nat.le_of_ble_eq_true rfl) rfl (hS _ _ zs_64) rfl zk_fl_11_400 hd kk
theorem zg_11_403 {p : Program} {l : Launch} {e : Env} {R : Room} {s : State} {m : MethodId} {args : Array Value} {below : List Frame} {meth : Method} {c : Code} {Q : State → Prop} {D : va_G} {B : Nat} {cA : Nat → ClassId} {ad : Nat → Nat} {cc : ByteArray} {nL : Nat} {ret : Option FieldType} {S : List zC} {I : zI} {lv : List (Nat × Value)} {st : List Value} {pc : Nat} (C : zCx p s m args meth c cc nL RX11 ret D B cA ad) (hS : zOkX S) (hd : decode cc pc = .ok (.getfield 403, 3)) (kk : zX p l e R s m args below meth c Q D B cA nL 0 0 S I lv (.int (I.1 64 11) :: st) (pc + 3)) : zX p l e R s m args below meth c Q D B cA nL 0 0 S I lv (.ref (B + 64) :: st) pc :=
  zr_geti C (ci := 1) (Cn := RX1) (T := TX1) (N := 14) (k := 64) (j := 11) (fs := [some (some 24), some (some 43), some (some 65), some (some 67), none, none, none, none, none, none, none, none, none, none]) rfl zin_1 (Nat.le_of_ble_eq_true rfl) rfl (hS _ _ zs_64) rfl zk_fl_11_403 hd kk
theorem zg_11_406 {p : Program} {l : Launch} {e : Env} {R : Room} {s : State} {m : MethodId} {args : Array Value} {below : List Frame} {meth : Method} {c : Code} {Q : State → Prop} {D : va_G} {B : Nat} {cA : Nat → ClassId} {ad : Nat → Nat} {cc : ByteArray} {nL : Nat} {ret : Option FieldType} {S : List zC} {I : zI} {lv : List (Nat × Value)} {st : List Value} {pc : Nat} (C : zCx p s m args meth c cc nL RX11 ret D B cA ad) (hS : zOkX S) (hd : decode cc pc = .ok (.getfield 406, 3)) (kk : zX p l e R s m args below meth c Q D B cA nL 0 0 S I lv (.int (I.1 64 12) :: st) (pc + 3)) : zX p l e R s m args below meth c Q D B cA nL 0 0 S I lv (.ref (B + 64) :: st) pc :=
  zr_geti C (ci := 1) (Cn := RX1) (T := TX1) (N := 14) (k := 64) (j := 12) (fs := [some (some 24), some (some 43), some (some 65), some (some 67), none, none, none, none, none, none, none, none, none, none]) rfl zin_1 (Nat.le_of_ble_eq_true rfl) rfl (hS _ _ zs_64) rfl zk_fl_11_406 hd kk
theorem zg_11_409 {p : Program} {l : Launch} {e : Env} {R : Room} {s : State} {m : MethodId} {args : Array Value} {below : List Frame} {meth : Method} {c : Code} {Q : State → Prop} {D : va_G} {B : Nat} {cA : Nat → ClassId} {ad : Nat → Nat} {cc : ByteArray} {nL : Nat} {ret : Option FieldType} {S : List zC} {I : zI} {lv : List (Nat × Value)} {st : List Value} {pc : Nat} (C : zCx p s m args meth c cc nL RX11 ret D B cA ad) (hS : zOkX S) (hd : decode cc pc = .ok (.getfield 409, 3)) (kk : zX p l e R s m args below meth c Q D B cA nL 0 0 S I lv (.int (I.1 64 13) :: st) (pc + 3)) : zX p l e R s m args below meth c Q D B cA nL 0 0 S I lv (.ref (B + 64) :: st) pc :=
  zr_geti C (ci := 1) (Cn := RX1) (T := TX1) (N := 14) (k := 64) (j := 13) (fs := [some (some 24), some (some 43), some (some 65), some (some 67), none, none, none, none, none, none, none, none, none, none]) rfl zin_1 (Nat.le_of_ble_eq_true rfl) rfl (hS _ _ zs_64) rfl zk_fl_11_409 hd kk
theorem zg_11_412 {p : Program} {l : Launch} {e : Env} {R : Room} {s : State} {m : MethodId} {args : Array Value} {below : List Frame} {meth : Method} {c : Code} {Q : State → Prop} {D : va_G} {B : Nat} {cA : Nat → ClassId} {ad : Nat → Nat} {cc : ByteArray} {nL : Nat} {ret : Option FieldType} {S : List zC} {I : zI} {lv : List (Nat × Value)} {st : List Value} {pc : Nat} (C : zCx p s m args meth c cc nL RX11 ret D B cA ad) (hS : zOkX S) (hd : decode cc pc = .ok (.getfield 412, 3)) (kk : zX p l e R s m args below meth c Q D B cA nL 0 0 S I lv (.int (I.1 64 9) :: st) (pc + 3)) : zX p l e R s m args below meth c Q D B cA nL 0 0 S I lv (.ref (B + 64) :: st) pc :=
  zr_geti C (ci := 1) (Cn := RX1) (T := TX1) (N := 14) (k := 64) (j := 9) (fs := [some (some 24), some (some 43), some (some 65), some (some 67), none, none, none, none, none, none, none, none, none, none]) rfl zin_1 (Nat.le_of_ble_eq_true rfl) rfl (hS _ _ zs_64) rfl zk_fl_11_412 hd kk
def w_Desk_tellGrowth (a1 : Int32) (I : zI) (K : zI → Prop) : Prop :=
  w_Row_set 22 10 0 (I.1 64 7) I (fun I_1 => w_Row_set 22 10 1 (I_1.1 64 8) I_1 (fun I_2 => w_Row_set 22 10 2 (I_2.1 64 11) I_2 (fun I_3 => w_Row_set 22 10 3 a1 I_3 (fun I_4 => w_Row_set 22 10 4 0 I_4 (fun I_5 => w_Row_set 22 10 5 (I_5.1 64 12) I_5 (fun I_6 => w_Row_set 22 10 6 (I_6.1 64 13) I_6 (fun I_7 => w_Row_set 22 10 7 (I_7.1 64 9) I_7 (fun I_8 => w_Row_set 22 10 8 0 I_8 (fun I_9 => w_Row_set 22 10 9 0 I_9 (fun I_10 => K I_10))))))))))
theorem dyX11_tellGrowth_0 : decode cX11_tellGrowth 0 = .ok (.aload_n 0, 1) := by decide +kernel
theorem dyX11_tellGrowth_1 : decode cX11_tellGrowth 1 = .ok (.getfield 29, 3) := by decide +kernel
theorem dyX11_tellGrowth_4 : decode cX11_tellGrowth 4 = .ok (.iconst 0, 1) := by decide +kernel
theorem dyX11_tellGrowth_5 : decode cX11_tellGrowth 5 = .ok (.aload_n 0, 1) := by decide +kernel
theorem dyX11_tellGrowth_6 : decode cX11_tellGrowth 6 = .ok (.getfield 53, 3) := by decide +kernel
theorem dyX11_tellGrowth_9 : decode cX11_tellGrowth 9 = .ok (.getfield 397, 3) := by decide +kernel
theorem dyX11_tellGrowth_12 : decode cX11_tellGrowth 12 = .ok (.invokevirtual 118, 3) := by decide +kernel
theorem dyX11_tellGrowth_15 : decode cX11_tellGrowth 15 = .ok (.aload_n 0, 1) := by decide +kernel
theorem dyX11_tellGrowth_16 : decode cX11_tellGrowth 16 = .ok (.getfield 29, 3) := by decide +kernel
theorem dyX11_tellGrowth_19 : decode cX11_tellGrowth 19 = .ok (.iconst 1, 1) := by decide +kernel
theorem dyX11_tellGrowth_20 : decode cX11_tellGrowth 20 = .ok (.aload_n 0, 1) := by decide +kernel
theorem dyX11_tellGrowth_21 : decode cX11_tellGrowth 21 = .ok (.getfield 53, 3) := by decide +kernel
theorem dyX11_tellGrowth_24 : decode cX11_tellGrowth 24 = .ok (.getfield 400, 3) := by decide +kernel
theorem dyX11_tellGrowth_27 : decode cX11_tellGrowth 27 = .ok (.invokevirtual 118, 3) := by decide +kernel
theorem dyX11_tellGrowth_30 : decode cX11_tellGrowth 30 = .ok (.aload_n 0, 1) := by decide +kernel
theorem dyX11_tellGrowth_31 : decode cX11_tellGrowth 31 = .ok (.getfield 29, 3) := by decide +kernel
theorem dyX11_tellGrowth_34 : decode cX11_tellGrowth 34 = .ok (.iconst 2, 1) := by decide +kernel
theorem dyX11_tellGrowth_35 : decode cX11_tellGrowth 35 = .ok (.aload_n 0, 1) := by decide +kernel
theorem dyX11_tellGrowth_36 : decode cX11_tellGrowth 36 = .ok (.getfield 53, 3) := by decide +kernel
theorem dyX11_tellGrowth_39 : decode cX11_tellGrowth 39 = .ok (.getfield 403, 3) := by decide +kernel
theorem dyX11_tellGrowth_42 : decode cX11_tellGrowth 42 = .ok (.invokevirtual 118, 3) := by decide +kernel
theorem dyX11_tellGrowth_45 : decode cX11_tellGrowth 45 = .ok (.aload_n 0, 1) := by decide +kernel
theorem dyX11_tellGrowth_46 : decode cX11_tellGrowth 46 = .ok (.getfield 29, 3) := by decide +kernel
theorem dyX11_tellGrowth_49 : decode cX11_tellGrowth 49 = .ok (.iconst 3, 1) := by decide +kernel
theorem dyX11_tellGrowth_50 : decode cX11_tellGrowth 50 = .ok (.iload_n 1, 1) := by decide +kernel
theorem dyX11_tellGrowth_51 : decode cX11_tellGrowth 51 = .ok (.invokevirtual 118, 3) := by decide +kernel
theorem dyX11_tellGrowth_54 : decode cX11_tellGrowth 54 = .ok (.aload_n 0, 1) := by decide +kernel
theorem dyX11_tellGrowth_55 : decode cX11_tellGrowth 55 = .ok (.getfield 29, 3) := by decide +kernel
theorem dyX11_tellGrowth_58 : decode cX11_tellGrowth 58 = .ok (.iconst 4, 1) := by decide +kernel
theorem dyX11_tellGrowth_59 : decode cX11_tellGrowth 59 = .ok (.iconst 0, 1) := by decide +kernel
theorem dyX11_tellGrowth_60 : decode cX11_tellGrowth 60 = .ok (.invokevirtual 118, 3) := by decide +kernel
theorem dyX11_tellGrowth_63 : decode cX11_tellGrowth 63 = .ok (.aload_n 0, 1) := by decide +kernel
theorem dyX11_tellGrowth_64 : decode cX11_tellGrowth 64 = .ok (.getfield 29, 3) := by decide +kernel
theorem dyX11_tellGrowth_67 : decode cX11_tellGrowth 67 = .ok (.iconst 5, 1) := by decide +kernel
theorem dyX11_tellGrowth_68 : decode cX11_tellGrowth 68 = .ok (.aload_n 0, 1) := by decide +kernel
theorem dyX11_tellGrowth_69 : decode cX11_tellGrowth 69 = .ok (.getfield 53, 3) := by decide +kernel
theorem dyX11_tellGrowth_72 : decode cX11_tellGrowth 72 = .ok (.getfield 406, 3) := by decide +kernel
theorem dyX11_tellGrowth_75 : decode cX11_tellGrowth 75 = .ok (.invokevirtual 118, 3) := by decide +kernel
theorem dyX11_tellGrowth_78 : decode cX11_tellGrowth 78 = .ok (.aload_n 0, 1) := by decide +kernel
theorem dyX11_tellGrowth_79 : decode cX11_tellGrowth 79 = .ok (.getfield 29, 3) := by decide +kernel
theorem dyX11_tellGrowth_82 : decode cX11_tellGrowth 82 = .ok (.bipush 6, 2) := by decide +kernel
theorem dyX11_tellGrowth_84 : decode cX11_tellGrowth 84 = .ok (.aload_n 0, 1) := by decide +kernel
theorem dyX11_tellGrowth_85 : decode cX11_tellGrowth 85 = .ok (.getfield 53, 3) := by decide +kernel
theorem dyX11_tellGrowth_88 : decode cX11_tellGrowth 88 = .ok (.getfield 409, 3) := by decide +kernel
theorem dyX11_tellGrowth_91 : decode cX11_tellGrowth 91 = .ok (.invokevirtual 118, 3) := by decide +kernel
theorem dyX11_tellGrowth_94 : decode cX11_tellGrowth 94 = .ok (.aload_n 0, 1) := by decide +kernel
theorem dyX11_tellGrowth_95 : decode cX11_tellGrowth 95 = .ok (.getfield 29, 3) := by decide +kernel
theorem dyX11_tellGrowth_98 : decode cX11_tellGrowth 98 = .ok (.bipush 7, 2) := by decide +kernel
theorem dyX11_tellGrowth_100 : decode cX11_tellGrowth 100 = .ok (.aload_n 0, 1) := by decide +kernel
theorem dyX11_tellGrowth_101 : decode cX11_tellGrowth 101 = .ok (.getfield 53, 3) := by decide +kernel
theorem dyX11_tellGrowth_104 : decode cX11_tellGrowth 104 = .ok (.getfield 412, 3) := by decide +kernel
theorem dyX11_tellGrowth_107 : decode cX11_tellGrowth 107 = .ok (.invokevirtual 118, 3) := by decide +kernel
theorem dyX11_tellGrowth_110 : decode cX11_tellGrowth 110 = .ok (.aload_n 0, 1) := by decide +kernel
theorem dyX11_tellGrowth_111 : decode cX11_tellGrowth 111 = .ok (.getfield 29, 3) := by decide +kernel
theorem dyX11_tellGrowth_114 : decode cX11_tellGrowth 114 = .ok (.bipush 8, 2) := by decide +kernel
theorem dyX11_tellGrowth_116 : decode cX11_tellGrowth 116 = .ok (.iconst 0, 1) := by decide +kernel
theorem dyX11_tellGrowth_117 : decode cX11_tellGrowth 117 = .ok (.invokevirtual 118, 3) := by decide +kernel
theorem dyX11_tellGrowth_120 : decode cX11_tellGrowth 120 = .ok (.aload_n 0, 1) := by decide +kernel
theorem dyX11_tellGrowth_121 : decode cX11_tellGrowth 121 = .ok (.getfield 29, 3) := by decide +kernel
theorem dyX11_tellGrowth_124 : decode cX11_tellGrowth 124 = .ok (.bipush 9, 2) := by decide +kernel
theorem dyX11_tellGrowth_126 : decode cX11_tellGrowth 126 = .ok (.iconst 0, 1) := by decide +kernel
theorem dyX11_tellGrowth_127 : decode cX11_tellGrowth 127 = .ok (.invokevirtual 118, 3) := by decide +kernel
theorem dyX11_tellGrowth_130 : decode cX11_tellGrowth 130 = .ok (.return_, 1) := by decide +kernel
theorem zsg_yX11_tellGrowth : yX11_tellGrowth.cls = RX11 ∧ yX11_tellGrowth.cls ≠ "java/lang/invoke/MethodHandle" ∧ yX11_tellGrowth.cls ≠ "java/lang/invoke/VarHandle" ∧ (parseMethodDescriptor yX11_tellGrowth.desc).map (fun d => d.parameters.length) = some 1 := by decide +kernel
set_option maxRecDepth 20000 in
theorem c_Desk_tellGrowth {l : Launch} {D : va_G} {B : Nat} {cA : Nat → ClassId} {ad : Nat → Nat} {S : List zC} (hS : zOkX S) {a1 : Int32} {I : zI} {K : zI → Prop}  (h : w_Desk_tellGrowth a1 I K) : Met l yX11_tellGrowth (zws yX11_tellGrowth cX11_tellGrowth 2 none) (zrm 1 22) (zPc D B cA ad [.ref (B + 0), .int a1] S I) (zQc D B cA (zqV S K)) 0 0 (fun q => B ≤ q) := by
  refine zm_of (cc := cX11_tellGrowth) (maxL := 2) (ret := none) (by decide +kernel) rfl (Nat.le_of_ble_eq_true rfl) trivial ?_
  intro p e s m args below meth c C _
  unfold w_Desk_tellGrowth at h
  show zX p l e (zrm 1 22) s m args below meth c (MQ below (zQc D B cA (zqV S K)) args s 0 0 (fun q => B ≤ q)) D B cA 2 0 0 S I [(0, .ref (B + 0)), (1, .int a1)] [] 0
  refine zr_aload_n C dyX11_tellGrowth_0 rfl 0 rfl ?_
  refine zg_11_29 C hS dyX11_tellGrowth_1 ?_
  refine zr_iconst C dyX11_tellGrowth_4 zc_i_0 ?_
  refine zr_aload_n C dyX11_tellGrowth_5 rfl 0 rfl ?_
  refine zg_11_53 C hS dyX11_tellGrowth_6 ?_
  refine zg_11_397 C hS dyX11_tellGrowth_9 ?_
  refine zv_11_118 C hS (zIsRow.of hS zir_22) (st := []) h ⟨Nat.le_of_ble_eq_true rfl, Nat.le_of_ble_eq_true rfl⟩ (Nat.le_of_ble_eq_true rfl) dyX11_tellGrowth_12 (fun I_1 h => ?_)
  refine zr_aload_n C dyX11_tellGrowth_15 rfl 0 rfl ?_
  refine zg_11_29 C hS dyX11_tellGrowth_16 ?_
  refine zr_iconst C dyX11_tellGrowth_19 zc_i_1 ?_
  refine zr_aload_n C dyX11_tellGrowth_20 rfl 0 rfl ?_
  refine zg_11_53 C hS dyX11_tellGrowth_21 ?_
  refine zg_11_400 C hS dyX11_tellGrowth_24 ?_
  refine zv_11_118 C hS (zIsRow.of hS zir_22) (st := []) h ⟨Nat.le_of_ble_eq_true rfl, Nat.le_of_ble_eq_true rfl⟩ (Nat.le_of_ble_eq_true rfl) dyX11_tellGrowth_27 (fun I_2 h => ?_)
  refine zr_aload_n C dyX11_tellGrowth_30 rfl 0 rfl ?_
  refine zg_11_29 C hS dyX11_tellGrowth_31 ?_
  refine zr_iconst C dyX11_tellGrowth_34 zc_i_2 ?_
  refine zr_aload_n C dyX11_tellGrowth_35 rfl 0 rfl ?_
  refine zg_11_53 C hS dyX11_tellGrowth_36 ?_
  refine zg_11_403 C hS dyX11_tellGrowth_39 ?_
  refine zv_11_118 C hS (zIsRow.of hS zir_22) (st := []) h ⟨Nat.le_of_ble_eq_true rfl, Nat.le_of_ble_eq_true rfl⟩ (Nat.le_of_ble_eq_true rfl) dyX11_tellGrowth_42 (fun I_3 h => ?_)
  refine zr_aload_n C dyX11_tellGrowth_45 rfl 0 rfl ?_
  refine zg_11_29 C hS dyX11_tellGrowth_46 ?_
  refine zr_iconst C dyX11_tellGrowth_49 zc_i_3 ?_
  refine zr_iload_n C dyX11_tellGrowth_50 rfl 1 rfl ?_
  refine zv_11_118 C hS (zIsRow.of hS zir_22) (st := []) h ⟨Nat.le_of_ble_eq_true rfl, Nat.le_of_ble_eq_true rfl⟩ (Nat.le_of_ble_eq_true rfl) dyX11_tellGrowth_51 (fun I_4 h => ?_)
  refine zr_aload_n C dyX11_tellGrowth_54 rfl 0 rfl ?_
  refine zg_11_29 C hS dyX11_tellGrowth_55 ?_
  refine zr_iconst C dyX11_tellGrowth_58 zc_i_4 ?_
  refine zr_iconst C dyX11_tellGrowth_59 zc_i_0 ?_
  refine zv_11_118 C hS (zIsRow.of hS zir_22) (st := []) h ⟨Nat.le_of_ble_eq_true rfl, Nat.le_of_ble_eq_true rfl⟩ (Nat.le_of_ble_eq_true rfl) dyX11_tellGrowth_60 (fun I_5 h => ?_)
  refine zr_aload_n C dyX11_tellGrowth_63 rfl 0 rfl ?_
  refine zg_11_29 C hS dyX11_tellGrowth_64 ?_
  refine zr_iconst C dyX11_tellGrowth_67 zc_i_5 ?_
  refine zr_aload_n C dyX11_tellGrowth_68 rfl 0 rfl ?_
  refine zg_11_53 C hS dyX11_tellGrowth_69 ?_
  refine zg_11_406 C hS dyX11_tellGrowth_72 ?_
  refine zv_11_118 C hS (zIsRow.of hS zir_22) (st := []) h ⟨Nat.le_of_ble_eq_true rfl, Nat.le_of_ble_eq_true rfl⟩ (Nat.le_of_ble_eq_true rfl) dyX11_tellGrowth_75 (fun I_6 h => ?_)
  refine zr_aload_n C dyX11_tellGrowth_78 rfl 0 rfl ?_
  refine zg_11_29 C hS dyX11_tellGrowth_79 ?_
  refine zr_bipush C dyX11_tellGrowth_82 zc_b_6 ?_
  refine zr_aload_n C dyX11_tellGrowth_84 rfl 0 rfl ?_
  refine zg_11_53 C hS dyX11_tellGrowth_85 ?_
  refine zg_11_409 C hS dyX11_tellGrowth_88 ?_
  refine zv_11_118 C hS (zIsRow.of hS zir_22) (st := []) h ⟨Nat.le_of_ble_eq_true rfl, Nat.le_of_ble_eq_true rfl⟩ (Nat.le_of_ble_eq_true rfl) dyX11_tellGrowth_91 (fun I_7 h => ?_)
  refine zr_aload_n C dyX11_tellGrowth_94 rfl 0 rfl ?_
  refine zg_11_29 C hS dyX11_tellGrowth_95 ?_
  refine zr_bipush C dyX11_tellGrowth_98 zc_b_7 ?_
  refine zr_aload_n C dyX11_tellGrowth_100 rfl 0 rfl ?_
  refine zg_11_53 C hS dyX11_tellGrowth_101 ?_
  refine zg_11_412 C hS dyX11_tellGrowth_104 ?_
  refine zv_11_118 C hS (zIsRow.of hS zir_22) (st := []) h ⟨Nat.le_of_ble_eq_true rfl, Nat.le_of_ble_eq_true rfl⟩ (Nat.le_of_ble_eq_true rfl) dyX11_tellGrowth_107 (fun I_8 h => ?_)
  refine zr_aload_n C dyX11_tellGrowth_110 rfl 0 rfl ?_
  refine zg_11_29 C hS dyX11_tellGrowth_111 ?_
  refine zr_bipush C dyX11_tellGrowth_114 zc_b_8 ?_
  refine zr_iconst C dyX11_tellGrowth_116 zc_i_0 ?_
  refine zv_11_118 C hS (zIsRow.of hS zir_22) (st := []) h ⟨Nat.le_of_ble_eq_true rfl, Nat.le_of_ble_eq_true rfl⟩ (Nat.le_of_ble_eq_true rfl) dyX11_tellGrowth_117 (fun I_9 h => ?_)
  refine zr_aload_n C dyX11_tellGrowth_120 rfl 0 rfl ?_
  refine zg_11_29 C hS dyX11_tellGrowth_121 ?_
  refine zr_bipush C dyX11_tellGrowth_124 zc_b_9 ?_
  refine zr_iconst C dyX11_tellGrowth_126 zc_i_0 ?_
  refine zv_11_118 C hS (zIsRow.of hS zir_22) (st := []) h ⟨Nat.le_of_ble_eq_true rfl, Nat.le_of_ble_eq_true rfl⟩ (Nat.le_of_ble_eq_true rfl) dyX11_tellGrowth_127 (fun I_10 h => ?_)
  exact zr_vret C rfl dyX11_tellGrowth_130 ⟨rfl, rfl, h⟩
theorem zg_11_44 {p : Program} {l : Launch} {e : Env} {R : Room} {s : State} {m : MethodId} {args : Array Value} {below : List Frame} {meth : Method} {c : Code} {Q : State → Prop} {D : va_G} {B : Nat} {cA : Nat → ClassId} {ad : Nat → Nat} {cc : ByteArray} {nL : Nat} {ret : Option FieldType} {S : List zC} {I : zI} {lv : List (Nat × Value)} {st : List Value} {pc : Nat} (C : zCx p s m args meth c cc nL RX11 ret D B cA ad) (hS : zOkX S) (hd : decode cc pc = .ok (.getfield 44, 3)) (kk : zX p l e R s m args below meth c Q D B cA nL 0 0 S I lv (.ref (B + 43) :: st) (pc + 3)) : zX p l e R s m args below meth c Q D B cA nL 0 0 S I lv (.ref (B + 0) :: st) pc :=
  zr_getr C (ci := 11) (Cn := RX11) (T := TX11) (N := 19) (k := 0) (j := 10) (fs := [some (some 1), none, some (some 3), some (some 4), none, none, none, none, some (some 22), some (some 24), some (some 43), some (some 64), some (some 69), some (some 88), some (some 97), some (some 100), some (some 109), some (some 111), none]) rfl zin_11 (Nat.le_of_ble_eq_true rfl) rfl (hS _ _ zs_0) rfl zk_fl_11_44 hd kk
theorem zv_11_430 {p : Program} {l : Launch} {e : Env} {R : Room} {s : State} {m : MethodId} {args : Array Value} {below : List Frame} {meth : Method} {c : Code} {Q : State → Prop} {D : va_G} {B : Nat} {cA : Nat → ClassId} {ad : Nat → Nat} {cc : ByteArray} {nL : Nat} {ret : Option FieldType} {S : List zC} {I : zI} {lv : List (Nat × Value)} {st : List Value} {pc : Nat} (C : zCx p s m args meth c cc nL RX11 ret D B cA ad) {K : zI → Prop} {xa1 : Nat} (hS : zOkX S) (xha1 : zIsMoment S xa1) (h : w_TreeView_lookAt xa1 I K) (hR : 3 + 1 ≤ R.frames ∧ 8 + (2 + 11) + (70) ≤ R.locals) (hw : (st.map fun v => v.category).sum ≤ 8) (hd : decode cc pc = .ok (.invokevirtual 430, 3)) (kk : ∀ I2, K I2 → zX p l e R s m args below meth c Q D B cA nL 0 0 S I2 lv st (pc + 3)) : zX p l e R s m args below meth c Q D B cA nL 0 0 S I lv (.ref (B + xa1) :: .ref (B + 43) :: st) pc :=
  have hf : 0 ≤ R.cells ∧ 0 ≤ R.slots := ⟨Nat.zero_le _, Nat.zero_le _⟩
  zc_VqV C (ci := 9) (q := (RX9, TX9, 16)) (k := 43) (fs := [some (some 24), some (some 44), some (some 46), some (some 48), some (some 50), some (some 52), some (some 54), some (some 56), some (some 58), some (some 60), some (some 62), none, none, none, none, none]) (As := [.ref (B + xa1)]) (st := st) rfl (hS _ _ zs_43) (c_TreeView_lookAt hS xha1 h) (zgV zk_ml_11_430 zk_im_yX9_lookAt zk_se_yX9_lookAt zk_in_9 zk_cd_yX9_lookAt) zsg_yX9_lookAt hR rfl rfl hw hd hf kk
theorem zg_11_60 {p : Program} {l : Launch} {e : Env} {R : Room} {s : State} {m : MethodId} {args : Array Value} {below : List Frame} {meth : Method} {c : Code} {Q : State → Prop} {D : va_G} {B : Nat} {cA : Nat → ClassId} {ad : Nat → Nat} {cc : ByteArray} {nL : Nat} {ret : Option FieldType} {S : List zC} {I : zI} {lv : List (Nat × Value)} {st : List Value} {pc : Nat} (C : zCx p s m args meth c cc nL RX11 ret D B cA ad) (hS : zOkX S) (hd : decode cc pc = .ok (.getfield 60, 3)) (kk : zX p l e R s m args below meth c Q D B cA nL 0 0 S I lv (.ref (B + 69) :: st) (pc + 3)) : zX p l e R s m args below meth c Q D B cA nL 0 0 S I lv (.ref (B + 0) :: st) pc :=
  zr_getr C (ci := 11) (Cn := RX11) (T := TX11) (N := 19) (k := 0) (j := 12) (fs := [some (some 1), none, some (some 3), some (some 4), none, none, none, none, some (some 22), some (some 24), some (some 43), some (some 64), some (some 69), some (some 88), some (some 97), some (some 100), some (some 109), some (some 111), none]) rfl zin_11 (Nat.le_of_ble_eq_true rfl) rfl (hS _ _ zs_0) rfl zk_fl_11_60 hd kk
theorem zv_11_432 {p : Program} {l : Launch} {e : Env} {R : Room} {s : State} {m : MethodId} {args : Array Value} {below : List Frame} {meth : Method} {c : Code} {Q : State → Prop} {D : va_G} {B : Nat} {cA : Nat → ClassId} {ad : Nat → Nat} {cc : ByteArray} {nL : Nat} {ret : Option FieldType} {S : List zC} {I : zI} {lv : List (Nat × Value)} {st : List Value} {pc : Nat} (C : zCx p s m args meth c cc nL RX11 ret D B cA ad) {K : zI → Prop} {xa1 : Nat} {xa2 : Int32} (hS : zOkX S) (xha1 : zIsMoment S xa1) (h : w_Runner_runAll xa1 xa2 I K) (hR : 4 + 1 ≤ R.frames ∧ 8 + (4 + 11) + (96) ≤ R.locals) (hw : (st.map fun v => v.category).sum ≤ 8) (hd : decode cc pc = .ok (.invokevirtual 432, 3)) (kk : ∀ I2, K I2 → zX p l e R s m args below meth c Q D B cA nL 0 0 S I2 lv st (pc + 3)) : zX p l e R s m args below meth c Q D B cA nL 0 0 S I lv (.int xa2 :: .ref (B + xa1) :: .ref (B + 69) :: st) pc :=
  have hf : 0 ≤ R.cells ∧ 0 ≤ R.slots := ⟨Nat.zero_le _, Nat.zero_le _⟩
  zc_VqV C (ci := 7) (q := (RX7, TX7, 17)) (k := 69) (fs := [some (some 24), some (some 43), some (some 70), some (some 72), some (some 74), some (some 76), some (some 78), some (some 80), some (some 82), some (some 84), some (some 86), none, none, none, none, none, none]) (As := [.ref (B + xa1), .int xa2]) (st := st) rfl (hS _ _ zs_69) (c_Runner_runAll hS xha1 h) (zgV zk_ml_11_432 zk_im_yX7_runAll zk_se_yX7_runAll zk_in_7 zk_cd_yX7_runAll) zsg_yX7_runAll hR rfl rfl hw hd hf kk
theorem zg_11_74 {p : Program} {l : Launch} {e : Env} {R : Room} {s : State} {m : MethodId} {args : Array Value} {below : List Frame} {meth : Method} {c : Code} {Q : State → Prop} {D : va_G} {B : Nat} {cA : Nat → ClassId} {ad : Nat → Nat} {cc : ByteArray} {nL : Nat} {ret : Option FieldType} {S : List zC} {I : zI} {lv : List (Nat × Value)} {st : List Value} {pc : Nat} (C : zCx p s m args meth c cc nL RX11 ret D B cA ad) (hS : zOkX S) (hd : decode cc pc = .ok (.getfield 74, 3)) (kk : zX p l e R s m args below meth c Q D B cA nL 0 0 S I lv (.ref (B + 97) :: st) (pc + 3)) : zX p l e R s m args below meth c Q D B cA nL 0 0 S I lv (.ref (B + 0) :: st) pc :=
  zr_getr C (ci := 11) (Cn := RX11) (T := TX11) (N := 19) (k := 0) (j := 14) (fs := [some (some 1), none, some (some 3), some (some 4), none, none, none, none, some (some 22), some (some 24), some (some 43), some (some 64), some (some 69), some (some 88), some (some 97), some (some 100), some (some 109), some (some 111), none]) rfl zin_11 (Nat.le_of_ble_eq_true rfl) rfl (hS _ _ zs_0) rfl zk_fl_11_74 hd kk
theorem zg_11_352 {p : Program} {l : Launch} {e : Env} {R : Room} {s : State} {m : MethodId} {args : Array Value} {below : List Frame} {meth : Method} {c : Code} {Q : State → Prop} {D : va_G} {B : Nat} {cA : Nat → ClassId} {ad : Nat → Nat} {cc : ByteArray} {nL : Nat} {ret : Option FieldType} {S : List zC} {I : zI} {lv : List (Nat × Value)} {st : List Value} {pc : Nat} (C : zCx p s m args meth c cc nL RX11 ret D B cA ad) {k : Nat} (hk : zIsMoment S k) (hd : decode cc pc = .ok (.getfield 352, 3)) (kk : zX p l e R s m args below meth c Q D B cA nL 0 0 S I lv (.int (I.1 k 7) :: st) (pc + 3)) : zX p l e R s m args below meth c Q D B cA nL 0 0 S I lv (.ref (B + k) :: st) pc :=
  zr_geti C (ci := 2) (Cn := RX2) (T := TX2) (N := 9) (k := k) (j := 7) (fs := [some (some (k + 1)), none, some (some (k + 3)), none, some (some (k + 14)), some (some (k + 16)), none, none, none]) rfl zin_2 (Nat.le_of_ble_eq_true rfl) rfl hk.1 rfl zk_fl_11_352 hd kk
theorem zg_11_85 {p : Program} {l : Launch} {e : Env} {R : Room} {s : State} {m : MethodId} {args : Array Value} {below : List Frame} {meth : Method} {c : Code} {Q : State → Prop} {D : va_G} {B : Nat} {cA : Nat → ClassId} {ad : Nat → Nat} {cc : ByteArray} {nL : Nat} {ret : Option FieldType} {S : List zC} {I : zI} {lv : List (Nat × Value)} {st : List Value} {pc : Nat} (C : zCx p s m args meth c cc nL RX11 ret D B cA ad) (hS : zOkX S) (hd : decode cc pc = .ok (.getfield 85, 3)) (kk : zX p l e R s m args below meth c Q D B cA nL 0 0 S I lv (.ref (B + 109) :: st) (pc + 3)) : zX p l e R s m args below meth c Q D B cA nL 0 0 S I lv (.ref (B + 0) :: st) pc :=
  zr_getr C (ci := 11) (Cn := RX11) (T := TX11) (N := 19) (k := 0) (j := 16) (fs := [some (some 1), none, some (some 3), some (some 4), none, none, none, none, some (some 22), some (some 24), some (some 43), some (some 64), some (some 69), some (some 88), some (some 97), some (some 100), some (some 109), some (some 111), none]) rfl zin_11 (Nat.le_of_ble_eq_true rfl) rfl (hS _ _ zs_0) rfl zk_fl_11_85 hd kk
theorem zv_11_435 {p : Program} {l : Launch} {e : Env} {R : Room} {s : State} {m : MethodId} {args : Array Value} {below : List Frame} {meth : Method} {c : Code} {Q : State → Prop} {D : va_G} {B : Nat} {cA : Nat → ClassId} {ad : Nat → Nat} {cc : ByteArray} {nL : Nat} {ret : Option FieldType} {S : List zC} {I : zI} {lv : List (Nat × Value)} {st : List Value} {pc : Nat} (C : zCx p s m args meth c cc nL RX11 ret D B cA ad) {K : Int32 → zI → Prop} {xa1 : Int32} {xa2 : Nat} {xa2n : Nat} (hS : zOkX S) (xha2 : zIsRow S xa2 xa2n) (h : w_Printer_write xa1 xa2 xa2n I K) (hR : 3 + 1 ≤ R.frames ∧ 8 + (5 + 11) + (67) ≤ R.locals) (hw : (st.map fun v => v.category).sum ≤ 8) (hd : decode cc pc = .ok (.invokevirtual 435, 3)) (kk : ∀ v I2, K v I2 → zX p l e R s m args below meth c Q D B cA nL 0 0 S I2 lv (.int v :: st) (pc + 3)) : zX p l e R s m args below meth c Q D B cA nL 0 0 S I lv (.ref (B + xa2) :: .int xa1 :: .ref (B + 97) :: st) pc :=
  have hf : 0 ≤ R.cells ∧ 0 ≤ R.slots := ⟨Nat.zero_le _, Nat.zero_le _⟩
  zc_VqI C (ci := 5) (q := (RX5, TX5, 4)) (k := 97) (fs := [some (some 24), some (some 98), none, none]) (As := [.int xa1, .ref (B + xa2)]) (st := st) rfl (hS _ _ zs_97) (c_Printer_write hS xha2 h) (zgV zk_ml_11_435 zk_im_yX5_write zk_se_yX5_write zk_in_5 zk_cd_yX5_write) zsg_yX5_write hR rfl rfl hw hd hf kk
theorem zp_11_291 {p : Program} {l : Launch} {e : Env} {R : Room} {s : State} {m : MethodId} {args : Array Value} {below : List Frame} {meth : Method} {c : Code} {Q : State → Prop} {D : va_G} {B : Nat} {cA : Nat → ClassId} {ad : Nat → Nat} {cc : ByteArray} {nL : Nat} {ret : Option FieldType} {S : List zC} {I : zI} {lv : List (Nat × Value)} {st : List Value} {pc : Nat} (C : zCx p s m args meth c cc nL RX11 ret D B cA ad) (hS : zOkX S) {v : Int32} (hd : decode cc pc = .ok (.putfield 291, 3)) (kk : zX p l e R s m args below meth c Q D B cA nL 0 0 S (zu I 0 18 v) lv st (pc + 3)) : zX p l e R s m args below meth c Q D B cA nL 0 0 S I lv (.int v :: .ref (B + 0) :: st) pc :=
  zr_puti C (ci := 11) (Cn := RX11) (T := TX11) (N := 19) (k := 0) (j := 18) (fs := [some (some 1), none, some (some 3), some (some 4), none, none, none, none, some (some 22), some (some 24), some (some 43), some (some 64), some (some 69), some (some 88), some (some 97), some (some 100), some (some 109), some (some 111), none]) rfl zin_11 (Nat.le_of_ble_eq_true rfl) rfl (hS _ _ zs_0) rfl tyX11 tyX11_ok nmX11 (ty := .int) zpd_I rfl rfl rfl zk_fl_11_291 hd kk
def w_Desk_lookAt (a1 : Nat) (a2 : Int32) (I : zI) (K : zI → Prop) : Prop :=
  w_TreeView_lookAt a1 I (fun I_1 => w_Runner_runAll a1 a2 I_1 (fun I_2 => w_Printer_write (I_2.1 a1 7) 109 700 I_2 (fun r_3 I_4 => ∀ I_5, I_5 = (zu I_4 0 18 r_3) → K I_5)))
theorem dyX11_lookAt_0 : decode cX11_lookAt 0 = .ok (.aload_n 0, 1) := by decide +kernel
theorem dyX11_lookAt_1 : decode cX11_lookAt 1 = .ok (.getfield 44, 3) := by decide +kernel
theorem dyX11_lookAt_4 : decode cX11_lookAt 4 = .ok (.aload_n 1, 1) := by decide +kernel
theorem dyX11_lookAt_5 : decode cX11_lookAt 5 = .ok (.invokevirtual 430, 3) := by decide +kernel
theorem dyX11_lookAt_8 : decode cX11_lookAt 8 = .ok (.aload_n 0, 1) := by decide +kernel
theorem dyX11_lookAt_9 : decode cX11_lookAt 9 = .ok (.getfield 60, 3) := by decide +kernel
theorem dyX11_lookAt_12 : decode cX11_lookAt 12 = .ok (.aload_n 1, 1) := by decide +kernel
theorem dyX11_lookAt_13 : decode cX11_lookAt 13 = .ok (.iload_n 2, 1) := by decide +kernel
theorem dyX11_lookAt_14 : decode cX11_lookAt 14 = .ok (.invokevirtual 432, 3) := by decide +kernel
theorem dyX11_lookAt_17 : decode cX11_lookAt 17 = .ok (.aload_n 0, 1) := by decide +kernel
theorem dyX11_lookAt_18 : decode cX11_lookAt 18 = .ok (.aload_n 0, 1) := by decide +kernel
theorem dyX11_lookAt_19 : decode cX11_lookAt 19 = .ok (.getfield 74, 3) := by decide +kernel
theorem dyX11_lookAt_22 : decode cX11_lookAt 22 = .ok (.aload_n 1, 1) := by decide +kernel
theorem dyX11_lookAt_23 : decode cX11_lookAt 23 = .ok (.getfield 352, 3) := by decide +kernel
theorem dyX11_lookAt_26 : decode cX11_lookAt 26 = .ok (.aload_n 0, 1) := by decide +kernel
theorem dyX11_lookAt_27 : decode cX11_lookAt 27 = .ok (.getfield 85, 3) := by decide +kernel
theorem dyX11_lookAt_30 : decode cX11_lookAt 30 = .ok (.invokevirtual 435, 3) := by decide +kernel
theorem dyX11_lookAt_33 : decode cX11_lookAt 33 = .ok (.putfield 291, 3) := by decide +kernel
theorem dyX11_lookAt_36 : decode cX11_lookAt 36 = .ok (.return_, 1) := by decide +kernel
theorem zsg_yX11_lookAt : yX11_lookAt.cls = RX11 ∧ yX11_lookAt.cls ≠ "java/lang/invoke/MethodHandle" ∧ yX11_lookAt.cls ≠ "java/lang/invoke/VarHandle" ∧ (parseMethodDescriptor yX11_lookAt.desc).map (fun d => d.parameters.length) = some 2 := by decide +kernel
set_option maxRecDepth 20000 in
theorem c_Desk_lookAt {l : Launch} {D : va_G} {B : Nat} {cA : Nat → ClassId} {ad : Nat → Nat} {S : List zC} (hS : zOkX S) {a1 : Nat} {a2 : Int32} {I : zI} {K : zI → Prop} (ha1 : zIsMoment S a1) (h : w_Desk_lookAt a1 a2 I K) : Met l yX11_lookAt (zws yX11_lookAt cX11_lookAt 3 none) (zrm 5 119) (zPc D B cA ad [.ref (B + 0), .ref (B + a1), .int a2] S I) (zQc D B cA (zqV S K)) 0 0 (fun q => B ≤ q) := by
  refine zm_of (cc := cX11_lookAt) (maxL := 3) (ret := none) (by decide +kernel) rfl (Nat.le_of_ble_eq_true rfl) trivial ?_
  intro p e s m args below meth c C _
  unfold w_Desk_lookAt at h
  show zX p l e (zrm 5 119) s m args below meth c (MQ below (zQc D B cA (zqV S K)) args s 0 0 (fun q => B ≤ q)) D B cA 3 0 0 S I [(0, .ref (B + 0)), (1, .ref (B + a1)), (2, .int a2)] [] 0
  refine zr_aload_n C dyX11_lookAt_0 rfl 0 rfl ?_
  refine zg_11_44 C hS dyX11_lookAt_1 ?_
  refine zr_aload_n C dyX11_lookAt_4 rfl 1 rfl ?_
  refine zv_11_430 C hS ha1 (st := []) h ⟨Nat.le_of_ble_eq_true rfl, Nat.le_of_ble_eq_true rfl⟩ (Nat.le_of_ble_eq_true rfl) dyX11_lookAt_5 (fun I_1 h => ?_)
  refine zr_aload_n C dyX11_lookAt_8 rfl 0 rfl ?_
  refine zg_11_60 C hS dyX11_lookAt_9 ?_
  refine zr_aload_n C dyX11_lookAt_12 rfl 1 rfl ?_
  refine zr_iload_n C dyX11_lookAt_13 rfl 2 rfl ?_
  refine zv_11_432 C hS ha1 (st := []) h ⟨Nat.le_of_ble_eq_true rfl, Nat.le_of_ble_eq_true rfl⟩ (Nat.le_of_ble_eq_true rfl) dyX11_lookAt_14 (fun I_2 h => ?_)
  refine zr_aload_n C dyX11_lookAt_17 rfl 0 rfl ?_
  refine zr_aload_n C dyX11_lookAt_18 rfl 0 rfl ?_
  refine zg_11_74 C hS dyX11_lookAt_19 ?_
  refine zr_aload_n C dyX11_lookAt_22 rfl 1 rfl ?_
  refine zg_11_352 C ha1 dyX11_lookAt_23 ?_
  refine zr_aload_n C dyX11_lookAt_26 rfl 0 rfl ?_
  refine zg_11_85 C hS dyX11_lookAt_27 ?_
  refine zv_11_435 C hS (zIsRow.of hS zir_109) (st := [.ref (B + 0)]) h ⟨Nat.le_of_ble_eq_true rfl, Nat.le_of_ble_eq_true rfl⟩ (Nat.le_of_ble_eq_true rfl) dyX11_lookAt_30 (fun r_3 I_4 h => ?_)
  refine zp_11_291 C hS dyX11_lookAt_33 ?_
  refine zn_mem C (fun I_5 eI_5 => ?_)
  replace h := h I_5 eI_5
  exact zr_vret C rfl dyX11_lookAt_36 ⟨rfl, rfl, h⟩
theorem zg_11_67 {p : Program} {l : Launch} {e : Env} {R : Room} {s : State} {m : MethodId} {args : Array Value} {below : List Frame} {meth : Method} {c : Code} {Q : State → Prop} {D : va_G} {B : Nat} {cA : Nat → ClassId} {ad : Nat → Nat} {cc : ByteArray} {nL : Nat} {ret : Option FieldType} {S : List zC} {I : zI} {lv : List (Nat × Value)} {st : List Value} {pc : Nat} (C : zCx p s m args meth c cc nL RX11 ret D B cA ad) (hS : zOkX S) (hd : decode cc pc = .ok (.getfield 67, 3)) (kk : zX p l e R s m args below meth c Q D B cA nL 0 0 S I lv (.ref (B + 88) :: st) (pc + 3)) : zX p l e R s m args below meth c Q D B cA nL 0 0 S I lv (.ref (B + 0) :: st) pc :=
  zr_getr C (ci := 11) (Cn := RX11) (T := TX11) (N := 19) (k := 0) (j := 13) (fs := [some (some 1), none, some (some 3), some (some 4), none, none, none, none, some (some 22), some (some 24), some (some 43), some (some 64), some (some 69), some (some 88), some (some 97), some (some 100), some (some 109), some (some 111), none]) rfl zin_11 (Nat.le_of_ble_eq_true rfl) rfl (hS _ _ zs_0) rfl zk_fl_11_67 hd kk
theorem zg_11_318 {p : Program} {l : Launch} {e : Env} {R : Room} {s : State} {m : MethodId} {args : Array Value} {below : List Frame} {meth : Method} {c : Code} {Q : State → Prop} {D : va_G} {B : Nat} {cA : Nat → ClassId} {ad : Nat → Nat} {cc : ByteArray} {nL : Nat} {ret : Option FieldType} {S : List zC} {I : zI} {lv : List (Nat × Value)} {st : List Value} {pc : Nat} (C : zCx p s m args meth c cc nL RX11 ret D B cA ad) (hS : zOkX S) (hd : decode cc pc = .ok (.getfield 318, 3)) (kk : zX p l e R s m args below meth c Q D B cA nL 0 0 S I lv (.int (I.1 88 4) :: st) (pc + 3)) : zX p l e R s m args below meth c Q D B cA nL 0 0 S I lv (.ref (B + 88) :: st) pc :=
  zr_geti C (ci := 4) (Cn := RX4) (T := TX4) (N := 5) (k := 88) (j := 4) (fs := [some (some 89), some (some 91), some (some 93), some (some 95), none]) rfl zin_4 (Nat.le_of_ble_eq_true rfl) rfl (hS _ _ zs_88) rfl zk_fl_11_318 hd kk
theorem zg_11_306 {p : Program} {l : Launch} {e : Env} {R : Room} {s : State} {m : MethodId} {args : Array Value} {below : List Frame} {meth : Method} {c : Code} {Q : State → Prop} {D : va_G} {B : Nat} {cA : Nat → ClassId} {ad : Nat → Nat} {cc : ByteArray} {nL : Nat} {ret : Option FieldType} {S : List zC} {I : zI} {lv : List (Nat × Value)} {st : List Value} {pc : Nat} (C : zCx p s m args meth c cc nL RX11 ret D B cA ad) (hS : zOkX S) (hd : decode cc pc = .ok (.getfield 306, 3)) (kk : zX p l e R s m args below meth c Q D B cA nL 0 0 S I lv (.ref (B + 62) :: st) (pc + 3)) : zX p l e R s m args below meth c Q D B cA nL 0 0 S I lv (.ref (B + 43) :: st) pc :=
  zr_getr C (ci := 9) (Cn := RX9) (T := TX9) (N := 16) (k := 43) (j := 10) (fs := [some (some 24), some (some 44), some (some 46), some (some 48), some (some 50), some (some 52), some (some 54), some (some 56), some (some 58), some (some 60), some (some 62), none, none, none, none, none]) rfl zin_9 (Nat.le_of_ble_eq_true rfl) rfl (hS _ _ zs_43) rfl zk_fl_11_306 hd kk
theorem zg_11_303 {p : Program} {l : Launch} {e : Env} {R : Room} {s : State} {m : MethodId} {args : Array Value} {below : List Frame} {meth : Method} {c : Code} {Q : State → Prop} {D : va_G} {B : Nat} {cA : Nat → ClassId} {ad : Nat → Nat} {cc : ByteArray} {nL : Nat} {ret : Option FieldType} {S : List zC} {I : zI} {lv : List (Nat × Value)} {st : List Value} {pc : Nat} (C : zCx p s m args meth c cc nL RX11 ret D B cA ad) (hS : zOkX S) (hd : decode cc pc = .ok (.getfield 303, 3)) (kk : zX p l e R s m args below meth c Q D B cA nL 0 0 S I lv (.int (I.1 43 11) :: st) (pc + 3)) : zX p l e R s m args below meth c Q D B cA nL 0 0 S I lv (.ref (B + 43) :: st) pc :=
  zr_geti C (ci := 9) (Cn := RX9) (T := TX9) (N := 16) (k := 43) (j := 11) (fs := [some (some 24), some (some 44), some (some 46), some (some 48), some (some 50), some (some 52), some (some 54), some (some 56), some (some 58), some (some 60), some (some 62), none, none, none, none, none]) rfl zin_9 (Nat.le_of_ble_eq_true rfl) rfl (hS _ _ zs_43) rfl zk_fl_11_303 hd kk
theorem zv_11_415 {p : Program} {l : Launch} {e : Env} {R : Room} {s : State} {m : MethodId} {args : Array Value} {below : List Frame} {meth : Method} {c : Code} {Q : State → Prop} {D : va_G} {B : Nat} {cA : Nat → ClassId} {ad : Nat → Nat} {cc : ByteArray} {nL : Nat} {ret : Option FieldType} {S : List zC} {I : zI} {lv : List (Nat × Value)} {st : List Value} {pc : Nat} (C : zCx p s m args meth c cc nL RX11 ret D B cA ad) {K : Int32 → zI → Prop} {xa1 : Nat} {xa1n : Nat} {xa2 : Int32} (hS : zOkX S) (xha1 : zIsRow S xa1 xa1n) (h : w_Pairs_layAll xa1 xa1n xa2 I K) (hR : 15 + 1 ≤ R.frames ∧ 8 + (3 + 11) + (527) ≤ R.locals) (hw : (st.map fun v => v.category).sum ≤ 8) (hd : decode cc pc = .ok (.invokevirtual 415, 3)) (kk : ∀ v I2, K v I2 → zX p l e R s m args below meth c Q D B cA nL 0 0 S I2 lv (.int v :: st) (pc + 3)) : zX p l e R s m args below meth c Q D B cA nL 0 0 S I lv (.int xa2 :: .ref (B + xa1) :: .ref (B + 88) :: st) pc :=
  have hf : 0 ≤ R.cells ∧ 0 ≤ R.slots := ⟨Nat.zero_le _, Nat.zero_le _⟩
  zc_VqI C (ci := 4) (q := (RX4, TX4, 5)) (k := 88) (fs := [some (some 89), some (some 91), some (some 93), some (some 95), none]) (As := [.ref (B + xa1), .int xa2]) (st := st) rfl (hS _ _ zs_88) (c_Pairs_layAll hS xha1 h) (zgV zk_ml_11_415 zk_im_yX4_layAll zk_se_yX4_layAll zk_in_4 zk_cd_yX4_layAll) zsg_yX4_layAll hR rfl rfl hw hd hf kk
theorem zp_11_122 {p : Program} {l : Launch} {e : Env} {R : Room} {s : State} {m : MethodId} {args : Array Value} {below : List Frame} {meth : Method} {c : Code} {Q : State → Prop} {D : va_G} {B : Nat} {cA : Nat → ClassId} {ad : Nat → Nat} {cc : ByteArray} {nL : Nat} {ret : Option FieldType} {S : List zC} {I : zI} {lv : List (Nat × Value)} {st : List Value} {pc : Nat} (C : zCx p s m args meth c cc nL RX11 ret D B cA ad) {k : Nat} (hk : zIsMoment S k) {v : Int32} (hd : decode cc pc = .ok (.putfield 122, 3)) (kk : zX p l e R s m args below meth c Q D B cA nL 0 0 S (zu I k 8 v) lv st (pc + 3)) : zX p l e R s m args below meth c Q D B cA nL 0 0 S I lv (.int v :: .ref (B + k) :: st) pc :=
  zr_puti C (ci := 2) (Cn := RX2) (T := TX2) (N := 9) (k := k) (j := 8) (fs := [some (some (k + 1)), none, some (some (k + 3)), none, some (some (k + 14)), some (some (k + 16)), none, none, none]) rfl zin_2 (Nat.le_of_ble_eq_true rfl) rfl hk.1 rfl tyX2 tyX2_ok nmX2 (ty := .int) zpd_I rfl rfl rfl zk_fl_11_122 hd kk
def w_Desk_layRow  (I : zI) (K : zI → Prop) : Prop :=
  ∀ v1_1, v1_1 = (I.1 88 4) → w_Pairs_layAll 62 100 (I.1 43 11) I (fun r_2 I_3 => ∀ I_4, I_4 = (zu I_3 4 8 r_2) → w_Row_set 22 10 9 ((I_4.1 88 4) - v1_1) I_4 (fun I_5 => K I_5))
theorem dyX11_layRow_0 : decode cX11_layRow 0 = .ok (.aload_n 0, 1) := by decide +kernel
theorem dyX11_layRow_1 : decode cX11_layRow 1 = .ok (.getfield 67, 3) := by decide +kernel
theorem dyX11_layRow_4 : decode cX11_layRow 4 = .ok (.getfield 318, 3) := by decide +kernel
theorem dyX11_layRow_7 : decode cX11_layRow 7 = .ok (.istore_n 1, 1) := by decide +kernel
theorem dyX11_layRow_8 : decode cX11_layRow 8 = .ok (.aload_n 0, 1) := by decide +kernel
theorem dyX11_layRow_9 : decode cX11_layRow 9 = .ok (.getfield 25, 3) := by decide +kernel
theorem dyX11_layRow_12 : decode cX11_layRow 12 = .ok (.aload_n 0, 1) := by decide +kernel
theorem dyX11_layRow_13 : decode cX11_layRow 13 = .ok (.getfield 67, 3) := by decide +kernel
theorem dyX11_layRow_16 : decode cX11_layRow 16 = .ok (.aload_n 0, 1) := by decide +kernel
theorem dyX11_layRow_17 : decode cX11_layRow 17 = .ok (.getfield 44, 3) := by decide +kernel
theorem dyX11_layRow_20 : decode cX11_layRow 20 = .ok (.getfield 306, 3) := by decide +kernel
theorem dyX11_layRow_23 : decode cX11_layRow 23 = .ok (.aload_n 0, 1) := by decide +kernel
theorem dyX11_layRow_24 : decode cX11_layRow 24 = .ok (.getfield 44, 3) := by decide +kernel
theorem dyX11_layRow_27 : decode cX11_layRow 27 = .ok (.getfield 303, 3) := by decide +kernel
theorem dyX11_layRow_30 : decode cX11_layRow 30 = .ok (.invokevirtual 415, 3) := by decide +kernel
theorem dyX11_layRow_33 : decode cX11_layRow 33 = .ok (.putfield 122, 3) := by decide +kernel
theorem dyX11_layRow_36 : decode cX11_layRow 36 = .ok (.aload_n 0, 1) := by decide +kernel
theorem dyX11_layRow_37 : decode cX11_layRow 37 = .ok (.getfield 29, 3) := by decide +kernel
theorem dyX11_layRow_40 : decode cX11_layRow 40 = .ok (.bipush 9, 2) := by decide +kernel
theorem dyX11_layRow_42 : decode cX11_layRow 42 = .ok (.aload_n 0, 1) := by decide +kernel
theorem dyX11_layRow_43 : decode cX11_layRow 43 = .ok (.getfield 67, 3) := by decide +kernel
theorem dyX11_layRow_46 : decode cX11_layRow 46 = .ok (.getfield 318, 3) := by decide +kernel
theorem dyX11_layRow_49 : decode cX11_layRow 49 = .ok (.iload_n 1, 1) := by decide +kernel
theorem dyX11_layRow_50 : decode cX11_layRow 50 = .ok (.isub, 1) := by decide +kernel
theorem dyX11_layRow_51 : decode cX11_layRow 51 = .ok (.invokevirtual 118, 3) := by decide +kernel
theorem dyX11_layRow_54 : decode cX11_layRow 54 = .ok (.return_, 1) := by decide +kernel
theorem zsg_yX11_layRow : yX11_layRow.cls = RX11 ∧ yX11_layRow.cls ≠ "java/lang/invoke/MethodHandle" ∧ yX11_layRow.cls ≠ "java/lang/invoke/VarHandle" ∧ (parseMethodDescriptor yX11_layRow.desc).map (fun d => d.parameters.length) = some 0 := by decide +kernel
set_option maxRecDepth 20000 in
theorem c_Desk_layRow {l : Launch} {D : va_G} {B : Nat} {cA : Nat → ClassId} {ad : Nat → Nat} {S : List zC} (hS : zOkX S)  {I : zI} {K : zI → Prop}  (h : w_Desk_layRow  I K) : Met l yX11_layRow (zws yX11_layRow cX11_layRow 2 none) (zrm 16 549) (zPc D B cA ad [.ref (B + 0)] S I) (zQc D B cA (zqV S K)) 0 0 (fun q => B ≤ q) := by
  refine zm_of (cc := cX11_layRow) (maxL := 2) (ret := none) (by decide +kernel) rfl (Nat.le_of_ble_eq_true rfl) trivial ?_
  intro p e s m args below meth c C _
  unfold w_Desk_layRow at h
  show zX p l e (zrm 16 549) s m args below meth c (MQ below (zQc D B cA (zqV S K)) args s 0 0 (fun q => B ≤ q)) D B cA 2 0 0 S I [(0, .ref (B + 0))] [] 0
  refine zr_aload_n C dyX11_layRow_0 rfl 0 rfl ?_
  refine zg_11_67 C hS dyX11_layRow_1 ?_
  refine zg_11_318 C hS dyX11_layRow_4 ?_
  refine zn_istore_n C (fun v1_1 => [(1, .int v1_1), (0, .ref (B + 0))]) dyX11_layRow_7 rfl (Nat.le_of_ble_eq_true rfl) (fun _ => rfl) (fun v1_1 ev1_1 => ?_)
  replace h := h v1_1 ev1_1
  refine zr_aload_n C dyX11_layRow_8 rfl 1 rfl ?_
  refine zg_11_25 C hS dyX11_layRow_9 ?_
  refine zr_aload_n C dyX11_layRow_12 rfl 1 rfl ?_
  refine zg_11_67 C hS dyX11_layRow_13 ?_
  refine zr_aload_n C dyX11_layRow_16 rfl 1 rfl ?_
  refine zg_11_44 C hS dyX11_layRow_17 ?_
  refine zg_11_306 C hS dyX11_layRow_20 ?_
  refine zr_aload_n C dyX11_layRow_23 rfl 1 rfl ?_
  refine zg_11_44 C hS dyX11_layRow_24 ?_
  refine zg_11_303 C hS dyX11_layRow_27 ?_
  refine zv_11_415 C hS (zIsRow.of hS zir_62) (st := [.ref (B + 4)]) h ⟨Nat.le_of_ble_eq_true rfl, Nat.le_of_ble_eq_true rfl⟩ (Nat.le_of_ble_eq_true rfl) dyX11_layRow_30 (fun r_2 I_3 h => ?_)
  refine zp_11_122 C (zIsMoment.of hS zit_4) dyX11_layRow_33 ?_
  refine zn_mem C (fun I_4 eI_4 => ?_)
  replace h := h I_4 eI_4
  refine zr_aload_n C dyX11_layRow_36 rfl 1 rfl ?_
  refine zg_11_29 C hS dyX11_layRow_37 ?_
  refine zr_bipush C dyX11_layRow_40 zc_b_9 ?_
  refine zr_aload_n C dyX11_layRow_42 rfl 1 rfl ?_
  refine zg_11_67 C hS dyX11_layRow_43 ?_
  refine zg_11_318 C hS dyX11_layRow_46 ?_
  refine zr_iload_n C dyX11_layRow_49 rfl 0 rfl ?_
  refine zr_isub C dyX11_layRow_50 ?_
  refine zv_11_118 C hS (zIsRow.of hS zir_22) (st := []) h ⟨Nat.le_of_ble_eq_true rfl, Nat.le_of_ble_eq_true rfl⟩ (Nat.le_of_ble_eq_true rfl) dyX11_layRow_51 (fun I_5 h => ?_)
  exact zr_vret C rfl dyX11_layRow_54 ⟨rfl, rfl, h⟩
theorem zv_11_372 {p : Program} {l : Launch} {e : Env} {R : Room} {s : State} {m : MethodId} {args : Array Value} {below : List Frame} {meth : Method} {c : Code} {Q : State → Prop} {D : va_G} {B : Nat} {cA : Nat → ClassId} {ad : Nat → Nat} {cc : ByteArray} {nL : Nat} {ret : Option FieldType} {S : List zC} {I : zI} {lv : List (Nat × Value)} {st : List Value} {pc : Nat} (C : zCx p s m args meth c cc nL RX11 ret D B cA ad) {K : Int32 → Prop}  (hS : zOkX S)  (h : w_TreeView_ruledSize I K) (hR : 1 + 1 ≤ R.frames ∧ 8 + (3 + 11) + (21) ≤ R.locals) (hw : (st.map fun v => v.category).sum ≤ 8) (hd : decode cc pc = .ok (.invokevirtual 372, 3)) (kk : ∀ v, K v → zX p l e R s m args below meth c Q D B cA nL 0 0 S I lv (.int v :: st) (pc + 3)) : zX p l e R s m args below meth c Q D B cA nL 0 0 S I lv (.ref (B + 43) :: st) pc :=
  have hf : 0 ≤ R.cells ∧ 0 ≤ R.slots := ⟨Nat.zero_le _, Nat.zero_le _⟩
  zc_VpI C (ci := 9) (q := (RX9, TX9, 16)) (k := 43) (fs := [some (some 24), some (some 44), some (some 46), some (some 48), some (some 50), some (some 52), some (some 54), some (some 56), some (some 58), some (some 60), some (some 62), none, none, none, none, none]) (As := []) (st := st) rfl (hS _ _ zs_43) (c_TreeView_ruledSize hS h) (zgV zk_ml_11_372 zk_im_yX9_ruledSize zk_se_yX9_ruledSize zk_in_9 zk_cd_yX9_ruledSize) zsg_yX9_ruledSize hR rfl rfl hw hd hf kk
theorem zg_11_419 {p : Program} {l : Launch} {e : Env} {R : Room} {s : State} {m : MethodId} {args : Array Value} {below : List Frame} {meth : Method} {c : Code} {Q : State → Prop} {D : va_G} {B : Nat} {cA : Nat → ClassId} {ad : Nat → Nat} {cc : ByteArray} {nL : Nat} {ret : Option FieldType} {S : List zC} {I : zI} {lv : List (Nat × Value)} {st : List Value} {pc : Nat} (C : zCx p s m args meth c cc nL RX11 ret D B cA ad) (hS : zOkX S) (hd : decode cc pc = .ok (.getfield 419, 3)) (kk : zX p l e R s m args below meth c Q D B cA nL 0 0 S I lv (.int (I.1 64 10) :: st) (pc + 3)) : zX p l e R s m args below meth c Q D B cA nL 0 0 S I lv (.ref (B + 64) :: st) pc :=
  zr_geti C (ci := 1) (Cn := RX1) (T := TX1) (N := 14) (k := 64) (j := 10) (fs := [some (some 24), some (some 43), some (some 65), some (some 67), none, none, none, none, none, none, none, none, none, none]) rfl zin_1 (Nat.le_of_ble_eq_true rfl) rfl (hS _ _ zs_64) rfl zk_fl_11_419 hd kk
theorem zg_11_422 {p : Program} {l : Launch} {e : Env} {R : Room} {s : State} {m : MethodId} {args : Array Value} {below : List Frame} {meth : Method} {c : Code} {Q : State → Prop} {D : va_G} {B : Nat} {cA : Nat → ClassId} {ad : Nat → Nat} {cc : ByteArray} {nL : Nat} {ret : Option FieldType} {S : List zC} {I : zI} {lv : List (Nat × Value)} {st : List Value} {pc : Nat} (C : zCx p s m args meth c cc nL RX11 ret D B cA ad) (hS : zOkX S) (hd : decode cc pc = .ok (.getfield 422, 3)) (kk : zX p l e R s m args below meth c Q D B cA nL 0 0 S I lv (.int (I.1 69 14) :: st) (pc + 3)) : zX p l e R s m args below meth c Q D B cA nL 0 0 S I lv (.ref (B + 69) :: st) pc :=
  zr_geti C (ci := 7) (Cn := RX7) (T := TX7) (N := 17) (k := 69) (j := 14) (fs := [some (some 24), some (some 43), some (some 70), some (some 72), some (some 74), some (some 76), some (some 78), some (some 80), some (some 82), some (some 84), some (some 86), none, none, none, none, none, none]) rfl zin_7 (Nat.le_of_ble_eq_true rfl) rfl (hS _ _ zs_69) rfl zk_fl_11_422 hd kk
def w_Desk_tellGood (a1 : Int32) (I : zI) (K : zI → Prop) : Prop :=
  w_TreeView_ruledSize I (fun r_1 => w_Row_set 22 10 4 (a1 - (r_1 - (I.1 64 10))) I (fun I_2 => w_Row_set 22 10 8 (I_2.1 69 14) I_2 (fun I_3 => K I_3)))
theorem dyX11_tellGood_0 : decode cX11_tellGood 0 = .ok (.aload_n 0, 1) := by decide +kernel
theorem dyX11_tellGood_1 : decode cX11_tellGood 1 = .ok (.getfield 29, 3) := by decide +kernel
theorem dyX11_tellGood_4 : decode cX11_tellGood 4 = .ok (.iconst 4, 1) := by decide +kernel
theorem dyX11_tellGood_5 : decode cX11_tellGood 5 = .ok (.iload_n 1, 1) := by decide +kernel
theorem dyX11_tellGood_6 : decode cX11_tellGood 6 = .ok (.aload_n 0, 1) := by decide +kernel
theorem dyX11_tellGood_7 : decode cX11_tellGood 7 = .ok (.getfield 44, 3) := by decide +kernel
theorem dyX11_tellGood_10 : decode cX11_tellGood 10 = .ok (.invokevirtual 372, 3) := by decide +kernel
theorem dyX11_tellGood_13 : decode cX11_tellGood 13 = .ok (.aload_n 0, 1) := by decide +kernel
theorem dyX11_tellGood_14 : decode cX11_tellGood 14 = .ok (.getfield 53, 3) := by decide +kernel
theorem dyX11_tellGood_17 : decode cX11_tellGood 17 = .ok (.getfield 419, 3) := by decide +kernel
theorem dyX11_tellGood_20 : decode cX11_tellGood 20 = .ok (.isub, 1) := by decide +kernel
theorem dyX11_tellGood_21 : decode cX11_tellGood 21 = .ok (.isub, 1) := by decide +kernel
theorem dyX11_tellGood_22 : decode cX11_tellGood 22 = .ok (.invokevirtual 118, 3) := by decide +kernel
theorem dyX11_tellGood_25 : decode cX11_tellGood 25 = .ok (.aload_n 0, 1) := by decide +kernel
theorem dyX11_tellGood_26 : decode cX11_tellGood 26 = .ok (.getfield 29, 3) := by decide +kernel
theorem dyX11_tellGood_29 : decode cX11_tellGood 29 = .ok (.bipush 8, 2) := by decide +kernel
theorem dyX11_tellGood_31 : decode cX11_tellGood 31 = .ok (.aload_n 0, 1) := by decide +kernel
theorem dyX11_tellGood_32 : decode cX11_tellGood 32 = .ok (.getfield 60, 3) := by decide +kernel
theorem dyX11_tellGood_35 : decode cX11_tellGood 35 = .ok (.getfield 422, 3) := by decide +kernel
theorem dyX11_tellGood_38 : decode cX11_tellGood 38 = .ok (.invokevirtual 118, 3) := by decide +kernel
theorem dyX11_tellGood_41 : decode cX11_tellGood 41 = .ok (.return_, 1) := by decide +kernel
theorem zsg_yX11_tellGood : yX11_tellGood.cls = RX11 ∧ yX11_tellGood.cls ≠ "java/lang/invoke/MethodHandle" ∧ yX11_tellGood.cls ≠ "java/lang/invoke/VarHandle" ∧ (parseMethodDescriptor yX11_tellGood.desc).map (fun d => d.parameters.length) = some 1 := by decide +kernel
set_option maxRecDepth 20000 in
theorem c_Desk_tellGood {l : Launch} {D : va_G} {B : Nat} {cA : Nat → ClassId} {ad : Nat → Nat} {S : List zC} (hS : zOkX S) {a1 : Int32} {I : zI} {K : zI → Prop}  (h : w_Desk_tellGood a1 I K) : Met l yX11_tellGood (zws yX11_tellGood cX11_tellGood 2 none) (zrm 2 43) (zPc D B cA ad [.ref (B + 0), .int a1] S I) (zQc D B cA (zqV S K)) 0 0 (fun q => B ≤ q) := by
  refine zm_of (cc := cX11_tellGood) (maxL := 2) (ret := none) (by decide +kernel) rfl (Nat.le_of_ble_eq_true rfl) trivial ?_
  intro p e s m args below meth c C _
  unfold w_Desk_tellGood at h
  show zX p l e (zrm 2 43) s m args below meth c (MQ below (zQc D B cA (zqV S K)) args s 0 0 (fun q => B ≤ q)) D B cA 2 0 0 S I [(0, .ref (B + 0)), (1, .int a1)] [] 0
  refine zr_aload_n C dyX11_tellGood_0 rfl 0 rfl ?_
  refine zg_11_29 C hS dyX11_tellGood_1 ?_
  refine zr_iconst C dyX11_tellGood_4 zc_i_4 ?_
  refine zr_iload_n C dyX11_tellGood_5 rfl 1 rfl ?_
  refine zr_aload_n C dyX11_tellGood_6 rfl 0 rfl ?_
  refine zg_11_44 C hS dyX11_tellGood_7 ?_
  refine zv_11_372 C hS (st := [.int a1, .int 4, .ref (B + 22)]) h ⟨Nat.le_of_ble_eq_true rfl, Nat.le_of_ble_eq_true rfl⟩ (Nat.le_of_ble_eq_true rfl) dyX11_tellGood_10 (fun r_1 h => ?_)
  refine zr_aload_n C dyX11_tellGood_13 rfl 0 rfl ?_
  refine zg_11_53 C hS dyX11_tellGood_14 ?_
  refine zg_11_419 C hS dyX11_tellGood_17 ?_
  refine zr_isub C dyX11_tellGood_20 ?_
  refine zr_isub C dyX11_tellGood_21 ?_
  refine zv_11_118 C hS (zIsRow.of hS zir_22) (st := []) h ⟨Nat.le_of_ble_eq_true rfl, Nat.le_of_ble_eq_true rfl⟩ (Nat.le_of_ble_eq_true rfl) dyX11_tellGood_22 (fun I_2 h => ?_)
  refine zr_aload_n C dyX11_tellGood_25 rfl 0 rfl ?_
  refine zg_11_29 C hS dyX11_tellGood_26 ?_
  refine zr_bipush C dyX11_tellGood_29 zc_b_8 ?_
  refine zr_aload_n C dyX11_tellGood_31 rfl 0 rfl ?_
  refine zg_11_60 C hS dyX11_tellGood_32 ?_
  refine zg_11_422 C hS dyX11_tellGood_35 ?_
  refine zv_11_118 C hS (zIsRow.of hS zir_22) (st := []) h ⟨Nat.le_of_ble_eq_true rfl, Nat.le_of_ble_eq_true rfl⟩ (Nat.le_of_ble_eq_true rfl) dyX11_tellGood_38 (fun I_3 h => ?_)
  exact zr_vret C rfl dyX11_tellGood_41 ⟨rfl, rfl, h⟩
def w_Desk_nextSlot  (I : zI) (K : Int32 → Prop) : Prop :=
  (if (I.1 0 4) < 20 then (K ((I.1 0 4) + 1)) else K 0)
theorem dyX11_nextSlot_0 : decode cX11_nextSlot 0 = .ok (.aload_n 0, 1) := by decide +kernel
theorem dyX11_nextSlot_1 : decode cX11_nextSlot 1 = .ok (.getfield 202, 3) := by decide +kernel
theorem dyX11_nextSlot_4 : decode cX11_nextSlot 4 = .ok (.bipush 20, 2) := by decide +kernel
theorem dyX11_nextSlot_6 : decode cX11_nextSlot 6 = .ok (.if_icmp .lt 7, 3) := by decide +kernel
theorem dyX11_nextSlot_9 : decode cX11_nextSlot 9 = .ok (.iconst 0, 1) := by decide +kernel
theorem dyX11_nextSlot_10 : decode cX11_nextSlot 10 = .ok (.goto 9, 3) := by decide +kernel
theorem dyX11_nextSlot_13 : decode cX11_nextSlot 13 = .ok (.aload_n 0, 1) := by decide +kernel
theorem dyX11_nextSlot_14 : decode cX11_nextSlot 14 = .ok (.getfield 202, 3) := by decide +kernel
theorem dyX11_nextSlot_17 : decode cX11_nextSlot 17 = .ok (.iconst 1, 1) := by decide +kernel
theorem dyX11_nextSlot_18 : decode cX11_nextSlot 18 = .ok (.iadd, 1) := by decide +kernel
theorem dyX11_nextSlot_19 : decode cX11_nextSlot 19 = .ok (.ireturn, 1) := by decide +kernel
theorem zsg_yX11_nextSlot : yX11_nextSlot.cls = RX11 ∧ yX11_nextSlot.cls ≠ "java/lang/invoke/MethodHandle" ∧ yX11_nextSlot.cls ≠ "java/lang/invoke/VarHandle" ∧ (parseMethodDescriptor yX11_nextSlot.desc).map (fun d => d.parameters.length) = some 0 := by decide +kernel
set_option maxRecDepth 20000 in
theorem c_Desk_nextSlot {l : Launch} {D : va_G} {B : Nat} {cA : Nat → ClassId} {ad : Nat → Nat} {S : List zC} (hS : zOkX S)  {I : zI} {K : Int32 → Prop}  (h : w_Desk_nextSlot  I K) : Met l yX11_nextSlot (zws yX11_nextSlot cX11_nextSlot 1 (some .int)) (zrm 0 0) (zPc D B cA ad [.ref (B + 0)] S I) (zQc D B cA (zpI S I K)) 0 0 (fun q => B ≤ q) := by
  refine zm_of (cc := cX11_nextSlot) (maxL := 1) (ret := (some .int)) (by decide +kernel) rfl (Nat.le_of_ble_eq_true rfl) trivial ?_
  intro p e s m args below meth c C _
  unfold w_Desk_nextSlot at h
  show zX p l e (zrm 0 0) s m args below meth c (MQ below (zQc D B cA (zpI S I K)) args s 0 0 (fun q => B ≤ q)) D B cA 1 0 0 S I [(0, .ref (B + 0))] [] 0
  refine zr_aload_n C dyX11_nextSlot_0 rfl 0 rfl ?_
  refine zg_11_202 C hS dyX11_nextSlot_1 ?_
  refine zr_bipush C dyX11_nextSlot_4 zc_b_20 ?_
  refine zr_icmp_lt C dyX11_nextSlot_6 (tgt := 13) (by decide) (fun hc_1 => ?_) (fun hc_1 => ?_)
  · replace h := zif_pos hc_1 h
    refine zr_aload_n C dyX11_nextSlot_13 rfl 0 rfl ?_
    refine zg_11_202 C hS dyX11_nextSlot_14 ?_
    refine zr_iconst C dyX11_nextSlot_17 zc_i_1 ?_
    refine zr_iadd C dyX11_nextSlot_18 ?_
    exact zr_iret C rfl dyX11_nextSlot_19 ⟨rfl, rfl, _, rfl, h⟩
  · replace h := zif_neg hc_1 h
    refine zr_iconst C dyX11_nextSlot_9 zc_i_0 ?_
    refine zr_goto C dyX11_nextSlot_10 (tgt := 19) (by decide) ?_
    exact zr_iret C rfl dyX11_nextSlot_19 ⟨rfl, rfl, _, rfl, h⟩
theorem zv_11_205 {p : Program} {l : Launch} {e : Env} {R : Room} {s : State} {m : MethodId} {args : Array Value} {below : List Frame} {meth : Method} {c : Code} {Q : State → Prop} {D : va_G} {B : Nat} {cA : Nat → ClassId} {ad : Nat → Nat} {cc : ByteArray} {nL : Nat} {ret : Option FieldType} {S : List zC} {I : zI} {lv : List (Nat × Value)} {st : List Value} {pc : Nat} (C : zCx p s m args meth c cc nL RX11 ret D B cA ad) {K : Int32 → Prop}  (hS : zOkX S)  (h : w_Desk_nextSlot I K) (hR : 0 + 1 ≤ R.frames ∧ 8 + (1 + 11) + (0) ≤ R.locals) (hw : (st.map fun v => v.category).sum ≤ 8) (hd : decode cc pc = .ok (.invokevirtual 205, 3)) (kk : ∀ v, K v → zX p l e R s m args below meth c Q D B cA nL 0 0 S I lv (.int v :: st) (pc + 3)) : zX p l e R s m args below meth c Q D B cA nL 0 0 S I lv (.ref (B + 0) :: st) pc :=
  have hf : 0 ≤ R.cells ∧ 0 ≤ R.slots := ⟨Nat.zero_le _, Nat.zero_le _⟩
  zc_VpI C (ci := 11) (q := (RX11, TX11, 19)) (k := 0) (fs := [some (some 1), none, some (some 3), some (some 4), none, none, none, none, some (some 22), some (some 24), some (some 43), some (some 64), some (some 69), some (some 88), some (some 97), some (some 100), some (some 109), some (some 111), none]) (As := []) (st := st) rfl (hS _ _ zs_0) (c_Desk_nextSlot hS h) (zgV zk_ml_11_205 zk_im_yX11_nextSlot zk_se_yX11_nextSlot zk_in_11 zk_cd_yX11_nextSlot) zsg_yX11_nextSlot hR rfl rfl hw hd hf kk
theorem zp_11_202 {p : Program} {l : Launch} {e : Env} {R : Room} {s : State} {m : MethodId} {args : Array Value} {below : List Frame} {meth : Method} {c : Code} {Q : State → Prop} {D : va_G} {B : Nat} {cA : Nat → ClassId} {ad : Nat → Nat} {cc : ByteArray} {nL : Nat} {ret : Option FieldType} {S : List zC} {I : zI} {lv : List (Nat × Value)} {st : List Value} {pc : Nat} (C : zCx p s m args meth c cc nL RX11 ret D B cA ad) (hS : zOkX S) {v : Int32} (hd : decode cc pc = .ok (.putfield 202, 3)) (kk : zX p l e R s m args below meth c Q D B cA nL 0 0 S (zu I 0 4 v) lv st (pc + 3)) : zX p l e R s m args below meth c Q D B cA nL 0 0 S I lv (.int v :: .ref (B + 0) :: st) pc :=
  zr_puti C (ci := 11) (Cn := RX11) (T := TX11) (N := 19) (k := 0) (j := 4) (fs := [some (some 1), none, some (some 3), some (some 4), none, none, none, none, some (some 22), some (some 24), some (some 43), some (some 64), some (some 69), some (some 88), some (some 97), some (some 100), some (some 109), some (some 111), none]) rfl zin_11 (Nat.le_of_ble_eq_true rfl) rfl (hS _ _ zs_0) rfl tyX11 tyX11_ok nmX11 (ty := .int) zpd_I rfl rfl rfl zk_fl_11_202 hd kk
theorem zv_11_126 {p : Program} {l : Launch} {e : Env} {R : Room} {s : State} {m : MethodId} {args : Array Value} {below : List Frame} {meth : Method} {c : Code} {Q : State → Prop} {D : va_G} {B : Nat} {cA : Nat → ClassId} {ad : Nat → Nat} {cc : ByteArray} {nL : Nat} {ret : Option FieldType} {S : List zC} {I : zI} {lv : List (Nat × Value)} {st : List Value} {pc : Nat} (C : zCx p s m args meth c cc nL RX11 ret D B cA ad) {K : Nat → Prop}  (hS : zOkX S)  (h : w_Desk_now I K) (hR : 0 + 1 ≤ R.frames ∧ 8 + (2 + 11) + (0) ≤ R.locals) (hw : (st.map fun v => v.category).sum ≤ 8) (hd : decode cc pc = .ok (.invokevirtual 126, 3)) (kk : ∀ v, zIsMoment S v → K v → zX p l e R s m args below meth c Q D B cA nL 0 0 S I lv (.ref (B + v) :: st) (pc + 3)) : zX p l e R s m args below meth c Q D B cA nL 0 0 S I lv (.ref (B + 0) :: st) pc :=
  have hf : 0 ≤ R.cells ∧ 0 ≤ R.slots := ⟨Nat.zero_le _, Nat.zero_le _⟩
  zc_VpR C (ci := 11) (q := (RX11, TX11, 19)) (k := 0) (fs := [some (some 1), none, some (some 3), some (some 4), none, none, none, none, some (some 22), some (some 24), some (some 43), some (some 64), some (some 69), some (some 88), some (some 97), some (some 100), some (some 109), some (some 111), none]) (As := []) (st := st) rfl (hS _ _ zs_0) (c_Desk_now hS h) (zgV zk_ml_11_126 zk_im_yX11_now zk_se_yX11_now zk_in_11 zk_cd_yX11_now) zsg_yX11_now hR rfl rfl hw hd hf kk
theorem zv_11_130 {p : Program} {l : Launch} {e : Env} {R : Room} {s : State} {m : MethodId} {args : Array Value} {below : List Frame} {meth : Method} {c : Code} {Q : State → Prop} {D : va_G} {B : Nat} {cA : Nat → ClassId} {ad : Nat → Nat} {cc : ByteArray} {nL : Nat} {ret : Option FieldType} {S : List zC} {I : zI} {lv : List (Nat × Value)} {st : List Value} {pc : Nat} (C : zCx p s m args meth c cc nL RX11 ret D B cA ad) {K : zI → Prop} {xk : Nat} {xa1 : Nat} (hS : zOkX S) (xhk : zIsMoment S xk) (xha1 : zIsMoment S xa1) (h : w_Moment_copyFrom xk xa1 I K) (hR : 4 + 1 ≤ R.frames ∧ 8 + (2 + 11) + (104) ≤ R.locals) (hw : (st.map fun v => v.category).sum ≤ 8) (hd : decode cc pc = .ok (.invokevirtual 130, 3)) (kk : ∀ I2, K I2 → zX p l e R s m args below meth c Q D B cA nL 0 0 S I2 lv st (pc + 3)) : zX p l e R s m args below meth c Q D B cA nL 0 0 S I lv (.ref (B + xa1) :: .ref (B + xk) :: st) pc :=
  have hf : 0 ≤ R.cells ∧ 0 ≤ R.slots := ⟨Nat.zero_le _, Nat.zero_le _⟩
  zc_VqV C (ci := 2) (q := (RX2, TX2, 9)) (k := xk) (fs := [some (some (xk + 1)), none, some (some (xk + 3)), none, some (some (xk + 14)), some (some (xk + 16)), none, none, none]) (As := [.ref (B + xa1)]) (st := st) rfl xhk.1 (c_Moment_copyFrom hS xhk xha1 h) (zgV zk_ml_11_130 zk_im_yX2_copyFrom zk_se_yX2_copyFrom zk_in_2 zk_cd_yX2_copyFrom) zsg_yX2_copyFrom hR rfl rfl hw hd hf kk
theorem zg_11_196 {p : Program} {l : Launch} {e : Env} {R : Room} {s : State} {m : MethodId} {args : Array Value} {below : List Frame} {meth : Method} {c : Code} {Q : State → Prop} {D : va_G} {B : Nat} {cA : Nat → ClassId} {ad : Nat → Nat} {cc : ByteArray} {nL : Nat} {ret : Option FieldType} {S : List zC} {I : zI} {lv : List (Nat × Value)} {st : List Value} {pc : Nat} (C : zCx p s m args meth c cc nL RX11 ret D B cA ad) (hS : zOkX S) (hd : decode cc pc = .ok (.getfield 196, 3)) (kk : zX p l e R s m args below meth c Q D B cA nL 0 0 S I lv (.int (I.1 0 5) :: st) (pc + 3)) : zX p l e R s m args below meth c Q D B cA nL 0 0 S I lv (.ref (B + 0) :: st) pc :=
  zr_geti C (ci := 11) (Cn := RX11) (T := TX11) (N := 19) (k := 0) (j := 5) (fs := [some (some 1), none, some (some 3), some (some 4), none, none, none, none, some (some 22), some (some 24), some (some 43), some (some 64), some (some 69), some (some 88), some (some 97), some (some 100), some (some 109), some (some 111), none]) rfl zin_11 (Nat.le_of_ble_eq_true rfl) rfl (hS _ _ zs_0) rfl zk_fl_11_196 hd kk
theorem zp_11_196 {p : Program} {l : Launch} {e : Env} {R : Room} {s : State} {m : MethodId} {args : Array Value} {below : List Frame} {meth : Method} {c : Code} {Q : State → Prop} {D : va_G} {B : Nat} {cA : Nat → ClassId} {ad : Nat → Nat} {cc : ByteArray} {nL : Nat} {ret : Option FieldType} {S : List zC} {I : zI} {lv : List (Nat × Value)} {st : List Value} {pc : Nat} (C : zCx p s m args meth c cc nL RX11 ret D B cA ad) (hS : zOkX S) {v : Int32} (hd : decode cc pc = .ok (.putfield 196, 3)) (kk : zX p l e R s m args below meth c Q D B cA nL 0 0 S (zu I 0 5 v) lv st (pc + 3)) : zX p l e R s m args below meth c Q D B cA nL 0 0 S I lv (.int v :: .ref (B + 0) :: st) pc :=
  zr_puti C (ci := 11) (Cn := RX11) (T := TX11) (N := 19) (k := 0) (j := 5) (fs := [some (some 1), none, some (some 3), some (some 4), none, none, none, none, some (some 22), some (some 24), some (some 43), some (some 64), some (some 69), some (some 88), some (some 97), some (some 100), some (some 109), some (some 111), none]) rfl zin_11 (Nat.le_of_ble_eq_true rfl) rfl (hS _ _ zs_0) rfl tyX11 tyX11_ok nmX11 (ty := .int) zpd_I rfl rfl rfl zk_fl_11_196 hd kk
theorem zp_11_199 {p : Program} {l : Launch} {e : Env} {R : Room} {s : State} {m : MethodId} {args : Array Value} {below : List Frame} {meth : Method} {c : Code} {Q : State → Prop} {D : va_G} {B : Nat} {cA : Nat → ClassId} {ad : Nat → Nat} {cc : ByteArray} {nL : Nat} {ret : Option FieldType} {S : List zC} {I : zI} {lv : List (Nat × Value)} {st : List Value} {pc : Nat} (C : zCx p s m args meth c cc nL RX11 ret D B cA ad) (hS : zOkX S) {v : Int32} (hd : decode cc pc = .ok (.putfield 199, 3)) (kk : zX p l e R s m args below meth c Q D B cA nL 0 0 S (zu I 0 6 v) lv st (pc + 3)) : zX p l e R s m args below meth c Q D B cA nL 0 0 S I lv (.int v :: .ref (B + 0) :: st) pc :=
  zr_puti C (ci := 11) (Cn := RX11) (T := TX11) (N := 19) (k := 0) (j := 6) (fs := [some (some 1), none, some (some 3), some (some 4), none, none, none, none, some (some 22), some (some 24), some (some 43), some (some 64), some (some 69), some (some 88), some (some 97), some (some 100), some (some 109), some (some 111), none]) rfl zin_11 (Nat.le_of_ble_eq_true rfl) rfl (hS _ _ zs_0) rfl tyX11 tyX11_ok nmX11 (ty := .int) zpd_I rfl rfl rfl zk_fl_11_199 hd kk
def w_Desk_turnToNext  (I : zI) (K : zI → Prop) : Prop :=
  w_Desk_nextSlot I (fun r_1 => ∀ I_2, I_2 = (zu I 0 4 r_1) → w_Desk_now I_2 (fun r_3 => w_Moment_copyFrom r_3 4 I_2 (fun I_4 => ∀ I_5, I_5 = (zu I_4 0 5 (if ((I_4.1 0 5) + 1) < 20 then ((I_4.1 0 5) + 1) else 20)) → ∀ I_6, I_6 = (zu I_5 0 6 0) → K I_6)))
theorem dyX11_turnToNext_0 : decode cX11_turnToNext 0 = .ok (.aload_n 0, 1) := by decide +kernel
theorem dyX11_turnToNext_1 : decode cX11_turnToNext 1 = .ok (.aload_n 0, 1) := by decide +kernel
theorem dyX11_turnToNext_2 : decode cX11_turnToNext 2 = .ok (.invokevirtual 205, 3) := by decide +kernel
theorem dyX11_turnToNext_5 : decode cX11_turnToNext 5 = .ok (.putfield 202, 3) := by decide +kernel
theorem dyX11_turnToNext_8 : decode cX11_turnToNext 8 = .ok (.aload_n 0, 1) := by decide +kernel
theorem dyX11_turnToNext_9 : decode cX11_turnToNext 9 = .ok (.invokevirtual 126, 3) := by decide +kernel
theorem dyX11_turnToNext_12 : decode cX11_turnToNext 12 = .ok (.aload_n 0, 1) := by decide +kernel
theorem dyX11_turnToNext_13 : decode cX11_turnToNext 13 = .ok (.getfield 25, 3) := by decide +kernel
theorem dyX11_turnToNext_16 : decode cX11_turnToNext 16 = .ok (.invokevirtual 130, 3) := by decide +kernel
theorem dyX11_turnToNext_19 : decode cX11_turnToNext 19 = .ok (.aload_n 0, 1) := by decide +kernel
theorem dyX11_turnToNext_20 : decode cX11_turnToNext 20 = .ok (.bipush 20, 2) := by decide +kernel
theorem dyX11_turnToNext_22 : decode cX11_turnToNext 22 = .ok (.aload_n 0, 1) := by decide +kernel
theorem dyX11_turnToNext_23 : decode cX11_turnToNext 23 = .ok (.getfield 196, 3) := by decide +kernel
theorem dyX11_turnToNext_26 : decode cX11_turnToNext 26 = .ok (.iconst 1, 1) := by decide +kernel
theorem dyX11_turnToNext_27 : decode cX11_turnToNext 27 = .ok (.iadd, 1) := by decide +kernel
theorem dyX11_turnToNext_28 : decode cX11_turnToNext 28 = .ok (.invokestatic 425, 3) := by decide +kernel
theorem dyX11_turnToNext_31 : decode cX11_turnToNext 31 = .ok (.putfield 196, 3) := by decide +kernel
theorem dyX11_turnToNext_34 : decode cX11_turnToNext 34 = .ok (.aload_n 0, 1) := by decide +kernel
theorem dyX11_turnToNext_35 : decode cX11_turnToNext 35 = .ok (.iconst 0, 1) := by decide +kernel
theorem dyX11_turnToNext_36 : decode cX11_turnToNext 36 = .ok (.putfield 199, 3) := by decide +kernel
theorem dyX11_turnToNext_39 : decode cX11_turnToNext 39 = .ok (.return_, 1) := by decide +kernel
theorem zsg_yX11_turnToNext : yX11_turnToNext.cls = RX11 ∧ yX11_turnToNext.cls ≠ "java/lang/invoke/MethodHandle" ∧ yX11_turnToNext.cls ≠ "java/lang/invoke/VarHandle" ∧ (parseMethodDescriptor yX11_turnToNext.desc).map (fun d => d.parameters.length) = some 0 := by decide +kernel
set_option maxRecDepth 20000 in
theorem c_Desk_turnToNext {l : Launch} {D : va_G} {B : Nat} {cA : Nat → ClassId} {ad : Nat → Nat} {S : List zC} (hS : zOkX S)  {I : zI} {K : zI → Prop}  (h : w_Desk_turnToNext  I K) : Met l yX11_turnToNext (zws yX11_turnToNext cX11_turnToNext 1 none) (zrm 5 125) (zPc D B cA ad [.ref (B + 0)] S I) (zQc D B cA (zqV S K)) 0 0 (fun q => B ≤ q) := by
  refine zm_of (cc := cX11_turnToNext) (maxL := 1) (ret := none) (by decide +kernel) rfl (Nat.le_of_ble_eq_true rfl) trivial ?_
  intro p e s m args below meth c C _
  unfold w_Desk_turnToNext at h
  show zX p l e (zrm 5 125) s m args below meth c (MQ below (zQc D B cA (zqV S K)) args s 0 0 (fun q => B ≤ q)) D B cA 1 0 0 S I [(0, .ref (B + 0))] [] 0
  refine zr_aload_n C dyX11_turnToNext_0 rfl 0 rfl ?_
  refine zr_aload_n C dyX11_turnToNext_1 rfl 0 rfl ?_
  refine zv_11_205 C hS (st := [.ref (B + 0)]) h ⟨Nat.le_of_ble_eq_true rfl, Nat.le_of_ble_eq_true rfl⟩ (Nat.le_of_ble_eq_true rfl) dyX11_turnToNext_2 (fun r_1 h => ?_)
  refine zp_11_202 C hS dyX11_turnToNext_5 ?_
  refine zn_mem C (fun I_2 eI_2 => ?_)
  replace h := h I_2 eI_2
  refine zr_aload_n C dyX11_turnToNext_8 rfl 0 rfl ?_
  refine zv_11_126 C hS (st := []) h ⟨Nat.le_of_ble_eq_true rfl, Nat.le_of_ble_eq_true rfl⟩ (Nat.le_of_ble_eq_true rfl) dyX11_turnToNext_9 (fun r_3 hr_3 h => ?_)
  refine zr_aload_n C dyX11_turnToNext_12 rfl 0 rfl ?_
  refine zg_11_25 C hS dyX11_turnToNext_13 ?_
  refine zv_11_130 C hS hr_3 (zIsMoment.of hS zit_4) (st := []) h ⟨Nat.le_of_ble_eq_true rfl, Nat.le_of_ble_eq_true rfl⟩ (Nat.le_of_ble_eq_true rfl) dyX11_turnToNext_16 (fun I_4 h => ?_)
  refine zr_aload_n C dyX11_turnToNext_19 rfl 0 rfl ?_
  refine zr_bipush C dyX11_turnToNext_20 zc_b_20 ?_
  refine zr_aload_n C dyX11_turnToNext_22 rfl 0 rfl ?_
  refine zg_11_196 C hS dyX11_turnToNext_23 ?_
  refine zr_iconst C dyX11_turnToNext_26 zc_i_1 ?_
  refine zr_iadd C dyX11_turnToNext_27 ?_
  refine zr_mmin C zk_ml_11_425 zk_st_J_min zk_in_Math zk_cd_J_min (Nat.le_of_ble_eq_true rfl) (Nat.le_of_ble_eq_true rfl) (Nat.le_of_ble_eq_true rfl) (Nat.zero_le _) (Nat.zero_le _) dyX11_turnToNext_28 ?_
  refine zp_11_196 C hS dyX11_turnToNext_31 ?_
  refine zn_mem C (fun I_5 eI_5 => ?_)
  replace h := h I_5 eI_5
  refine zr_aload_n C dyX11_turnToNext_34 rfl 0 rfl ?_
  refine zr_iconst C dyX11_turnToNext_35 zc_i_0 ?_
  refine zp_11_199 C hS dyX11_turnToNext_36 ?_
  refine zn_mem C (fun I_6 eI_6 => ?_)
  replace h := h I_6 eI_6
  exact zr_vret C rfl dyX11_turnToNext_39 ⟨rfl, rfl, h⟩
theorem zg_11_144 {p : Program} {l : Launch} {e : Env} {R : Room} {s : State} {m : MethodId} {args : Array Value} {below : List Frame} {meth : Method} {c : Code} {Q : State → Prop} {D : va_G} {B : Nat} {cA : Nat → ClassId} {ad : Nat → Nat} {cc : ByteArray} {nL : Nat} {ret : Option FieldType} {S : List zC} {I : zI} {lv : List (Nat × Value)} {st : List Value} {pc : Nat} (C : zCx p s m args meth c cc nL RX11 ret D B cA ad) {k : Nat} (hk : zIsMoment S k) (hd : decode cc pc = .ok (.getfield 144, 3)) (kk : zX p l e R s m args below meth c Q D B cA nL 0 0 S I lv (.int (I.1 k 1) :: st) (pc + 3)) : zX p l e R s m args below meth c Q D B cA nL 0 0 S I lv (.ref (B + k) :: st) pc :=
  zr_geti C (ci := 2) (Cn := RX2) (T := TX2) (N := 9) (k := k) (j := 1) (fs := [some (some (k + 1)), none, some (some (k + 3)), none, some (some (k + 14)), some (some (k + 16)), none, none, none]) rfl zin_2 (Nat.le_of_ble_eq_true rfl) rfl hk.1 rfl zk_fl_11_144 hd kk
theorem zg_11_35 {p : Program} {l : Launch} {e : Env} {R : Room} {s : State} {m : MethodId} {args : Array Value} {below : List Frame} {meth : Method} {c : Code} {Q : State → Prop} {D : va_G} {B : Nat} {cA : Nat → ClassId} {ad : Nat → Nat} {cc : ByteArray} {nL : Nat} {ret : Option FieldType} {S : List zC} {I : zI} {lv : List (Nat × Value)} {st : List Value} {pc : Nat} (C : zCx p s m args meth c cc nL RX11 ret D B cA ad) (hS : zOkX S) (hd : decode cc pc = .ok (.getfield 35, 3)) (kk : zX p l e R s m args below meth c Q D B cA nL 0 0 S I lv (.ref (B + 24) :: st) (pc + 3)) : zX p l e R s m args below meth c Q D B cA nL 0 0 S I lv (.ref (B + 0) :: st) pc :=
  zr_getr C (ci := 11) (Cn := RX11) (T := TX11) (N := 19) (k := 0) (j := 9) (fs := [some (some 1), none, some (some 3), some (some 4), none, none, none, none, some (some 22), some (some 24), some (some 43), some (some 64), some (some 69), some (some 88), some (some 97), some (some 100), some (some 109), some (some 111), none]) rfl zin_11 (Nat.le_of_ble_eq_true rfl) rfl (hS _ _ zs_0) rfl zk_fl_11_35 hd kk
theorem zg_11_355 {p : Program} {l : Launch} {e : Env} {R : Room} {s : State} {m : MethodId} {args : Array Value} {below : List Frame} {meth : Method} {c : Code} {Q : State → Prop} {D : va_G} {B : Nat} {cA : Nat → ClassId} {ad : Nat → Nat} {cc : ByteArray} {nL : Nat} {ret : Option FieldType} {S : List zC} {I : zI} {lv : List (Nat × Value)} {st : List Value} {pc : Nat} (C : zCx p s m args meth c cc nL RX11 ret D B cA ad) (hS : zOkX S) (hd : decode cc pc = .ok (.getfield 355, 3)) (kk : zX p l e R s m args below meth c Q D B cA nL 0 0 S I lv (.int (I.1 24 9) :: st) (pc + 3)) : zX p l e R s m args below meth c Q D B cA nL 0 0 S I lv (.ref (B + 24) :: st) pc :=
  zr_geti C (ci := 3) (Cn := RX3) (T := TX3) (N := 10) (k := 24) (j := 9) (fs := [some (some 25), some (some 27), some (some 29), some (some 31), some (some 33), some (some 35), some (some 37), some (some 39), some (some 41), none]) rfl zin_3 (Nat.le_of_ble_eq_true rfl) rfl (hS _ _ zs_24) rfl zk_fl_11_355 hd kk
theorem zg_11_99 {p : Program} {l : Launch} {e : Env} {R : Room} {s : State} {m : MethodId} {args : Array Value} {below : List Frame} {meth : Method} {c : Code} {Q : State → Prop} {D : va_G} {B : Nat} {cA : Nat → ClassId} {ad : Nat → Nat} {cc : ByteArray} {nL : Nat} {ret : Option FieldType} {S : List zC} {I : zI} {lv : List (Nat × Value)} {st : List Value} {pc : Nat} (C : zCx p s m args meth c cc nL RX11 ret D B cA ad) {k : Nat} (hk : zIsMoment S k) (hd : decode cc pc = .ok (.getfield 99, 3)) (kk : zX p l e R s m args below meth c Q D B cA nL 0 0 S I lv (.ref (B + (k + 3)) :: st) (pc + 3)) : zX p l e R s m args below meth c Q D B cA nL 0 0 S I lv (.ref (B + k) :: st) pc :=
  zr_getr C (ci := 2) (Cn := RX2) (T := TX2) (N := 9) (k := k) (j := 2) (fs := [some (some (k + 1)), none, some (some (k + 3)), none, some (some (k + 14)), some (some (k + 16)), none, none, none]) rfl zin_2 (Nat.le_of_ble_eq_true rfl) rfl hk.1 rfl zk_fl_11_99 hd kk
theorem zg_11_103 {p : Program} {l : Launch} {e : Env} {R : Room} {s : State} {m : MethodId} {args : Array Value} {below : List Frame} {meth : Method} {c : Code} {Q : State → Prop} {D : va_G} {B : Nat} {cA : Nat → ClassId} {ad : Nat → Nat} {cc : ByteArray} {nL : Nat} {ret : Option FieldType} {S : List zC} {I : zI} {lv : List (Nat × Value)} {st : List Value} {pc : Nat} (C : zCx p s m args meth c cc nL RX11 ret D B cA ad) {k : Nat} (hk : zIsMoment S k) (hd : decode cc pc = .ok (.getfield 103, 3)) (kk : zX p l e R s m args below meth c Q D B cA nL 0 0 S I lv (.ref (B + (k + 1)) :: st) (pc + 3)) : zX p l e R s m args below meth c Q D B cA nL 0 0 S I lv (.ref (B + k) :: st) pc :=
  zr_getr C (ci := 2) (Cn := RX2) (T := TX2) (N := 9) (k := k) (j := 0) (fs := [some (some (k + 1)), none, some (some (k + 3)), none, some (some (k + 14)), some (some (k + 16)), none, none, none]) rfl zin_2 (Nat.le_of_ble_eq_true rfl) rfl hk.1 rfl zk_fl_11_103 hd kk
theorem zv_11_106 {p : Program} {l : Launch} {e : Env} {R : Room} {s : State} {m : MethodId} {args : Array Value} {below : List Frame} {meth : Method} {c : Code} {Q : State → Prop} {D : va_G} {B : Nat} {cA : Nat → ClassId} {ad : Nat → Nat} {cc : ByteArray} {nL : Nat} {ret : Option FieldType} {S : List zC} {I : zI} {lv : List (Nat × Value)} {st : List Value} {pc : Nat} (C : zCx p s m args meth c cc nL RX11 ret D B cA ad) {K : Int32 → zI → Prop} {xk : Nat} {xa1 : Nat} {xa1n : Nat} {xa2 : Int32} (hS : zOkX S) (xhk : zIsTokens S xk) (xha1 : zIsRow S xa1 xa1n) (h : w_Tokens_readAll xk xa1 xa1n xa2 I K) (hR : 4 + 1 ≤ R.frames ∧ 8 + (5 + 11) + (97) ≤ R.locals) (hw : (st.map fun v => v.category).sum ≤ 8) (hd : decode cc pc = .ok (.invokevirtual 106, 3)) (kk : ∀ v I2, K v I2 → zX p l e R s m args below meth c Q D B cA nL 0 0 S I2 lv (.int v :: st) (pc + 3)) : zX p l e R s m args below meth c Q D B cA nL 0 0 S I lv (.int xa2 :: .ref (B + xa1) :: .ref (B + xk) :: st) pc :=
  have hf : 0 ≤ R.cells ∧ 0 ≤ R.slots := ⟨Nat.zero_le _, Nat.zero_le _⟩
  zc_VqI C (ci := 8) (q := (RX8, TX8, 6)) (k := xk) (fs := [some (some (xk + 1)), some (some (xk + 3)), some (some (xk + 5)), some (some (xk + 7)), some (some (xk + 9)), none]) (As := [.ref (B + xa1), .int xa2]) (st := st) rfl xhk.1 (c_Tokens_readAll hS xhk xha1 h) (zgV zk_ml_11_106 zk_im_yX8_readAll zk_se_yX8_readAll zk_in_8 zk_cd_yX8_readAll) zsg_yX8_readAll hR rfl rfl hw hd hf kk
theorem zg_11_309 {p : Program} {l : Launch} {e : Env} {R : Room} {s : State} {m : MethodId} {args : Array Value} {below : List Frame} {meth : Method} {c : Code} {Q : State → Prop} {D : va_G} {B : Nat} {cA : Nat → ClassId} {ad : Nat → Nat} {cc : ByteArray} {nL : Nat} {ret : Option FieldType} {S : List zC} {I : zI} {lv : List (Nat × Value)} {st : List Value} {pc : Nat} (C : zCx p s m args meth c cc nL RX11 ret D B cA ad) (hS : zOkX S) (hd : decode cc pc = .ok (.getfield 309, 3)) (kk : zX p l e R s m args below meth c Q D B cA nL 0 0 S I lv (.int (I.1 0 7) :: st) (pc + 3)) : zX p l e R s m args below meth c Q D B cA nL 0 0 S I lv (.ref (B + 0) :: st) pc :=
  zr_geti C (ci := 11) (Cn := RX11) (T := TX11) (N := 19) (k := 0) (j := 7) (fs := [some (some 1), none, some (some 3), some (some 4), none, none, none, none, some (some 22), some (some 24), some (some 43), some (some 64), some (some 69), some (some 88), some (some 97), some (some 100), some (some 109), some (some 111), none]) rfl zin_11 (Nat.le_of_ble_eq_true rfl) rfl (hS _ _ zs_0) rfl zk_fl_11_309 hd kk
theorem zp_11_309 {p : Program} {l : Launch} {e : Env} {R : Room} {s : State} {m : MethodId} {args : Array Value} {below : List Frame} {meth : Method} {c : Code} {Q : State → Prop} {D : va_G} {B : Nat} {cA : Nat → ClassId} {ad : Nat → Nat} {cc : ByteArray} {nL : Nat} {ret : Option FieldType} {S : List zC} {I : zI} {lv : List (Nat × Value)} {st : List Value} {pc : Nat} (C : zCx p s m args meth c cc nL RX11 ret D B cA ad) (hS : zOkX S) {v : Int32} (hd : decode cc pc = .ok (.putfield 309, 3)) (kk : zX p l e R s m args below meth c Q D B cA nL 0 0 S (zu I 0 7 v) lv st (pc + 3)) : zX p l e R s m args below meth c Q D B cA nL 0 0 S I lv (.int v :: .ref (B + 0) :: st) pc :=
  zr_puti C (ci := 11) (Cn := RX11) (T := TX11) (N := 19) (k := 0) (j := 7) (fs := [some (some 1), none, some (some 3), some (some 4), none, none, none, none, some (some 22), some (some 24), some (some 43), some (some 64), some (some 69), some (some 88), some (some 97), some (some 100), some (some 109), some (some 111), none]) rfl zin_11 (Nat.le_of_ble_eq_true rfl) rfl (hS _ _ zs_0) rfl tyX11 tyX11_ok nmX11 (ty := .int) zpd_I rfl rfl rfl zk_fl_11_309 hd kk
theorem zv_11_375 {p : Program} {l : Launch} {e : Env} {R : Room} {s : State} {m : MethodId} {args : Array Value} {below : List Frame} {meth : Method} {c : Code} {Q : State → Prop} {D : va_G} {B : Nat} {cA : Nat → ClassId} {ad : Nat → Nat} {cc : ByteArray} {nL : Nat} {ret : Option FieldType} {S : List zC} {I : zI} {lv : List (Nat × Value)} {st : List Value} {pc : Nat} (C : zCx p s m args meth c cc nL RX11 ret D B cA ad) {K : Int32 → zI → Prop} {xa1 : Nat} {xa2 : Nat} {xa3 : Int32} (hS : zOkX S) (xha1 : zIsMoment S xa1) (xha2 : zIsMoment S xa2) (h : w_Grower_regrow xa1 xa2 xa3 I K) (hR : 5 + 1 ≤ R.frames ∧ 8 + (4 + 11) + (124) ≤ R.locals) (hw : (st.map fun v => v.category).sum ≤ 8) (hd : decode cc pc = .ok (.invokevirtual 375, 3)) (kk : ∀ v I2, K v I2 → zX p l e R s m args below meth c Q D B cA nL 0 0 S I2 lv (.int v :: st) (pc + 3)) : zX p l e R s m args below meth c Q D B cA nL 0 0 S I lv (.int xa3 :: .ref (B + xa2) :: .ref (B + xa1) :: .ref (B + 64) :: st) pc :=
  have hf : 0 ≤ R.cells ∧ 0 ≤ R.slots := ⟨Nat.zero_le _, Nat.zero_le _⟩
  zc_VqI C (ci := 1) (q := (RX1, TX1, 14)) (k := 64) (fs := [some (some 24), some (some 43), some (some 65), some (some 67), none, none, none, none, none, none, none, none, none, none]) (As := [.ref (B + xa1), .ref (B + xa2), .int xa3]) (st := st) rfl (hS _ _ zs_64) (c_Grower_regrow hS xha1 xha2 h) (zgV zk_ml_11_375 zk_im_yX1_regrow zk_se_yX1_regrow zk_in_1 zk_cd_yX1_regrow) zsg_yX1_regrow hR rfl rfl hw hd hf kk
theorem zv_11_385 {p : Program} {l : Launch} {e : Env} {R : Room} {s : State} {m : MethodId} {args : Array Value} {below : List Frame} {meth : Method} {c : Code} {Q : State → Prop} {D : va_G} {B : Nat} {cA : Nat → ClassId} {ad : Nat → Nat} {cc : ByteArray} {nL : Nat} {ret : Option FieldType} {S : List zC} {I : zI} {lv : List (Nat × Value)} {st : List Value} {pc : Nat} (C : zCx p s m args meth c cc nL RX11 ret D B cA ad) {K : zI → Prop} {xa1 : Int32} (hS : zOkX S)  (h : w_Desk_tellGrowth xa1 I K) (hR : 1 + 1 ≤ R.frames ∧ 8 + (2 + 11) + (22) ≤ R.locals) (hw : (st.map fun v => v.category).sum ≤ 8) (hd : decode cc pc = .ok (.invokevirtual 385, 3)) (kk : ∀ I2, K I2 → zX p l e R s m args below meth c Q D B cA nL 0 0 S I2 lv st (pc + 3)) : zX p l e R s m args below meth c Q D B cA nL 0 0 S I lv (.int xa1 :: .ref (B + 0) :: st) pc :=
  have hf : 0 ≤ R.cells ∧ 0 ≤ R.slots := ⟨Nat.zero_le _, Nat.zero_le _⟩
  zc_VqV C (ci := 11) (q := (RX11, TX11, 19)) (k := 0) (fs := [some (some 1), none, some (some 3), some (some 4), none, none, none, none, some (some 22), some (some 24), some (some 43), some (some 64), some (some 69), some (some 88), some (some 97), some (some 100), some (some 109), some (some 111), none]) (As := [.int xa1]) (st := st) rfl (hS _ _ zs_0) (c_Desk_tellGrowth hS h) (zgV zk_ml_11_385 zk_im_yX11_tellGrowth zk_se_yX11_tellGrowth zk_in_11 zk_cd_yX11_tellGrowth) zsg_yX11_tellGrowth hR rfl rfl hw hd hf kk
theorem zv_11_394 {p : Program} {l : Launch} {e : Env} {R : Room} {s : State} {m : MethodId} {args : Array Value} {below : List Frame} {meth : Method} {c : Code} {Q : State → Prop} {D : va_G} {B : Nat} {cA : Nat → ClassId} {ad : Nat → Nat} {cc : ByteArray} {nL : Nat} {ret : Option FieldType} {S : List zC} {I : zI} {lv : List (Nat × Value)} {st : List Value} {pc : Nat} (C : zCx p s m args meth c cc nL RX11 ret D B cA ad) {K : zI → Prop}  (hS : zOkX S)  (h : w_Desk_turnToNext I K) (hR : 5 + 1 ≤ R.frames ∧ 8 + (1 + 11) + (125) ≤ R.locals) (hw : (st.map fun v => v.category).sum ≤ 8) (hd : decode cc pc = .ok (.invokevirtual 394, 3)) (kk : ∀ I2, K I2 → zX p l e R s m args below meth c Q D B cA nL 0 0 S I2 lv st (pc + 3)) : zX p l e R s m args below meth c Q D B cA nL 0 0 S I lv (.ref (B + 0) :: st) pc :=
  have hf : 0 ≤ R.cells ∧ 0 ≤ R.slots := ⟨Nat.zero_le _, Nat.zero_le _⟩
  zc_VqV C (ci := 11) (q := (RX11, TX11, 19)) (k := 0) (fs := [some (some 1), none, some (some 3), some (some 4), none, none, none, none, some (some 22), some (some 24), some (some 43), some (some 64), some (some 69), some (some 88), some (some 97), some (some 100), some (some 109), some (some 111), none]) (As := []) (st := st) rfl (hS _ _ zs_0) (c_Desk_turnToNext hS h) (zgV zk_ml_11_394 zk_im_yX11_turnToNext zk_se_yX11_turnToNext zk_in_11 zk_cd_yX11_turnToNext) zsg_yX11_turnToNext hR rfl rfl hw hd hf kk
theorem zv_11_134 {p : Program} {l : Launch} {e : Env} {R : Room} {s : State} {m : MethodId} {args : Array Value} {below : List Frame} {meth : Method} {c : Code} {Q : State → Prop} {D : va_G} {B : Nat} {cA : Nat → ClassId} {ad : Nat → Nat} {cc : ByteArray} {nL : Nat} {ret : Option FieldType} {S : List zC} {I : zI} {lv : List (Nat × Value)} {st : List Value} {pc : Nat} (C : zCx p s m args meth c cc nL RX11 ret D B cA ad) {K : zI → Prop} {xa1 : Nat} {xa2 : Int32} (hS : zOkX S) (xha1 : zIsMoment S xa1) (h : w_Desk_lookAt xa1 xa2 I K) (hR : 5 + 1 ≤ R.frames ∧ 8 + (3 + 11) + (119) ≤ R.locals) (hw : (st.map fun v => v.category).sum ≤ 8) (hd : decode cc pc = .ok (.invokevirtual 134, 3)) (kk : ∀ I2, K I2 → zX p l e R s m args below meth c Q D B cA nL 0 0 S I2 lv st (pc + 3)) : zX p l e R s m args below meth c Q D B cA nL 0 0 S I lv (.int xa2 :: .ref (B + xa1) :: .ref (B + 0) :: st) pc :=
  have hf : 0 ≤ R.cells ∧ 0 ≤ R.slots := ⟨Nat.zero_le _, Nat.zero_le _⟩
  zc_VqV C (ci := 11) (q := (RX11, TX11, 19)) (k := 0) (fs := [some (some 1), none, some (some 3), some (some 4), none, none, none, none, some (some 22), some (some 24), some (some 43), some (some 64), some (some 69), some (some 88), some (some 97), some (some 100), some (some 109), some (some 111), none]) (As := [.ref (B + xa1), .int xa2]) (st := st) rfl (hS _ _ zs_0) (c_Desk_lookAt hS xha1 h) (zgV zk_ml_11_134 zk_im_yX11_lookAt zk_se_yX11_lookAt zk_in_11 zk_cd_yX11_lookAt) zsg_yX11_lookAt hR rfl rfl hw hd hf kk
theorem zv_11_388 {p : Program} {l : Launch} {e : Env} {R : Room} {s : State} {m : MethodId} {args : Array Value} {below : List Frame} {meth : Method} {c : Code} {Q : State → Prop} {D : va_G} {B : Nat} {cA : Nat → ClassId} {ad : Nat → Nat} {cc : ByteArray} {nL : Nat} {ret : Option FieldType} {S : List zC} {I : zI} {lv : List (Nat × Value)} {st : List Value} {pc : Nat} (C : zCx p s m args meth c cc nL RX11 ret D B cA ad) {K : zI → Prop}  (hS : zOkX S)  (h : w_Desk_layRow I K) (hR : 16 + 1 ≤ R.frames ∧ 8 + (2 + 11) + (549) ≤ R.locals) (hw : (st.map fun v => v.category).sum ≤ 8) (hd : decode cc pc = .ok (.invokevirtual 388, 3)) (kk : ∀ I2, K I2 → zX p l e R s m args below meth c Q D B cA nL 0 0 S I2 lv st (pc + 3)) : zX p l e R s m args below meth c Q D B cA nL 0 0 S I lv (.ref (B + 0) :: st) pc :=
  have hf : 0 ≤ R.cells ∧ 0 ≤ R.slots := ⟨Nat.zero_le _, Nat.zero_le _⟩
  zc_VqV C (ci := 11) (q := (RX11, TX11, 19)) (k := 0) (fs := [some (some 1), none, some (some 3), some (some 4), none, none, none, none, some (some 22), some (some 24), some (some 43), some (some 64), some (some 69), some (some 88), some (some 97), some (some 100), some (some 109), some (some 111), none]) (As := []) (st := st) rfl (hS _ _ zs_0) (c_Desk_layRow hS h) (zgV zk_ml_11_388 zk_im_yX11_layRow zk_se_yX11_layRow zk_in_11 zk_cd_yX11_layRow) zsg_yX11_layRow hR rfl rfl hw hd hf kk
theorem zv_11_391 {p : Program} {l : Launch} {e : Env} {R : Room} {s : State} {m : MethodId} {args : Array Value} {below : List Frame} {meth : Method} {c : Code} {Q : State → Prop} {D : va_G} {B : Nat} {cA : Nat → ClassId} {ad : Nat → Nat} {cc : ByteArray} {nL : Nat} {ret : Option FieldType} {S : List zC} {I : zI} {lv : List (Nat × Value)} {st : List Value} {pc : Nat} (C : zCx p s m args meth c cc nL RX11 ret D B cA ad) {K : zI → Prop} {xa1 : Int32} (hS : zOkX S)  (h : w_Desk_tellGood xa1 I K) (hR : 2 + 1 ≤ R.frames ∧ 8 + (2 + 11) + (43) ≤ R.locals) (hw : (st.map fun v => v.category).sum ≤ 8) (hd : decode cc pc = .ok (.invokevirtual 391, 3)) (kk : ∀ I2, K I2 → zX p l e R s m args below meth c Q D B cA nL 0 0 S I2 lv st (pc + 3)) : zX p l e R s m args below meth c Q D B cA nL 0 0 S I lv (.int xa1 :: .ref (B + 0) :: st) pc :=
  have hf : 0 ≤ R.cells ∧ 0 ≤ R.slots := ⟨Nat.zero_le _, Nat.zero_le _⟩
  zc_VqV C (ci := 11) (q := (RX11, TX11, 19)) (k := 0) (fs := [some (some 1), none, some (some 3), some (some 4), none, none, none, none, some (some 22), some (some 24), some (some 43), some (some 64), some (some 69), some (some 88), some (some 97), some (some 100), some (some 109), some (some 111), none]) (As := [.int xa1]) (st := st) rfl (hS _ _ zs_0) (c_Desk_tellGood hS h) (zgV zk_ml_11_391 zk_im_yX11_tellGood zk_se_yX11_tellGood zk_in_11 zk_cd_yX11_tellGood) zsg_yX11_tellGood hR rfl rfl hw hd hf kk
theorem zp_11_355 {p : Program} {l : Launch} {e : Env} {R : Room} {s : State} {m : MethodId} {args : Array Value} {below : List Frame} {meth : Method} {c : Code} {Q : State → Prop} {D : va_G} {B : Nat} {cA : Nat → ClassId} {ad : Nat → Nat} {cc : ByteArray} {nL : Nat} {ret : Option FieldType} {S : List zC} {I : zI} {lv : List (Nat × Value)} {st : List Value} {pc : Nat} (C : zCx p s m args meth c cc nL RX11 ret D B cA ad) (hS : zOkX S) {v : Int32} (hd : decode cc pc = .ok (.putfield 355, 3)) (kk : zX p l e R s m args below meth c Q D B cA nL 0 0 S (zu I 24 9 v) lv st (pc + 3)) : zX p l e R s m args below meth c Q D B cA nL 0 0 S I lv (.int v :: .ref (B + 24) :: st) pc :=
  zr_puti C (ci := 3) (Cn := RX3) (T := TX3) (N := 10) (k := 24) (j := 9) (fs := [some (some 25), some (some 27), some (some 29), some (some 31), some (some 33), some (some 35), some (some 37), some (some 39), some (some 41), none]) rfl zin_3 (Nat.le_of_ble_eq_true rfl) rfl (hS _ _ zs_24) rfl tyX3 tyX3_ok nmX3 (ty := .int) zpd_I rfl rfl rfl zk_fl_11_355 hd kk
theorem zv_11_382 {p : Program} {l : Launch} {e : Env} {R : Room} {s : State} {m : MethodId} {args : Array Value} {below : List Frame} {meth : Method} {c : Code} {Q : State → Prop} {D : va_G} {B : Nat} {cA : Nat → ClassId} {ad : Nat → Nat} {cc : ByteArray} {nL : Nat} {ret : Option FieldType} {S : List zC} {I : zI} {lv : List (Nat × Value)} {st : List Value} {pc : Nat} (C : zCx p s m args meth c cc nL RX11 ret D B cA ad) {K : zI → Prop} {xk : Nat} {xa1 : Nat} (hS : zOkX S) (xhk : zIsMoment S xk) (xha1 : zIsMoment S xa1) (h : w_Moment_keepGood xk xa1 I K) (hR : 3 + 1 ≤ R.frames ∧ 8 + (2 + 11) + (83) ≤ R.locals) (hw : (st.map fun v => v.category).sum ≤ 8) (hd : decode cc pc = .ok (.invokevirtual 382, 3)) (kk : ∀ I2, K I2 → zX p l e R s m args below meth c Q D B cA nL 0 0 S I2 lv st (pc + 3)) : zX p l e R s m args below meth c Q D B cA nL 0 0 S I lv (.ref (B + xa1) :: .ref (B + xk) :: st) pc :=
  have hf : 0 ≤ R.cells ∧ 0 ≤ R.slots := ⟨Nat.zero_le _, Nat.zero_le _⟩
  zc_VqV C (ci := 2) (q := (RX2, TX2, 9)) (k := xk) (fs := [some (some (xk + 1)), none, some (some (xk + 3)), none, some (some (xk + 14)), some (some (xk + 16)), none, none, none]) (As := [.ref (B + xa1)]) (st := st) rfl xhk.1 (c_Moment_keepGood hS xhk xha1 h) (zgV zk_ml_11_382 zk_im_yX2_keepGood zk_se_yX2_keepGood zk_in_2 zk_cd_yX2_keepGood) zsg_yX2_keepGood hR rfl rfl hw hd hf kk
theorem zv_11_379 {p : Program} {l : Launch} {e : Env} {R : Room} {s : State} {m : MethodId} {args : Array Value} {below : List Frame} {meth : Method} {c : Code} {Q : State → Prop} {D : va_G} {B : Nat} {cA : Nat → ClassId} {ad : Nat → Nat} {cc : ByteArray} {nL : Nat} {ret : Option FieldType} {S : List zC} {I : zI} {lv : List (Nat × Value)} {st : List Value} {pc : Nat} (C : zCx p s m args meth c cc nL RX11 ret D B cA ad) {K : Int32 → Prop}  (hS : zOkX S)  (h : w_Grower_onTop I K) (hR : 1 + 1 ≤ R.frames ∧ 8 + (1 + 11) + (21) ≤ R.locals) (hw : (st.map fun v => v.category).sum ≤ 8) (hd : decode cc pc = .ok (.invokevirtual 379, 3)) (kk : ∀ v, K v → zX p l e R s m args below meth c Q D B cA nL 0 0 S I lv (.int v :: st) (pc + 3)) : zX p l e R s m args below meth c Q D B cA nL 0 0 S I lv (.ref (B + 64) :: st) pc :=
  have hf : 0 ≤ R.cells ∧ 0 ≤ R.slots := ⟨Nat.zero_le _, Nat.zero_le _⟩
  zc_VpI C (ci := 1) (q := (RX1, TX1, 14)) (k := 64) (fs := [some (some 24), some (some 43), some (some 65), some (some 67), none, none, none, none, none, none, none, none, none, none]) (As := []) (st := st) rfl (hS _ _ zs_64) (c_Grower_onTop hS h) (zgV zk_ml_11_379 zk_im_yX1_onTop zk_se_yX1_onTop zk_in_1 zk_cd_yX1_onTop) zsg_yX1_onTop hR rfl rfl hw hd hf kk
theorem zv_11_112 {p : Program} {l : Launch} {e : Env} {R : Room} {s : State} {m : MethodId} {args : Array Value} {below : List Frame} {meth : Method} {c : Code} {Q : State → Prop} {D : va_G} {B : Nat} {cA : Nat → ClassId} {ad : Nat → Nat} {cc : ByteArray} {nL : Nat} {ret : Option FieldType} {S : List zC} {I : zI} {lv : List (Nat × Value)} {st : List Value} {pc : Nat} (C : zCx p s m args meth c cc nL RX11 ret D B cA ad) {K : zI → Prop} {xk : Nat} {xa1 : Int32} (hS : zOkX S) (xhk : zIsMoment S xk) (h : w_Moment_beGood xk xa1 I K) (hR : 3 + 1 ≤ R.frames ∧ 8 + (2 + 11) + (83) ≤ R.locals) (hw : (st.map fun v => v.category).sum ≤ 8) (hd : decode cc pc = .ok (.invokevirtual 112, 3)) (kk : ∀ I2, K I2 → zX p l e R s m args below meth c Q D B cA nL 0 0 S I2 lv st (pc + 3)) : zX p l e R s m args below meth c Q D B cA nL 0 0 S I lv (.int xa1 :: .ref (B + xk) :: st) pc :=
  have hf : 0 ≤ R.cells ∧ 0 ≤ R.slots := ⟨Nat.zero_le _, Nat.zero_le _⟩
  zc_VqV C (ci := 2) (q := (RX2, TX2, 9)) (k := xk) (fs := [some (some (xk + 1)), none, some (some (xk + 3)), none, some (some (xk + 14)), some (some (xk + 16)), none, none, none]) (As := [.int xa1]) (st := st) rfl xhk.1 (c_Moment_beGood hS xhk h) (zgV zk_ml_11_112 zk_im_yX2_beGood zk_se_yX2_beGood zk_in_2 zk_cd_yX2_beGood) zsg_yX2_beGood hR rfl rfl hw hd hf kk
def w_Desk_change (a1 : Int32) (I : zI) (K : Int32 → zI → Prop) : Prop :=
  (if 300 < (I.1 4 1) then (K (-1) I) else (if 3000 ≤ (I.1 24 9) then (K (-1) I) else (if (I.1 88 4) < 3900 then (w_Tokens_readAll (4 + 3) (4 + 1) 300 (I.1 4 1) I (fun r_1 I_2 => (if r_1 = 0 then (K (-1) I_2) else (∀ (P83 : Int32 → Prop), (∀ (t_3 : Int32), (∀ I_4, I_4 = (zu I_2 0 1 t_3) → ∀ I_5, I_5 = (zu I_4 0 7 ((I_4.1 0 7) + 1)) → ∀ v2_6, v2_6 = (I_5.1 24 9) → w_TreeView_ruledSize I_5 (fun r_7 => w_Desk_now I_5 (fun r_8 => w_Grower_regrow r_8 4 (I_5.1 0 7) I_5 (fun r_9 I_10 => ∀ (P174 : zI → Prop), (∀ (I_11 : zI), (∀ (P193 : Int32 → Prop), (∀ (t_12 : Int32), (w_Desk_tellGrowth t_12 I_11 (fun I_13 => ∀ (P222 : zI → Prop), (∀ (I_14 : zI), (w_Desk_turnToNext I_14 (fun I_15 => (if r_9 = 0 then K 1 I_15 else K 0 I_15))) → P222 I_14) → (if r_9 = 0 then P222 I_13 else (w_Desk_lookAt 4 (I_13.1 0 7) I_13 (fun I_17 => w_Desk_layRow I_17 (fun I_18 => w_Desk_tellGood r_7 I_18 (fun I_19 => P222 I_19))))))) → P193 t_12) → (if r_9 = 0 then P193 0 else (P193 ((I_11.1 24 9) - v2_6)))) → P174 I_11) → (if r_9 = 0 then (∀ I_22, I_22 = (zu I_10 24 9 v2_6) → w_Desk_now I_22 (fun r_23 => w_Moment_keepGood 4 r_23 I_22 (fun I_24 => P174 I_24))) else (w_Grower_onTop I_10 (fun r_25 => w_Moment_beGood 4 r_25 I_10 (fun I_26 => P174 I_26)))))))) → P83 t_3) → (if a1 = 0 then (P83 (I_2.1 0 1)) else P83 0))))) else (K (-1) I))))
theorem dyX11_change_0 : decode cX11_change 0 = .ok (.aload_n 0, 1) := by decide +kernel
theorem dyX11_change_1 : decode cX11_change 1 = .ok (.getfield 25, 3) := by decide +kernel
theorem dyX11_change_4 : decode cX11_change 4 = .ok (.getfield 144, 3) := by decide +kernel
theorem dyX11_change_7 : decode cX11_change 7 = .ok (.sipush 300, 3) := by decide +kernel
theorem dyX11_change_10 : decode cX11_change 10 = .ok (.if_icmp .gt 29, 3) := by decide +kernel
theorem dyX11_change_13 : decode cX11_change 13 = .ok (.aload_n 0, 1) := by decide +kernel
theorem dyX11_change_14 : decode cX11_change 14 = .ok (.getfield 35, 3) := by decide +kernel
theorem dyX11_change_17 : decode cX11_change 17 = .ok (.getfield 355, 3) := by decide +kernel
theorem dyX11_change_20 : decode cX11_change 20 = .ok (.sipush 3000, 3) := by decide +kernel
theorem dyX11_change_23 : decode cX11_change 23 = .ok (.if_icmp .ge 16, 3) := by decide +kernel
theorem dyX11_change_26 : decode cX11_change 26 = .ok (.aload_n 0, 1) := by decide +kernel
theorem dyX11_change_27 : decode cX11_change 27 = .ok (.getfield 67, 3) := by decide +kernel
theorem dyX11_change_30 : decode cX11_change 30 = .ok (.getfield 318, 3) := by decide +kernel
theorem dyX11_change_33 : decode cX11_change 33 = .ok (.sipush 3900, 3) := by decide +kernel
theorem dyX11_change_36 : decode cX11_change 36 = .ok (.if_icmp .lt 5, 3) := by decide +kernel
theorem dyX11_change_39 : decode cX11_change 39 = .ok (.iconst (-1), 1) := by decide +kernel
theorem dyX11_change_40 : decode cX11_change 40 = .ok (.ireturn, 1) := by decide +kernel
theorem dyX11_change_41 : decode cX11_change 41 = .ok (.aload_n 0, 1) := by decide +kernel
theorem dyX11_change_42 : decode cX11_change 42 = .ok (.getfield 25, 3) := by decide +kernel
theorem dyX11_change_45 : decode cX11_change 45 = .ok (.getfield 99, 3) := by decide +kernel
theorem dyX11_change_48 : decode cX11_change 48 = .ok (.aload_n 0, 1) := by decide +kernel
theorem dyX11_change_49 : decode cX11_change 49 = .ok (.getfield 25, 3) := by decide +kernel
theorem dyX11_change_52 : decode cX11_change 52 = .ok (.getfield 103, 3) := by decide +kernel
theorem dyX11_change_55 : decode cX11_change 55 = .ok (.aload_n 0, 1) := by decide +kernel
theorem dyX11_change_56 : decode cX11_change 56 = .ok (.getfield 25, 3) := by decide +kernel
theorem dyX11_change_59 : decode cX11_change 59 = .ok (.getfield 144, 3) := by decide +kernel
theorem dyX11_change_62 : decode cX11_change 62 = .ok (.invokevirtual 106, 3) := by decide +kernel
theorem dyX11_change_65 : decode cX11_change 65 = .ok (.ifCond .ne 5, 3) := by decide +kernel
theorem dyX11_change_68 : decode cX11_change 68 = .ok (.iconst (-1), 1) := by decide +kernel
theorem dyX11_change_69 : decode cX11_change 69 = .ok (.ireturn, 1) := by decide +kernel
theorem dyX11_change_70 : decode cX11_change 70 = .ok (.aload_n 0, 1) := by decide +kernel
theorem dyX11_change_71 : decode cX11_change 71 = .ok (.iload_n 1, 1) := by decide +kernel
theorem dyX11_change_72 : decode cX11_change 72 = .ok (.ifCond .eq 7, 3) := by decide +kernel
theorem dyX11_change_75 : decode cX11_change 75 = .ok (.iconst 0, 1) := by decide +kernel
theorem dyX11_change_76 : decode cX11_change 76 = .ok (.goto 7, 3) := by decide +kernel
theorem dyX11_change_79 : decode cX11_change 79 = .ok (.aload_n 0, 1) := by decide +kernel
theorem dyX11_change_80 : decode cX11_change 80 = .ok (.getfield 138, 3) := by decide +kernel
theorem dyX11_change_83 : decode cX11_change 83 = .ok (.putfield 138, 3) := by decide +kernel
theorem dyX11_change_86 : decode cX11_change 86 = .ok (.aload_n 0, 1) := by decide +kernel
theorem dyX11_change_87 : decode cX11_change 87 = .ok (.dup, 1) := by decide +kernel
theorem dyX11_change_88 : decode cX11_change 88 = .ok (.getfield 309, 3) := by decide +kernel
theorem dyX11_change_91 : decode cX11_change 91 = .ok (.iconst 1, 1) := by decide +kernel
theorem dyX11_change_92 : decode cX11_change 92 = .ok (.iadd, 1) := by decide +kernel
theorem dyX11_change_93 : decode cX11_change 93 = .ok (.putfield 309, 3) := by decide +kernel
theorem dyX11_change_96 : decode cX11_change 96 = .ok (.aload_n 0, 1) := by decide +kernel
theorem dyX11_change_97 : decode cX11_change 97 = .ok (.getfield 35, 3) := by decide +kernel
theorem dyX11_change_100 : decode cX11_change 100 = .ok (.getfield 355, 3) := by decide +kernel
theorem dyX11_change_103 : decode cX11_change 103 = .ok (.istore_n 2, 1) := by decide +kernel
theorem dyX11_change_104 : decode cX11_change 104 = .ok (.aload_n 0, 1) := by decide +kernel
theorem dyX11_change_105 : decode cX11_change 105 = .ok (.getfield 44, 3) := by decide +kernel
theorem dyX11_change_108 : decode cX11_change 108 = .ok (.invokevirtual 372, 3) := by decide +kernel
theorem dyX11_change_111 : decode cX11_change 111 = .ok (.istore_n 3, 1) := by decide +kernel
theorem dyX11_change_112 : decode cX11_change 112 = .ok (.aload_n 0, 1) := by decide +kernel
theorem dyX11_change_113 : decode cX11_change 113 = .ok (.getfield 53, 3) := by decide +kernel
theorem dyX11_change_116 : decode cX11_change 116 = .ok (.aload_n 0, 1) := by decide +kernel
theorem dyX11_change_117 : decode cX11_change 117 = .ok (.invokevirtual 126, 3) := by decide +kernel
theorem dyX11_change_120 : decode cX11_change 120 = .ok (.aload_n 0, 1) := by decide +kernel
theorem dyX11_change_121 : decode cX11_change 121 = .ok (.getfield 25, 3) := by decide +kernel
theorem dyX11_change_124 : decode cX11_change 124 = .ok (.aload_n 0, 1) := by decide +kernel
theorem dyX11_change_125 : decode cX11_change 125 = .ok (.getfield 309, 3) := by decide +kernel
theorem dyX11_change_128 : decode cX11_change 128 = .ok (.invokevirtual 375, 3) := by decide +kernel
theorem dyX11_change_131 : decode cX11_change 131 = .ok (.istore 4, 2) := by decide +kernel
theorem dyX11_change_133 : decode cX11_change 133 = .ok (.iload 4, 2) := by decide +kernel
theorem dyX11_change_135 : decode cX11_change 135 = .ok (.ifCond .eq 20, 3) := by decide +kernel
theorem dyX11_change_138 : decode cX11_change 138 = .ok (.aload_n 0, 1) := by decide +kernel
theorem dyX11_change_139 : decode cX11_change 139 = .ok (.getfield 25, 3) := by decide +kernel
theorem dyX11_change_142 : decode cX11_change 142 = .ok (.aload_n 0, 1) := by decide +kernel
theorem dyX11_change_143 : decode cX11_change 143 = .ok (.getfield 53, 3) := by decide +kernel
theorem dyX11_change_146 : decode cX11_change 146 = .ok (.invokevirtual 379, 3) := by decide +kernel
theorem dyX11_change_149 : decode cX11_change 149 = .ok (.invokevirtual 112, 3) := by decide +kernel
theorem dyX11_change_152 : decode cX11_change 152 = .ok (.goto 22, 3) := by decide +kernel
theorem dyX11_change_155 : decode cX11_change 155 = .ok (.aload_n 0, 1) := by decide +kernel
theorem dyX11_change_156 : decode cX11_change 156 = .ok (.getfield 35, 3) := by decide +kernel
theorem dyX11_change_159 : decode cX11_change 159 = .ok (.iload_n 2, 1) := by decide +kernel
theorem dyX11_change_160 : decode cX11_change 160 = .ok (.putfield 355, 3) := by decide +kernel
theorem dyX11_change_163 : decode cX11_change 163 = .ok (.aload_n 0, 1) := by decide +kernel
theorem dyX11_change_164 : decode cX11_change 164 = .ok (.getfield 25, 3) := by decide +kernel
theorem dyX11_change_167 : decode cX11_change 167 = .ok (.aload_n 0, 1) := by decide +kernel
theorem dyX11_change_168 : decode cX11_change 168 = .ok (.invokevirtual 126, 3) := by decide +kernel
theorem dyX11_change_171 : decode cX11_change 171 = .ok (.invokevirtual 382, 3) := by decide +kernel
theorem dyX11_change_174 : decode cX11_change 174 = .ok (.aload_n 0, 1) := by decide +kernel
theorem dyX11_change_175 : decode cX11_change 175 = .ok (.iload 4, 2) := by decide +kernel
theorem dyX11_change_177 : decode cX11_change 177 = .ok (.ifCond .eq 15, 3) := by decide +kernel
theorem dyX11_change_180 : decode cX11_change 180 = .ok (.aload_n 0, 1) := by decide +kernel
theorem dyX11_change_181 : decode cX11_change 181 = .ok (.getfield 35, 3) := by decide +kernel
theorem dyX11_change_184 : decode cX11_change 184 = .ok (.getfield 355, 3) := by decide +kernel
theorem dyX11_change_187 : decode cX11_change 187 = .ok (.iload_n 2, 1) := by decide +kernel
theorem dyX11_change_188 : decode cX11_change 188 = .ok (.isub, 1) := by decide +kernel
theorem dyX11_change_189 : decode cX11_change 189 = .ok (.goto 4, 3) := by decide +kernel
theorem dyX11_change_192 : decode cX11_change 192 = .ok (.iconst 0, 1) := by decide +kernel
theorem dyX11_change_193 : decode cX11_change 193 = .ok (.invokevirtual 385, 3) := by decide +kernel
theorem dyX11_change_196 : decode cX11_change 196 = .ok (.iload 4, 2) := by decide +kernel
theorem dyX11_change_198 : decode cX11_change 198 = .ok (.ifCond .eq 24, 3) := by decide +kernel
theorem dyX11_change_201 : decode cX11_change 201 = .ok (.aload_n 0, 1) := by decide +kernel
theorem dyX11_change_202 : decode cX11_change 202 = .ok (.aload_n 0, 1) := by decide +kernel
theorem dyX11_change_203 : decode cX11_change 203 = .ok (.getfield 25, 3) := by decide +kernel
theorem dyX11_change_206 : decode cX11_change 206 = .ok (.aload_n 0, 1) := by decide +kernel
theorem dyX11_change_207 : decode cX11_change 207 = .ok (.getfield 309, 3) := by decide +kernel
theorem dyX11_change_210 : decode cX11_change 210 = .ok (.invokevirtual 134, 3) := by decide +kernel
theorem dyX11_change_213 : decode cX11_change 213 = .ok (.aload_n 0, 1) := by decide +kernel
theorem dyX11_change_214 : decode cX11_change 214 = .ok (.invokevirtual 388, 3) := by decide +kernel
theorem dyX11_change_217 : decode cX11_change 217 = .ok (.aload_n 0, 1) := by decide +kernel
theorem dyX11_change_218 : decode cX11_change 218 = .ok (.iload_n 3, 1) := by decide +kernel
theorem dyX11_change_219 : decode cX11_change 219 = .ok (.invokevirtual 391, 3) := by decide +kernel
theorem dyX11_change_222 : decode cX11_change 222 = .ok (.aload_n 0, 1) := by decide +kernel
theorem dyX11_change_223 : decode cX11_change 223 = .ok (.invokevirtual 394, 3) := by decide +kernel
theorem dyX11_change_226 : decode cX11_change 226 = .ok (.iload 4, 2) := by decide +kernel
theorem dyX11_change_228 : decode cX11_change 228 = .ok (.ifCond .eq 7, 3) := by decide +kernel
theorem dyX11_change_231 : decode cX11_change 231 = .ok (.iconst 0, 1) := by decide +kernel
theorem dyX11_change_232 : decode cX11_change 232 = .ok (.goto 4, 3) := by decide +kernel
theorem dyX11_change_235 : decode cX11_change 235 = .ok (.iconst 1, 1) := by decide +kernel
theorem dyX11_change_236 : decode cX11_change 236 = .ok (.ireturn, 1) := by decide +kernel
theorem zsg_yX11_change : yX11_change.cls = RX11 ∧ yX11_change.cls ≠ "java/lang/invoke/MethodHandle" ∧ yX11_change.cls ≠ "java/lang/invoke/VarHandle" ∧ (parseMethodDescriptor yX11_change.desc).map (fun d => d.parameters.length) = some 1 := by decide +kernel
set_option maxRecDepth 20000 in
theorem c_Desk_change {l : Launch} {D : va_G} {B : Nat} {cA : Nat → ClassId} {ad : Nat → Nat} {S : List zC} (hS : zOkX S) {a1 : Int32} {I : zI} {K : Int32 → zI → Prop}  (h : w_Desk_change a1 I K) : Met l yX11_change (zws yX11_change cX11_change 5 (some .int)) (zrm 17 570) (zPc D B cA ad [.ref (B + 0), .int a1] S I) (zQc D B cA (zqI S K)) 0 0 (fun q => B ≤ q) := by
  refine zm_of (cc := cX11_change) (maxL := 5) (ret := (some .int)) (by decide +kernel) rfl (Nat.le_of_ble_eq_true rfl) trivial ?_
  intro p e s m args below meth c C _
  unfold w_Desk_change at h
  show zX p l e (zrm 17 570) s m args below meth c (MQ below (zQc D B cA (zqI S K)) args s 0 0 (fun q => B ≤ q)) D B cA 5 0 0 S I [(0, .ref (B + 0)), (1, .int a1)] [] 0
  refine zr_aload_n C dyX11_change_0 rfl 0 rfl ?_
  refine zg_11_25 C hS dyX11_change_1 ?_
  refine zg_11_144 C (zIsMoment.of hS zit_4) dyX11_change_4 ?_
  refine zr_sipush C dyX11_change_7 zc_s_300 ?_
  refine zr_icmp_gt C dyX11_change_10 (tgt := 39) (by decide) (fun hc_32 => ?_) (fun hc_32 => ?_)
  · replace h := zif_pos hc_32 h
    refine zr_iconst C dyX11_change_39 zc_i_m1 ?_
    exact zr_iret C rfl dyX11_change_40 ⟨rfl, _, rfl, h⟩
  · replace h := zif_neg hc_32 h
    refine zr_aload_n C dyX11_change_13 rfl 0 rfl ?_
    refine zg_11_35 C hS dyX11_change_14 ?_
    refine zg_11_355 C hS dyX11_change_17 ?_
    refine zr_sipush C dyX11_change_20 zc_s_3000 ?_
    refine zr_icmp_ge C dyX11_change_23 (tgt := 39) (by decide) (fun hc_31 => ?_) (fun hc_31 => ?_)
    · replace h := zif_pos hc_31 h
      refine zr_iconst C dyX11_change_39 zc_i_m1 ?_
      exact zr_iret C rfl dyX11_change_40 ⟨rfl, _, rfl, h⟩
    · replace h := zif_neg hc_31 h
      refine zr_aload_n C dyX11_change_26 rfl 0 rfl ?_
      refine zg_11_67 C hS dyX11_change_27 ?_
      refine zg_11_318 C hS dyX11_change_30 ?_
      refine zr_sipush C dyX11_change_33 zc_s_3900 ?_
      refine zr_icmp_lt C dyX11_change_36 (tgt := 41) (by decide) (fun hc_30 => ?_) (fun hc_30 => ?_)
      · replace h := zif_pos hc_30 h
        refine zr_aload_n C dyX11_change_41 rfl 0 rfl ?_
        refine zg_11_25 C hS dyX11_change_42 ?_
        refine zg_11_99 C (zIsMoment.of hS zit_4) dyX11_change_45 ?_
        refine zr_aload_n C dyX11_change_48 rfl 0 rfl ?_
        refine zg_11_25 C hS dyX11_change_49 ?_
        refine zg_11_103 C (zIsMoment.of hS zit_4) dyX11_change_52 ?_
        refine zr_aload_n C dyX11_change_55 rfl 0 rfl ?_
        refine zg_11_25 C hS dyX11_change_56 ?_
        refine zg_11_144 C (zIsMoment.of hS zit_4) dyX11_change_59 ?_
        refine zv_11_106 C hS ((zIsMoment.of hS zit_4).2.2.1) ((zIsMoment.of hS zit_4).2.1) (st := []) h ⟨Nat.le_of_ble_eq_true rfl, Nat.le_of_ble_eq_true rfl⟩ (Nat.le_of_ble_eq_true rfl) dyX11_change_62 (fun r_1 I_2 h => ?_)
        refine zr_if_ne C dyX11_change_65 (tgt := 70) (by decide) (fun hc_29 => ?_) (fun hc_29 => ?_)
        · replace h := zif_neg hc_29 h
          refine zr_aload_n C dyX11_change_70 rfl 0 rfl ?_
          refine zr_iload_n C dyX11_change_71 rfl 1 rfl ?_
          refine zjn (h (fun (t_3 : Int32) => zX p l e (zrm 17 570) s m args below meth c (MQ below (zQc D B cA (zqI S K)) args s 0 0 (fun q => B ≤ q)) D B cA 5 0 0 S I_2 [(0, .ref (B + 0))] [.int t_3, .ref (B + 0)] 83) (fun t_3 h => ?_)) (fun h => ?_)
          · refine zp_11_138 C hS dyX11_change_83 ?_
            refine zn_mem C (fun I_4 eI_4 => ?_)
            replace h := h I_4 eI_4
            refine zr_aload_n C dyX11_change_86 rfl 0 rfl ?_
            refine zr_dup C dyX11_change_87 rfl ?_
            refine zg_11_309 C hS dyX11_change_88 ?_
            refine zr_iconst C dyX11_change_91 zc_i_1 ?_
            refine zr_iadd C dyX11_change_92 ?_
            refine zp_11_309 C hS dyX11_change_93 ?_
            refine zn_mem C (fun I_5 eI_5 => ?_)
            replace h := h I_5 eI_5
            refine zr_aload_n C dyX11_change_96 rfl 0 rfl ?_
            refine zg_11_35 C hS dyX11_change_97 ?_
            refine zg_11_355 C hS dyX11_change_100 ?_
            refine zn_istore_n C (fun v2_6 => [(2, .int v2_6), (0, .ref (B + 0))]) dyX11_change_103 rfl (Nat.le_of_ble_eq_true rfl) (fun _ => rfl) (fun v2_6 ev2_6 => ?_)
            replace h := h v2_6 ev2_6
            refine zr_aload_n C dyX11_change_104 rfl 1 rfl ?_
            refine zg_11_44 C hS dyX11_change_105 ?_
            refine zv_11_372 C hS (st := []) h ⟨Nat.le_of_ble_eq_true rfl, Nat.le_of_ble_eq_true rfl⟩ (Nat.le_of_ble_eq_true rfl) dyX11_change_108 (fun r_7 h => ?_)
            refine zr_istore_n C dyX11_change_111 rfl (Nat.le_of_ble_eq_true rfl) (lv2 := [(3, .int r_7), (2, .int v2_6), (0, .ref (B + 0))]) rfl ?_
            refine zr_aload_n C dyX11_change_112 rfl 2 rfl ?_
            refine zg_11_53 C hS dyX11_change_113 ?_
            refine zr_aload_n C dyX11_change_116 rfl 2 rfl ?_
            refine zv_11_126 C hS (st := [.ref (B + 64)]) h ⟨Nat.le_of_ble_eq_true rfl, Nat.le_of_ble_eq_true rfl⟩ (Nat.le_of_ble_eq_true rfl) dyX11_change_117 (fun r_8 hr_8 h => ?_)
            refine zr_aload_n C dyX11_change_120 rfl 2 rfl ?_
            refine zg_11_25 C hS dyX11_change_121 ?_
            refine zr_aload_n C dyX11_change_124 rfl 2 rfl ?_
            refine zg_11_309 C hS dyX11_change_125 ?_
            refine zv_11_375 C hS hr_8 (zIsMoment.of hS zit_4) (st := []) h ⟨Nat.le_of_ble_eq_true rfl, Nat.le_of_ble_eq_true rfl⟩ (Nat.le_of_ble_eq_true rfl) dyX11_change_128 (fun r_9 I_10 h => ?_)
            refine zr_istore C dyX11_change_131 (Nat.le_of_ble_eq_true rfl) (lv2 := [(4, .int r_9), (3, .int r_7), (2, .int v2_6), (0, .ref (B + 0))]) rfl ?_
            refine zr_iload C dyX11_change_133 0 rfl ?_
            refine zjn (h (fun (I_11 : zI) => zX p l e (zrm 17 570) s m args below meth c (MQ below (zQc D B cA (zqI S K)) args s 0 0 (fun q => B ≤ q)) D B cA 5 0 0 S I_11 [(4, .int r_9), (3, .int r_7), (2, .int v2_6), (0, .ref (B + 0))] [] 174) (fun I_11 h => ?_)) (fun h => ?_)
            · refine zr_aload_n C dyX11_change_174 rfl 3 rfl ?_
              refine zr_iload C dyX11_change_175 0 rfl ?_
              refine zjn (h (fun (t_12 : Int32) => zX p l e (zrm 17 570) s m args below meth c (MQ below (zQc D B cA (zqI S K)) args s 0 0 (fun q => B ≤ q)) D B cA 5 0 0 S I_11 [(4, .int r_9), (3, .int r_7), (0, .ref (B + 0))] [.int t_12, .ref (B + 0)] 193) (fun t_12 h => ?_)) (fun h => ?_)
              · refine zv_11_385 C hS (st := []) h ⟨Nat.le_of_ble_eq_true rfl, Nat.le_of_ble_eq_true rfl⟩ (Nat.le_of_ble_eq_true rfl) dyX11_change_193 (fun I_13 h => ?_)
                refine zr_iload C dyX11_change_196 0 rfl ?_
                refine zjn (h (fun (I_14 : zI) => zX p l e (zrm 17 570) s m args below meth c (MQ below (zQc D B cA (zqI S K)) args s 0 0 (fun q => B ≤ q)) D B cA 5 0 0 S I_14 [(4, .int r_9), (0, .ref (B + 0))] [] 222) (fun I_14 h => ?_)) (fun h => ?_)
                · refine zr_aload_n C dyX11_change_222 rfl 1 rfl ?_
                  refine zv_11_394 C hS (st := []) h ⟨Nat.le_of_ble_eq_true rfl, Nat.le_of_ble_eq_true rfl⟩ (Nat.le_of_ble_eq_true rfl) dyX11_change_223 (fun I_15 h => ?_)
                  refine zr_iload C dyX11_change_226 0 rfl ?_
                  refine zr_if_eq C dyX11_change_228 (tgt := 235) (by decide) (fun hc_16 => ?_) (fun hc_16 => ?_)
                  · replace h := zif_pos hc_16 h
                    refine zr_iconst C dyX11_change_235 zc_i_1 ?_
                    exact zr_iret C rfl dyX11_change_236 ⟨rfl, _, rfl, h⟩
                  · replace h := zif_neg hc_16 h
                    refine zr_iconst C dyX11_change_231 zc_i_0 ?_
                    refine zr_goto C dyX11_change_232 (tgt := 236) (by decide) ?_
                    exact zr_iret C rfl dyX11_change_236 ⟨rfl, _, rfl, h⟩
                refine zr_if_eq C dyX11_change_198 (tgt := 222) (by decide) (fun hc_20 => ?_) (fun hc_20 => ?_)
                · replace h := zif_pos hc_20 h
                  refine zr_sub (lv2 := [(4, .int r_9), (0, .ref (B + 0))]) [0, 2] rfl ?_
                  exact h
                · replace h := zif_neg hc_20 h
                  refine zr_aload_n C dyX11_change_201 rfl 2 rfl ?_
                  refine zr_aload_n C dyX11_change_202 rfl 2 rfl ?_
                  refine zg_11_25 C hS dyX11_change_203 ?_
                  refine zr_aload_n C dyX11_change_206 rfl 2 rfl ?_
                  refine zg_11_309 C hS dyX11_change_207 ?_
                  refine zv_11_134 C hS (zIsMoment.of hS zit_4) (st := []) h ⟨Nat.le_of_ble_eq_true rfl, Nat.le_of_ble_eq_true rfl⟩ (Nat.le_of_ble_eq_true rfl) dyX11_change_210 (fun I_17 h => ?_)
                  refine zr_aload_n C dyX11_change_213 rfl 2 rfl ?_
                  refine zv_11_388 C hS (st := []) h ⟨Nat.le_of_ble_eq_true rfl, Nat.le_of_ble_eq_true rfl⟩ (Nat.le_of_ble_eq_true rfl) dyX11_change_214 (fun I_18 h => ?_)
                  refine zr_aload_n C dyX11_change_217 rfl 2 rfl ?_
                  refine zr_iload_n C dyX11_change_218 rfl 1 rfl ?_
                  refine zv_11_391 C hS (st := []) h ⟨Nat.le_of_ble_eq_true rfl, Nat.le_of_ble_eq_true rfl⟩ (Nat.le_of_ble_eq_true rfl) dyX11_change_219 (fun I_19 h => ?_)
                  refine zr_sub (lv2 := [(4, .int r_9), (0, .ref (B + 0))]) [0, 2] rfl ?_
                  exact h
              refine zr_if_eq C dyX11_change_177 (tgt := 192) (by decide) (fun hc_21 => ?_) (fun hc_21 => ?_)
              · replace h := zif_pos hc_21 h
                refine zr_iconst C dyX11_change_192 zc_i_0 ?_
                refine zr_sub (lv2 := [(4, .int r_9), (3, .int r_7), (0, .ref (B + 0))]) [0, 1, 3] rfl ?_
                exact h
              · replace h := zif_neg hc_21 h
                refine zr_aload_n C dyX11_change_180 rfl 3 rfl ?_
                refine zg_11_35 C hS dyX11_change_181 ?_
                refine zg_11_355 C hS dyX11_change_184 ?_
                refine zr_iload_n C dyX11_change_187 rfl 2 rfl ?_
                refine zr_isub C dyX11_change_188 ?_
                refine zr_goto C dyX11_change_189 (tgt := 193) (by decide) ?_
                refine zr_sub (lv2 := [(4, .int r_9), (3, .int r_7), (0, .ref (B + 0))]) [0, 1, 3] rfl ?_
                exact h
            refine zr_if_eq C dyX11_change_135 (tgt := 155) (by decide) (fun hc_27 => ?_) (fun hc_27 => ?_)
            · replace h := zif_pos hc_27 h
              refine zr_aload_n C dyX11_change_155 rfl 3 rfl ?_
              refine zg_11_35 C hS dyX11_change_156 ?_
              refine zr_iload_n C dyX11_change_159 rfl 2 rfl ?_
              refine zp_11_355 C hS dyX11_change_160 ?_
              refine zn_mem C (fun I_22 eI_22 => ?_)
              replace h := h I_22 eI_22
              refine zr_aload_n C dyX11_change_163 rfl 3 rfl ?_
              refine zg_11_25 C hS dyX11_change_164 ?_
              refine zr_aload_n C dyX11_change_167 rfl 3 rfl ?_
              refine zv_11_126 C hS (st := [.ref (B + 4)]) h ⟨Nat.le_of_ble_eq_true rfl, Nat.le_of_ble_eq_true rfl⟩ (Nat.le_of_ble_eq_true rfl) dyX11_change_168 (fun r_23 hr_23 h => ?_)
              refine zv_11_382 C hS (zIsMoment.of hS zit_4) hr_23 (st := []) h ⟨Nat.le_of_ble_eq_true rfl, Nat.le_of_ble_eq_true rfl⟩ (Nat.le_of_ble_eq_true rfl) dyX11_change_171 (fun I_24 h => ?_)
              exact h
            · replace h := zif_neg hc_27 h
              refine zr_aload_n C dyX11_change_138 rfl 3 rfl ?_
              refine zg_11_25 C hS dyX11_change_139 ?_
              refine zr_aload_n C dyX11_change_142 rfl 3 rfl ?_
              refine zg_11_53 C hS dyX11_change_143 ?_
              refine zv_11_379 C hS (st := [.ref (B + 4)]) h ⟨Nat.le_of_ble_eq_true rfl, Nat.le_of_ble_eq_true rfl⟩ (Nat.le_of_ble_eq_true rfl) dyX11_change_146 (fun r_25 h => ?_)
              refine zv_11_112 C hS (zIsMoment.of hS zit_4) (st := []) h ⟨Nat.le_of_ble_eq_true rfl, Nat.le_of_ble_eq_true rfl⟩ (Nat.le_of_ble_eq_true rfl) dyX11_change_149 (fun I_26 h => ?_)
              refine zr_goto C dyX11_change_152 (tgt := 174) (by decide) ?_
              exact h
          refine zr_if_eq C dyX11_change_72 (tgt := 79) (by decide) (fun hc_28 => ?_) (fun hc_28 => ?_)
          · replace h := zif_pos hc_28 h
            refine zr_aload_n C dyX11_change_79 rfl 0 rfl ?_
            refine zg_11_138 C hS dyX11_change_80 ?_
            refine zr_sub (lv2 := [(0, .ref (B + 0))]) [0] rfl ?_
            exact h
          · replace h := zif_neg hc_28 h
            refine zr_iconst C dyX11_change_75 zc_i_0 ?_
            refine zr_goto C dyX11_change_76 (tgt := 83) (by decide) ?_
            refine zr_sub (lv2 := [(0, .ref (B + 0))]) [0] rfl ?_
            exact h
        · replace h := zif_pos hc_29 h
          refine zr_iconst C dyX11_change_68 zc_i_m1 ?_
          exact zr_iret C rfl dyX11_change_69 ⟨rfl, _, rfl, h⟩
      · replace h := zif_neg hc_30 h
        refine zr_iconst C dyX11_change_39 zc_i_m1 ?_
        exact zr_iret C rfl dyX11_change_40 ⟨rfl, _, rfl, h⟩
theorem zp_11_144 {p : Program} {l : Launch} {e : Env} {R : Room} {s : State} {m : MethodId} {args : Array Value} {below : List Frame} {meth : Method} {c : Code} {Q : State → Prop} {D : va_G} {B : Nat} {cA : Nat → ClassId} {ad : Nat → Nat} {cc : ByteArray} {nL : Nat} {ret : Option FieldType} {S : List zC} {I : zI} {lv : List (Nat × Value)} {st : List Value} {pc : Nat} (C : zCx p s m args meth c cc nL RX11 ret D B cA ad) {k : Nat} (hk : zIsMoment S k) {v : Int32} (hd : decode cc pc = .ok (.putfield 144, 3)) (kk : zX p l e R s m args below meth c Q D B cA nL 0 0 S (zu I k 1 v) lv st (pc + 3)) : zX p l e R s m args below meth c Q D B cA nL 0 0 S I lv (.int v :: .ref (B + k) :: st) pc :=
  zr_puti C (ci := 2) (Cn := RX2) (T := TX2) (N := 9) (k := k) (j := 1) (fs := [some (some (k + 1)), none, some (some (k + 3)), none, some (some (k + 14)), some (some (k + 16)), none, none, none]) rfl zin_2 (Nat.le_of_ble_eq_true rfl) rfl hk.1 rfl tyX2 tyX2_ok nmX2 (ty := .int) zpd_I rfl rfl rfl zk_fl_11_144 hd kk
theorem zv_11_147 {p : Program} {l : Launch} {e : Env} {R : Room} {s : State} {m : MethodId} {args : Array Value} {below : List Frame} {meth : Method} {c : Code} {Q : State → Prop} {D : va_G} {B : Nat} {cA : Nat → ClassId} {ad : Nat → Nat} {cc : ByteArray} {nL : Nat} {ret : Option FieldType} {S : List zC} {I : zI} {lv : List (Nat × Value)} {st : List Value} {pc : Nat} (C : zCx p s m args meth c cc nL RX11 ret D B cA ad) {K : zI → Prop} {xk : Nat} {xa1 : Nat} {xa1n : Nat} {xa2 : Int32} {xa3 : Int32} (hS : zOkX S) (xhk : zIsMoment S xk) (xha1 : zIsRow S xa1 xa1n) (h : w_Moment_append xk xa1 xa1n xa2 xa3 I K) (hR : 1 + 1 ≤ R.frames ∧ 8 + (5 + 11) + (22) ≤ R.locals) (hw : (st.map fun v => v.category).sum ≤ 8) (hd : decode cc pc = .ok (.invokevirtual 147, 3)) (kk : ∀ I2, K I2 → zX p l e R s m args below meth c Q D B cA nL 0 0 S I2 lv st (pc + 3)) : zX p l e R s m args below meth c Q D B cA nL 0 0 S I lv (.int xa3 :: .int xa2 :: .ref (B + xa1) :: .ref (B + xk) :: st) pc :=
  have hf : 0 ≤ R.cells ∧ 0 ≤ R.slots := ⟨Nat.zero_le _, Nat.zero_le _⟩
  zc_VqV C (ci := 2) (q := (RX2, TX2, 9)) (k := xk) (fs := [some (some (xk + 1)), none, some (some (xk + 3)), none, some (some (xk + 14)), some (some (xk + 16)), none, none, none]) (As := [.ref (B + xa1), .int xa2, .int xa3]) (st := st) rfl xhk.1 (c_Moment_append hS xhk xha1 h) (zgV zk_ml_11_147 zk_im_yX2_append zk_se_yX2_append zk_in_2 zk_cd_yX2_append) zsg_yX2_append hR rfl rfl hw hd hf kk
theorem zv_11_151 {p : Program} {l : Launch} {e : Env} {R : Room} {s : State} {m : MethodId} {args : Array Value} {below : List Frame} {meth : Method} {c : Code} {Q : State → Prop} {D : va_G} {B : Nat} {cA : Nat → ClassId} {ad : Nat → Nat} {cc : ByteArray} {nL : Nat} {ret : Option FieldType} {S : List zC} {I : zI} {lv : List (Nat × Value)} {st : List Value} {pc : Nat} (C : zCx p s m args meth c cc nL RX11 ret D B cA ad) {K : Int32 → zI → Prop} {xa1 : Int32} (hS : zOkX S)  (h : w_Desk_change xa1 I K) (hR : 17 + 1 ≤ R.frames ∧ 8 + (5 + 11) + (570) ≤ R.locals) (hw : (st.map fun v => v.category).sum ≤ 8) (hd : decode cc pc = .ok (.invokevirtual 151, 3)) (kk : ∀ v I2, K v I2 → zX p l e R s m args below meth c Q D B cA nL 0 0 S I2 lv (.int v :: st) (pc + 3)) : zX p l e R s m args below meth c Q D B cA nL 0 0 S I lv (.int xa1 :: .ref (B + 0) :: st) pc :=
  have hf : 0 ≤ R.cells ∧ 0 ≤ R.slots := ⟨Nat.zero_le _, Nat.zero_le _⟩
  zc_VqI C (ci := 11) (q := (RX11, TX11, 19)) (k := 0) (fs := [some (some 1), none, some (some 3), some (some 4), none, none, none, none, some (some 22), some (some 24), some (some 43), some (some 64), some (some 69), some (some 88), some (some 97), some (some 100), some (some 109), some (some 111), none]) (As := [.int xa1]) (st := st) rfl (hS _ _ zs_0) (c_Desk_change hS h) (zgV zk_ml_11_151 zk_im_yX11_change zk_se_yX11_change zk_in_11 zk_cd_yX11_change) zsg_yX11_change hR rfl rfl hw hd hf kk
def w_Desk_edit (a1 : Int32) (a2 : Int32) (I : zI) (K : Int32 → zI → Prop) : Prop :=
  w_Desk_now I (fun r_1 => (if a1 < 0 then (K (-1) I) else (if a2 < 0 then (K (-1) I) else (if (I.1 r_1 1) < a1 then (K (-1) I) else (if a2 ≤ ((I.1 r_1 1) - a1) then (∀ I_2, I_2 = (zu I 4 1 0) → w_Moment_append 4 (r_1 + 1) 300 0 a1 I_2 (fun I_3 => w_Moment_append 4 1 200 0 (I_3.1 0 1) I_3 (fun I_4 => w_Moment_append 4 (r_1 + 1) 300 (a1 + a2) (I_4.1 r_1 1) I_4 (fun I_5 => w_Desk_change 1 I_5 (fun r_6 I_7 => K r_6 I_7))))) else (K (-1) I))))))
theorem dyX11_edit_0 : decode cX11_edit 0 = .ok (.aload_n 0, 1) := by decide +kernel
theorem dyX11_edit_1 : decode cX11_edit 1 = .ok (.invokevirtual 126, 3) := by decide +kernel
theorem dyX11_edit_4 : decode cX11_edit 4 = .ok (.astore_n 3, 1) := by decide +kernel
theorem dyX11_edit_5 : decode cX11_edit 5 = .ok (.iload_n 1, 1) := by decide +kernel
theorem dyX11_edit_6 : decode cX11_edit 6 = .ok (.ifCond .lt 25, 3) := by decide +kernel
theorem dyX11_edit_9 : decode cX11_edit 9 = .ok (.iload_n 2, 1) := by decide +kernel
theorem dyX11_edit_10 : decode cX11_edit 10 = .ok (.ifCond .lt 21, 3) := by decide +kernel
theorem dyX11_edit_13 : decode cX11_edit 13 = .ok (.iload_n 1, 1) := by decide +kernel
theorem dyX11_edit_14 : decode cX11_edit 14 = .ok (.aload_n 3, 1) := by decide +kernel
theorem dyX11_edit_15 : decode cX11_edit 15 = .ok (.getfield 144, 3) := by decide +kernel
theorem dyX11_edit_18 : decode cX11_edit 18 = .ok (.if_icmp .gt 13, 3) := by decide +kernel
theorem dyX11_edit_21 : decode cX11_edit 21 = .ok (.iload_n 2, 1) := by decide +kernel
theorem dyX11_edit_22 : decode cX11_edit 22 = .ok (.aload_n 3, 1) := by decide +kernel
theorem dyX11_edit_23 : decode cX11_edit 23 = .ok (.getfield 144, 3) := by decide +kernel
theorem dyX11_edit_26 : decode cX11_edit 26 = .ok (.iload_n 1, 1) := by decide +kernel
theorem dyX11_edit_27 : decode cX11_edit 27 = .ok (.isub, 1) := by decide +kernel
theorem dyX11_edit_28 : decode cX11_edit 28 = .ok (.if_icmp .le 5, 3) := by decide +kernel
theorem dyX11_edit_31 : decode cX11_edit 31 = .ok (.iconst (-1), 1) := by decide +kernel
theorem dyX11_edit_32 : decode cX11_edit 32 = .ok (.ireturn, 1) := by decide +kernel
theorem dyX11_edit_33 : decode cX11_edit 33 = .ok (.aload_n 0, 1) := by decide +kernel
theorem dyX11_edit_34 : decode cX11_edit 34 = .ok (.getfield 25, 3) := by decide +kernel
theorem dyX11_edit_37 : decode cX11_edit 37 = .ok (.iconst 0, 1) := by decide +kernel
theorem dyX11_edit_38 : decode cX11_edit 38 = .ok (.putfield 144, 3) := by decide +kernel
theorem dyX11_edit_41 : decode cX11_edit 41 = .ok (.aload_n 0, 1) := by decide +kernel
theorem dyX11_edit_42 : decode cX11_edit 42 = .ok (.getfield 25, 3) := by decide +kernel
theorem dyX11_edit_45 : decode cX11_edit 45 = .ok (.aload_n 3, 1) := by decide +kernel
theorem dyX11_edit_46 : decode cX11_edit 46 = .ok (.getfield 103, 3) := by decide +kernel
theorem dyX11_edit_49 : decode cX11_edit 49 = .ok (.iconst 0, 1) := by decide +kernel
theorem dyX11_edit_50 : decode cX11_edit 50 = .ok (.iload_n 1, 1) := by decide +kernel
theorem dyX11_edit_51 : decode cX11_edit 51 = .ok (.invokevirtual 147, 3) := by decide +kernel
theorem dyX11_edit_54 : decode cX11_edit 54 = .ok (.aload_n 0, 1) := by decide +kernel
theorem dyX11_edit_55 : decode cX11_edit 55 = .ok (.getfield 25, 3) := by decide +kernel
theorem dyX11_edit_58 : decode cX11_edit 58 = .ok (.aload_n 0, 1) := by decide +kernel
theorem dyX11_edit_59 : decode cX11_edit 59 = .ok (.getfield 14, 3) := by decide +kernel
theorem dyX11_edit_62 : decode cX11_edit 62 = .ok (.iconst 0, 1) := by decide +kernel
theorem dyX11_edit_63 : decode cX11_edit 63 = .ok (.aload_n 0, 1) := by decide +kernel
theorem dyX11_edit_64 : decode cX11_edit 64 = .ok (.getfield 138, 3) := by decide +kernel
theorem dyX11_edit_67 : decode cX11_edit 67 = .ok (.invokevirtual 147, 3) := by decide +kernel
theorem dyX11_edit_70 : decode cX11_edit 70 = .ok (.aload_n 0, 1) := by decide +kernel
theorem dyX11_edit_71 : decode cX11_edit 71 = .ok (.getfield 25, 3) := by decide +kernel
theorem dyX11_edit_74 : decode cX11_edit 74 = .ok (.aload_n 3, 1) := by decide +kernel
theorem dyX11_edit_75 : decode cX11_edit 75 = .ok (.getfield 103, 3) := by decide +kernel
theorem dyX11_edit_78 : decode cX11_edit 78 = .ok (.iload_n 1, 1) := by decide +kernel
theorem dyX11_edit_79 : decode cX11_edit 79 = .ok (.iload_n 2, 1) := by decide +kernel
theorem dyX11_edit_80 : decode cX11_edit 80 = .ok (.iadd, 1) := by decide +kernel
theorem dyX11_edit_81 : decode cX11_edit 81 = .ok (.aload_n 3, 1) := by decide +kernel
theorem dyX11_edit_82 : decode cX11_edit 82 = .ok (.getfield 144, 3) := by decide +kernel
theorem dyX11_edit_85 : decode cX11_edit 85 = .ok (.invokevirtual 147, 3) := by decide +kernel
theorem dyX11_edit_88 : decode cX11_edit 88 = .ok (.aload_n 0, 1) := by decide +kernel
theorem dyX11_edit_89 : decode cX11_edit 89 = .ok (.iconst 1, 1) := by decide +kernel
theorem dyX11_edit_90 : decode cX11_edit 90 = .ok (.invokevirtual 151, 3) := by decide +kernel
theorem dyX11_edit_93 : decode cX11_edit 93 = .ok (.ireturn, 1) := by decide +kernel
theorem zsg_yX11_edit : yX11_edit.cls = RX11 ∧ yX11_edit.cls ≠ "java/lang/invoke/MethodHandle" ∧ yX11_edit.cls ≠ "java/lang/invoke/VarHandle" ∧ (parseMethodDescriptor yX11_edit.desc).map (fun d => d.parameters.length) = some 2 := by decide +kernel
set_option maxRecDepth 20000 in
theorem c_Desk_edit {l : Launch} {D : va_G} {B : Nat} {cA : Nat → ClassId} {ad : Nat → Nat} {S : List zC} (hS : zOkX S) {a1 : Int32} {a2 : Int32} {I : zI} {K : Int32 → zI → Prop}  (h : w_Desk_edit a1 a2 I K) : Met l yX11_edit (zws yX11_edit cX11_edit 4 (some .int)) (zrm 18 594) (zPc D B cA ad [.ref (B + 0), .int a1, .int a2] S I) (zQc D B cA (zqI S K)) 0 0 (fun q => B ≤ q) := by
  refine zm_of (cc := cX11_edit) (maxL := 4) (ret := (some .int)) (by decide +kernel) rfl (Nat.le_of_ble_eq_true rfl) trivial ?_
  intro p e s m args below meth c C _
  unfold w_Desk_edit at h
  show zX p l e (zrm 18 594) s m args below meth c (MQ below (zQc D B cA (zqI S K)) args s 0 0 (fun q => B ≤ q)) D B cA 4 0 0 S I [(0, .ref (B + 0)), (1, .int a1), (2, .int a2)] [] 0
  refine zr_aload_n C dyX11_edit_0 rfl 0 rfl ?_
  refine zv_11_126 C hS (st := []) h ⟨Nat.le_of_ble_eq_true rfl, Nat.le_of_ble_eq_true rfl⟩ (Nat.le_of_ble_eq_true rfl) dyX11_edit_1 (fun r_1 hr_1 h => ?_)
  refine zr_astore_n C dyX11_edit_4 rfl (Nat.le_of_ble_eq_true rfl) (lv2 := [(3, .ref (B + r_1)), (0, .ref (B + 0)), (1, .int a1), (2, .int a2)]) rfl ?_
  refine zr_iload_n C dyX11_edit_5 rfl 2 rfl ?_
  refine zr_if_lt C dyX11_edit_6 (tgt := 31) (by decide) (fun hc_11 => ?_) (fun hc_11 => ?_)
  · replace h := zif_pos hc_11 h
    refine zr_iconst C dyX11_edit_31 zc_i_m1 ?_
    exact zr_iret C rfl dyX11_edit_32 ⟨rfl, _, rfl, h⟩
  · replace h := zif_neg hc_11 h
    refine zr_iload_n C dyX11_edit_9 rfl 3 rfl ?_
    refine zr_if_lt C dyX11_edit_10 (tgt := 31) (by decide) (fun hc_10 => ?_) (fun hc_10 => ?_)
    · replace h := zif_pos hc_10 h
      refine zr_iconst C dyX11_edit_31 zc_i_m1 ?_
      exact zr_iret C rfl dyX11_edit_32 ⟨rfl, _, rfl, h⟩
    · replace h := zif_neg hc_10 h
      refine zr_iload_n C dyX11_edit_13 rfl 2 rfl ?_
      refine zr_aload_n C dyX11_edit_14 rfl 0 rfl ?_
      refine zg_11_144 C hr_1 dyX11_edit_15 ?_
      refine zr_icmp_gt C dyX11_edit_18 (tgt := 31) (by decide) (fun hc_9 => ?_) (fun hc_9 => ?_)
      · replace h := zif_pos hc_9 h
        refine zr_iconst C dyX11_edit_31 zc_i_m1 ?_
        exact zr_iret C rfl dyX11_edit_32 ⟨rfl, _, rfl, h⟩
      · replace h := zif_neg hc_9 h
        refine zr_iload_n C dyX11_edit_21 rfl 3 rfl ?_
        refine zr_aload_n C dyX11_edit_22 rfl 0 rfl ?_
        refine zg_11_144 C hr_1 dyX11_edit_23 ?_
        refine zr_iload_n C dyX11_edit_26 rfl 2 rfl ?_
        refine zr_isub C dyX11_edit_27 ?_
        refine zr_icmp_le C dyX11_edit_28 (tgt := 33) (by decide) (fun hc_8 => ?_) (fun hc_8 => ?_)
        · replace h := zif_pos hc_8 h
          refine zr_aload_n C dyX11_edit_33 rfl 1 rfl ?_
          refine zg_11_25 C hS dyX11_edit_34 ?_
          refine zr_iconst C dyX11_edit_37 zc_i_0 ?_
          refine zp_11_144 C (zIsMoment.of hS zit_4) dyX11_edit_38 ?_
          refine zn_mem C (fun I_2 eI_2 => ?_)
          replace h := h I_2 eI_2
          refine zr_aload_n C dyX11_edit_41 rfl 1 rfl ?_
          refine zg_11_25 C hS dyX11_edit_42 ?_
          refine zr_aload_n C dyX11_edit_45 rfl 0 rfl ?_
          refine zg_11_103 C hr_1 dyX11_edit_46 ?_
          refine zr_iconst C dyX11_edit_49 zc_i_0 ?_
          refine zr_iload_n C dyX11_edit_50 rfl 2 rfl ?_
          refine zv_11_147 C hS (zIsMoment.of hS zit_4) hr_1.2.1 (st := []) h ⟨Nat.le_of_ble_eq_true rfl, Nat.le_of_ble_eq_true rfl⟩ (Nat.le_of_ble_eq_true rfl) dyX11_edit_51 (fun I_3 h => ?_)
          refine zr_aload_n C dyX11_edit_54 rfl 1 rfl ?_
          refine zg_11_25 C hS dyX11_edit_55 ?_
          refine zr_aload_n C dyX11_edit_58 rfl 1 rfl ?_
          refine zg_11_14 C hS dyX11_edit_59 ?_
          refine zr_iconst C dyX11_edit_62 zc_i_0 ?_
          refine zr_aload_n C dyX11_edit_63 rfl 1 rfl ?_
          refine zg_11_138 C hS dyX11_edit_64 ?_
          refine zv_11_147 C hS (zIsMoment.of hS zit_4) (zIsRow.of hS zir_1) (st := []) h ⟨Nat.le_of_ble_eq_true rfl, Nat.le_of_ble_eq_true rfl⟩ (Nat.le_of_ble_eq_true rfl) dyX11_edit_67 (fun I_4 h => ?_)
          refine zr_aload_n C dyX11_edit_70 rfl 1 rfl ?_
          refine zg_11_25 C hS dyX11_edit_71 ?_
          refine zr_aload_n C dyX11_edit_74 rfl 0 rfl ?_
          refine zg_11_103 C hr_1 dyX11_edit_75 ?_
          refine zr_iload_n C dyX11_edit_78 rfl 2 rfl ?_
          refine zr_iload_n C dyX11_edit_79 rfl 3 rfl ?_
          refine zr_iadd C dyX11_edit_80 ?_
          refine zr_aload_n C dyX11_edit_81 rfl 0 rfl ?_
          refine zg_11_144 C hr_1 dyX11_edit_82 ?_
          refine zv_11_147 C hS (zIsMoment.of hS zit_4) hr_1.2.1 (st := []) h ⟨Nat.le_of_ble_eq_true rfl, Nat.le_of_ble_eq_true rfl⟩ (Nat.le_of_ble_eq_true rfl) dyX11_edit_85 (fun I_5 h => ?_)
          refine zr_aload_n C dyX11_edit_88 rfl 1 rfl ?_
          refine zr_iconst C dyX11_edit_89 zc_i_1 ?_
          refine zv_11_151 C hS (st := []) h ⟨Nat.le_of_ble_eq_true rfl, Nat.le_of_ble_eq_true rfl⟩ (Nat.le_of_ble_eq_true rfl) dyX11_edit_90 (fun r_6 I_7 h => ?_)
          exact zr_iret C rfl dyX11_edit_93 ⟨rfl, _, rfl, h⟩
        · replace h := zif_neg hc_8 h
          refine zr_iconst C dyX11_edit_31 zc_i_m1 ?_
          exact zr_iret C rfl dyX11_edit_32 ⟨rfl, _, rfl, h⟩
theorem zv_11_166 {p : Program} {l : Launch} {e : Env} {R : Room} {s : State} {m : MethodId} {args : Array Value} {below : List Frame} {meth : Method} {c : Code} {Q : State → Prop} {D : va_G} {B : Nat} {cA : Nat → ClassId} {ad : Nat → Nat} {cc : ByteArray} {nL : Nat} {ret : Option FieldType} {S : List zC} {I : zI} {lv : List (Nat × Value)} {st : List Value} {pc : Nat} (C : zCx p s m args meth c cc nL RX11 ret D B cA ad) {K : Int32 → Prop} {xk : Nat} {xn : Nat} {xa1 : Int32} (hS : zOkX S) (xhk : zIsRow S xk xn) (h : w_Row_get xk xn xa1 I K) (hR : 0 + 1 ≤ R.frames ∧ 8 + (2 + 11) + (0) ≤ R.locals) (hw : (st.map fun v => v.category).sum ≤ 8) (hd : decode cc pc = .ok (.invokevirtual 166, 3)) (kk : ∀ v, K v → zX p l e R s m args below meth c Q D B cA nL 0 0 S I lv (.int v :: st) (pc + 3)) : zX p l e R s m args below meth c Q D B cA nL 0 0 S I lv (.int xa1 :: .ref (B + xk) :: st) pc :=
  have hf : 0 ≤ R.cells ∧ 0 ≤ R.slots := ⟨Nat.zero_le _, Nat.zero_le _⟩
  zc_VpI C (ci := 6) (q := (RX6, TX6, 1)) (k := xk) (fs := [some (some (xk + 1))]) (As := [.int xa1]) (st := st) rfl xhk.1 (c_Row_get hS xhk h) (zgV zk_ml_11_166 zk_im_yX6_get zk_se_yX6_get zk_in_6 zk_cd_yX6_get) zsg_yX6_get hR rfl rfl hw hd hf kk
theorem zv_11_439 {p : Program} {l : Launch} {e : Env} {R : Room} {s : State} {m : MethodId} {args : Array Value} {below : List Frame} {meth : Method} {c : Code} {Q : State → Prop} {D : va_G} {B : Nat} {cA : Nat → ClassId} {ad : Nat → Nat} {cc : ByteArray} {nL : Nat} {ret : Option FieldType} {S : List zC} {I : zI} {lv : List (Nat × Value)} {st : List Value} {pc : Nat} (C : zCx p s m args meth c cc nL RX11 ret D B cA ad) {K : Int32 → Prop} {xa0 : Int32} (hS : zOkX S)  (h : w_Tokens_isLetter xa0 I K) (hR : 0 + 1 ≤ R.frames ∧ 8 + (1 + 11) + (0) ≤ R.locals) (hw : (st.map fun v => v.category).sum ≤ 8) (hd : decode cc pc = .ok (.invokestatic 439, 3)) (kk : ∀ v, K v → zX p l e R s m args below meth c Q D B cA nL 0 0 S I lv (.int v :: st) (pc + 3)) : zX p l e R s m args below meth c Q D B cA nL 0 0 S I lv (.int xa0 :: st) pc :=
  have hf : 0 ≤ R.cells ∧ 0 ≤ R.slots := ⟨Nat.zero_le _, Nat.zero_le _⟩
  zc_SpI C (As := [.int xa0]) (st := st) (c_Tokens_isLetter hS h) (zgM zk_cd_yX8_isLetter) zk_ml_11_439 zk_st_yX8_isLetter zk_in_8 zsg_yX8_isLetter hR rfl rfl hw hd hf kk
def w_Desk_tapeIsName  (I : zI) (K : Int32 → Prop) : Prop :=
  ∀ (P2 : Int32 → Prop), (∀ (v1_1 : Int32), ((if (I.1 0 1) ≤ v1_1 then (if (I.1 0 1) < 1 then K 0 else (if 8 < (I.1 0 1) then K 0 else K 1)) else (w_Row_get 1 200 v1_1 I (fun r_4 => w_Tokens_isLetter r_4 I (fun r_5 => (if r_5 = 0 then K 0 else (∀ v1_6, v1_6 = (v1_1 + 1) → P2 v1_6))))))) → P2 v1_1) → P2 0
theorem dyX11_tapeIsName_0 : decode cX11_tapeIsName 0 = .ok (.iconst 0, 1) := by decide +kernel
theorem dyX11_tapeIsName_1 : decode cX11_tapeIsName 1 = .ok (.istore_n 1, 1) := by decide +kernel
theorem dyX11_tapeIsName_2 : decode cX11_tapeIsName 2 = .ok (.iload_n 1, 1) := by decide +kernel
theorem dyX11_tapeIsName_3 : decode cX11_tapeIsName 3 = .ok (.aload_n 0, 1) := by decide +kernel
theorem dyX11_tapeIsName_4 : decode cX11_tapeIsName 4 = .ok (.getfield 138, 3) := by decide +kernel
theorem dyX11_tapeIsName_7 : decode cX11_tapeIsName 7 = .ok (.if_icmp .ge 25, 3) := by decide +kernel
theorem dyX11_tapeIsName_10 : decode cX11_tapeIsName 10 = .ok (.aload_n 0, 1) := by decide +kernel
theorem dyX11_tapeIsName_11 : decode cX11_tapeIsName 11 = .ok (.getfield 14, 3) := by decide +kernel
theorem dyX11_tapeIsName_14 : decode cX11_tapeIsName 14 = .ok (.iload_n 1, 1) := by decide +kernel
theorem dyX11_tapeIsName_15 : decode cX11_tapeIsName 15 = .ok (.invokevirtual 166, 3) := by decide +kernel
theorem dyX11_tapeIsName_18 : decode cX11_tapeIsName 18 = .ok (.invokestatic 439, 3) := by decide +kernel
theorem dyX11_tapeIsName_21 : decode cX11_tapeIsName 21 = .ok (.ifCond .ne 5, 3) := by decide +kernel
theorem dyX11_tapeIsName_24 : decode cX11_tapeIsName 24 = .ok (.iconst 0, 1) := by decide +kernel
theorem dyX11_tapeIsName_25 : decode cX11_tapeIsName 25 = .ok (.ireturn, 1) := by decide +kernel
theorem dyX11_tapeIsName_26 : decode cX11_tapeIsName 26 = .ok (.iinc 1 1, 3) := by decide +kernel
theorem dyX11_tapeIsName_29 : decode cX11_tapeIsName 29 = .ok (.goto (-27), 3) := by decide +kernel
theorem dyX11_tapeIsName_32 : decode cX11_tapeIsName 32 = .ok (.aload_n 0, 1) := by decide +kernel
theorem dyX11_tapeIsName_33 : decode cX11_tapeIsName 33 = .ok (.getfield 138, 3) := by decide +kernel
theorem dyX11_tapeIsName_36 : decode cX11_tapeIsName 36 = .ok (.iconst 1, 1) := by decide +kernel
theorem dyX11_tapeIsName_37 : decode cX11_tapeIsName 37 = .ok (.if_icmp .lt 16, 3) := by decide +kernel
theorem dyX11_tapeIsName_40 : decode cX11_tapeIsName 40 = .ok (.aload_n 0, 1) := by decide +kernel
theorem dyX11_tapeIsName_41 : decode cX11_tapeIsName 41 = .ok (.getfield 138, 3) := by decide +kernel
theorem dyX11_tapeIsName_44 : decode cX11_tapeIsName 44 = .ok (.bipush 8, 2) := by decide +kernel
theorem dyX11_tapeIsName_46 : decode cX11_tapeIsName 46 = .ok (.if_icmp .gt 7, 3) := by decide +kernel
theorem dyX11_tapeIsName_49 : decode cX11_tapeIsName 49 = .ok (.iconst 1, 1) := by decide +kernel
theorem dyX11_tapeIsName_50 : decode cX11_tapeIsName 50 = .ok (.goto 4, 3) := by decide +kernel
theorem dyX11_tapeIsName_53 : decode cX11_tapeIsName 53 = .ok (.iconst 0, 1) := by decide +kernel
theorem dyX11_tapeIsName_54 : decode cX11_tapeIsName 54 = .ok (.ireturn, 1) := by decide +kernel
theorem zsg_yX11_tapeIsName : yX11_tapeIsName.cls = RX11 ∧ yX11_tapeIsName.cls ≠ "java/lang/invoke/MethodHandle" ∧ yX11_tapeIsName.cls ≠ "java/lang/invoke/VarHandle" ∧ (parseMethodDescriptor yX11_tapeIsName.desc).map (fun d => d.parameters.length) = some 0 := by decide +kernel
set_option maxRecDepth 20000 in
theorem c_Desk_tapeIsName {l : Launch} {D : va_G} {B : Nat} {cA : Nat → ClassId} {ad : Nat → Nat} {S : List zC} (hS : zOkX S)  {I : zI} {K : Int32 → Prop}  (h : w_Desk_tapeIsName  I K) : Met l yX11_tapeIsName (zws yX11_tapeIsName cX11_tapeIsName 2 (some .boolean)) (zrm 1 21) (zPc D B cA ad [.ref (B + 0)] S I) (zQc D B cA (zpI S I K)) 0 0 (fun q => B ≤ q) := by
  refine zm_of (cc := cX11_tapeIsName) (maxL := 2) (ret := (some .boolean)) (by decide +kernel) rfl (Nat.le_of_ble_eq_true rfl) trivial ?_
  intro p e s m args below meth c C _
  unfold w_Desk_tapeIsName at h
  show zX p l e (zrm 1 21) s m args below meth c (MQ below (zQc D B cA (zpI S I K)) args s 0 0 (fun q => B ≤ q)) D B cA 2 0 0 S I [(0, .ref (B + 0))] [] 0
  refine zr_iconst C dyX11_tapeIsName_0 zc_i_0 ?_
  refine zr_istore_n C dyX11_tapeIsName_1 rfl (Nat.le_of_ble_eq_true rfl) (lv2 := [(1, .int 0), (0, .ref (B + 0))]) rfl ?_
  refine zjn (h (fun (v1_1 : Int32) => zX p l e (zrm 1 21) s m args below meth c (MQ below (zQc D B cA (zpI S I K)) args s 0 0 (fun q => B ≤ q)) D B cA 2 0 0 S I [(1, .int v1_1), (0, .ref (B + 0))] [] 2) (fun v1_1 h => ?_)) (fun h => ?_)
  · refine zr_iload_n C dyX11_tapeIsName_2 rfl 0 rfl ?_
    refine zr_aload_n C dyX11_tapeIsName_3 rfl 1 rfl ?_
    refine zg_11_138 C hS dyX11_tapeIsName_4 ?_
    refine zr_icmp_ge C dyX11_tapeIsName_7 (tgt := 32) (by decide) (fun hc_8 => ?_) (fun hc_8 => ?_)
    · replace h := zif_pos hc_8 h
      refine zr_aload_n C dyX11_tapeIsName_32 rfl 1 rfl ?_
      refine zg_11_138 C hS dyX11_tapeIsName_33 ?_
      refine zr_iconst C dyX11_tapeIsName_36 zc_i_1 ?_
      refine zr_icmp_lt C dyX11_tapeIsName_37 (tgt := 53) (by decide) (fun hc_3 => ?_) (fun hc_3 => ?_)
      · replace h := zif_pos hc_3 h
        refine zr_iconst C dyX11_tapeIsName_53 zc_i_0 ?_
        exact zr_zret C rfl (zb.nar zb_0) dyX11_tapeIsName_54 ⟨rfl, rfl, _, rfl, h⟩
      · replace h := zif_neg hc_3 h
        refine zr_aload_n C dyX11_tapeIsName_40 rfl 1 rfl ?_
        refine zg_11_138 C hS dyX11_tapeIsName_41 ?_
        refine zr_bipush C dyX11_tapeIsName_44 zc_b_8 ?_
        refine zr_icmp_gt C dyX11_tapeIsName_46 (tgt := 53) (by decide) (fun hc_2 => ?_) (fun hc_2 => ?_)
        · replace h := zif_pos hc_2 h
          refine zr_iconst C dyX11_tapeIsName_53 zc_i_0 ?_
          exact zr_zret C rfl (zb.nar zb_0) dyX11_tapeIsName_54 ⟨rfl, rfl, _, rfl, h⟩
        · replace h := zif_neg hc_2 h
          refine zr_iconst C dyX11_tapeIsName_49 zc_i_1 ?_
          refine zr_goto C dyX11_tapeIsName_50 (tgt := 54) (by decide) ?_
          exact zr_zret C rfl (zb.nar zb_1) dyX11_tapeIsName_54 ⟨rfl, rfl, _, rfl, h⟩
    · replace h := zif_neg hc_8 h
      refine zr_aload_n C dyX11_tapeIsName_10 rfl 1 rfl ?_
      refine zg_11_14 C hS dyX11_tapeIsName_11 ?_
      refine zr_iload_n C dyX11_tapeIsName_14 rfl 0 rfl ?_
      refine zv_11_166 C hS (zIsRow.of hS zir_1) (st := []) h ⟨Nat.le_of_ble_eq_true rfl, Nat.le_of_ble_eq_true rfl⟩ (Nat.le_of_ble_eq_true rfl) dyX11_tapeIsName_15 (fun r_4 h => ?_)
      refine zv_11_439 C hS (st := []) h ⟨Nat.le_of_ble_eq_true rfl, Nat.le_of_ble_eq_true rfl⟩ (Nat.le_of_ble_eq_true rfl) dyX11_tapeIsName_18 (fun r_5 h => ?_)
      refine zr_if_ne C dyX11_tapeIsName_21 (tgt := 26) (by decide) (fun hc_7 => ?_) (fun hc_7 => ?_)
      · replace h := zif_neg hc_7 h
        refine zn_iinc C (fun v1_6 => [(1, .int v1_6), (0, .ref (B + 0))]) dyX11_tapeIsName_26 0 rfl zc_i_1 (Nat.le_of_ble_eq_true rfl) (fun _ => rfl) (fun v1_6 ev1_6 => ?_)
        replace h := h v1_6 ev1_6
        refine zr_goto C dyX11_tapeIsName_29 (tgt := 2) (by decide) ?_
        exact h
      · replace h := zif_pos hc_7 h
        refine zr_iconst C dyX11_tapeIsName_24 zc_i_0 ?_
        exact zr_zret C rfl (zb.nar zb_0) dyX11_tapeIsName_25 ⟨rfl, rfl, _, rfl, h⟩
  exact h
theorem zg_11_155 {p : Program} {l : Launch} {e : Env} {R : Room} {s : State} {m : MethodId} {args : Array Value} {below : List Frame} {meth : Method} {c : Code} {Q : State → Prop} {D : va_G} {B : Nat} {cA : Nat → ClassId} {ad : Nat → Nat} {cc : ByteArray} {nL : Nat} {ret : Option FieldType} {S : List zC} {I : zI} {lv : List (Nat × Value)} {st : List Value} {pc : Nat} (C : zCx p s m args meth c cc nL RX11 ret D B cA ad) {k : Nat} (hk : zIsMoment S k) (hd : decode cc pc = .ok (.getfield 155, 3)) (kk : zX p l e R s m args below meth c Q D B cA nL 0 0 S I lv (.int (I.1 k 3) :: st) (pc + 3)) : zX p l e R s m args below meth c Q D B cA nL 0 0 S I lv (.ref (B + k) :: st) pc :=
  zr_geti C (ci := 2) (Cn := RX2) (T := TX2) (N := 9) (k := k) (j := 3) (fs := [some (some (k + 1)), none, some (some (k + 3)), none, some (some (k + 14)), some (some (k + 16)), none, none, none]) rfl zin_2 (Nat.le_of_ble_eq_true rfl) rfl hk.1 rfl zk_fl_11_155 hd kk
theorem zv_11_159 {p : Program} {l : Launch} {e : Env} {R : Room} {s : State} {m : MethodId} {args : Array Value} {below : List Frame} {meth : Method} {c : Code} {Q : State → Prop} {D : va_G} {B : Nat} {cA : Nat → ClassId} {ad : Nat → Nat} {cc : ByteArray} {nL : Nat} {ret : Option FieldType} {S : List zC} {I : zI} {lv : List (Nat × Value)} {st : List Value} {pc : Nat} (C : zCx p s m args meth c cc nL RX11 ret D B cA ad) {K : Int32 → Prop} {xk : Nat} {xa1 : Int32} (hS : zOkX S) (xhk : zIsTokens S xk) (h : w_Tokens_has xk xa1 I K) (hR : 0 + 1 ≤ R.frames ∧ 8 + (2 + 11) + (0) ≤ R.locals) (hw : (st.map fun v => v.category).sum ≤ 8) (hd : decode cc pc = .ok (.invokevirtual 159, 3)) (kk : ∀ v, K v → zX p l e R s m args below meth c Q D B cA nL 0 0 S I lv (.int v :: st) (pc + 3)) : zX p l e R s m args below meth c Q D B cA nL 0 0 S I lv (.int xa1 :: .ref (B + xk) :: st) pc :=
  have hf : 0 ≤ R.cells ∧ 0 ≤ R.slots := ⟨Nat.zero_le _, Nat.zero_le _⟩
  zc_VpI C (ci := 8) (q := (RX8, TX8, 6)) (k := xk) (fs := [some (some (xk + 1)), some (some (xk + 3)), some (some (xk + 5)), some (some (xk + 7)), some (some (xk + 9)), none]) (As := [.int xa1]) (st := st) rfl xhk.1 (c_Tokens_has hS xhk h) (zgV zk_ml_11_159 zk_im_yX8_has zk_se_yX8_has zk_in_8 zk_cd_yX8_has) zsg_yX8_has hR rfl rfl hw hd hf kk
theorem zg_11_163 {p : Program} {l : Launch} {e : Env} {R : Room} {s : State} {m : MethodId} {args : Array Value} {below : List Frame} {meth : Method} {c : Code} {Q : State → Prop} {D : va_G} {B : Nat} {cA : Nat → ClassId} {ad : Nat → Nat} {cc : ByteArray} {nL : Nat} {ret : Option FieldType} {S : List zC} {I : zI} {lv : List (Nat × Value)} {st : List Value} {pc : Nat} (C : zCx p s m args meth c cc nL RX11 ret D B cA ad) {k : Nat} (hk : zIsTokens S k) (hd : decode cc pc = .ok (.getfield 163, 3)) (kk : zX p l e R s m args below meth c Q D B cA nL 0 0 S I lv (.ref (B + (k + 1)) :: st) (pc + 3)) : zX p l e R s m args below meth c Q D B cA nL 0 0 S I lv (.ref (B + k) :: st) pc :=
  zr_getr C (ci := 8) (Cn := RX8) (T := TX8) (N := 6) (k := k) (j := 0) (fs := [some (some (k + 1)), some (some (k + 3)), some (some (k + 5)), some (some (k + 7)), some (some (k + 9)), none]) rfl zin_8 (Nat.le_of_ble_eq_true rfl) rfl hk.1 rfl zk_fl_11_163 hd kk
theorem zv_11_170 {p : Program} {l : Launch} {e : Env} {R : Room} {s : State} {m : MethodId} {args : Array Value} {below : List Frame} {meth : Method} {c : Code} {Q : State → Prop} {D : va_G} {B : Nat} {cA : Nat → ClassId} {ad : Nat → Nat} {cc : ByteArray} {nL : Nat} {ret : Option FieldType} {S : List zC} {I : zI} {lv : List (Nat × Value)} {st : List Value} {pc : Nat} (C : zCx p s m args meth c cc nL RX11 ret D B cA ad) {K : Int32 → Prop}  (hS : zOkX S)  (h : w_Desk_tapeIsName I K) (hR : 1 + 1 ≤ R.frames ∧ 8 + (2 + 11) + (21) ≤ R.locals) (hw : (st.map fun v => v.category).sum ≤ 8) (hd : decode cc pc = .ok (.invokevirtual 170, 3)) (kk : ∀ v, K v → zX p l e R s m args below meth c Q D B cA nL 0 0 S I lv (.int v :: st) (pc + 3)) : zX p l e R s m args below meth c Q D B cA nL 0 0 S I lv (.ref (B + 0) :: st) pc :=
  have hf : 0 ≤ R.cells ∧ 0 ≤ R.slots := ⟨Nat.zero_le _, Nat.zero_le _⟩
  zc_VpI C (ci := 11) (q := (RX11, TX11, 19)) (k := 0) (fs := [some (some 1), none, some (some 3), some (some 4), none, none, none, none, some (some 22), some (some 24), some (some 43), some (some 64), some (some 69), some (some 88), some (some 97), some (some 100), some (some 109), some (some 111), none]) (As := []) (st := st) rfl (hS _ _ zs_0) (c_Desk_tapeIsName hS h) (zgV zk_ml_11_170 zk_im_yX11_tapeIsName zk_se_yX11_tapeIsName zk_in_11 zk_cd_yX11_tapeIsName) zsg_yX11_tapeIsName hR rfl rfl hw hd hf kk
theorem zg_11_174 {p : Program} {l : Launch} {e : Env} {R : Room} {s : State} {m : MethodId} {args : Array Value} {below : List Frame} {meth : Method} {c : Code} {Q : State → Prop} {D : va_G} {B : Nat} {cA : Nat → ClassId} {ad : Nat → Nat} {cc : ByteArray} {nL : Nat} {ret : Option FieldType} {S : List zC} {I : zI} {lv : List (Nat × Value)} {st : List Value} {pc : Nat} (C : zCx p s m args meth c cc nL RX11 ret D B cA ad) {k : Nat} (hk : zIsTokens S k) (hd : decode cc pc = .ok (.getfield 174, 3)) (kk : zX p l e R s m args below meth c Q D B cA nL 0 0 S I lv (.int (I.1 k 5) :: st) (pc + 3)) : zX p l e R s m args below meth c Q D B cA nL 0 0 S I lv (.ref (B + k) :: st) pc :=
  zr_geti C (ci := 8) (Cn := RX8) (T := TX8) (N := 6) (k := k) (j := 5) (fs := [some (some (k + 1)), some (some (k + 3)), some (some (k + 5)), some (some (k + 7)), some (some (k + 9)), none]) rfl zin_8 (Nat.le_of_ble_eq_true rfl) rfl hk.1 rfl zk_fl_11_174 hd kk
theorem zv_11_177 {p : Program} {l : Launch} {e : Env} {R : Room} {s : State} {m : MethodId} {args : Array Value} {below : List Frame} {meth : Method} {c : Code} {Q : State → Prop} {D : va_G} {B : Nat} {cA : Nat → ClassId} {ad : Nat → Nat} {cc : ByteArray} {nL : Nat} {ret : Option FieldType} {S : List zC} {I : zI} {lv : List (Nat × Value)} {st : List Value} {pc : Nat} (C : zCx p s m args meth c cc nL RX11 ret D B cA ad) {K : Int32 → Prop} {xk : Nat} {xa1 : Int32} {xa2 : Int32} (hS : zOkX S) (xhk : zIsTokens S xk) (h : w_Tokens_sameBytes xk xa1 xa2 I K) (hR : 1 + 1 ≤ R.frames ∧ 8 + (3 + 11) + (21) ≤ R.locals) (hw : (st.map fun v => v.category).sum ≤ 8) (hd : decode cc pc = .ok (.invokevirtual 177, 3)) (kk : ∀ v, K v → zX p l e R s m args below meth c Q D B cA nL 0 0 S I lv (.int v :: st) (pc + 3)) : zX p l e R s m args below meth c Q D B cA nL 0 0 S I lv (.int xa2 :: .int xa1 :: .ref (B + xk) :: st) pc :=
  have hf : 0 ≤ R.cells ∧ 0 ≤ R.slots := ⟨Nat.zero_le _, Nat.zero_le _⟩
  zc_VpI C (ci := 8) (q := (RX8, TX8, 6)) (k := xk) (fs := [some (some (xk + 1)), some (some (xk + 3)), some (some (xk + 5)), some (some (xk + 7)), some (some (xk + 9)), none]) (As := [.int xa1, .int xa2]) (st := st) rfl xhk.1 (c_Tokens_sameBytes hS xhk h) (zgV zk_ml_11_177 zk_im_yX8_sameBytes zk_se_yX8_sameBytes zk_in_8 zk_cd_yX8_sameBytes) zsg_yX8_sameBytes hR rfl rfl hw hd hf kk
theorem zg_11_181 {p : Program} {l : Launch} {e : Env} {R : Room} {s : State} {m : MethodId} {args : Array Value} {below : List Frame} {meth : Method} {c : Code} {Q : State → Prop} {D : va_G} {B : Nat} {cA : Nat → ClassId} {ad : Nat → Nat} {cc : ByteArray} {nL : Nat} {ret : Option FieldType} {S : List zC} {I : zI} {lv : List (Nat × Value)} {st : List Value} {pc : Nat} (C : zCx p s m args meth c cc nL RX11 ret D B cA ad) {k : Nat} (hk : zIsTokens S k) (hd : decode cc pc = .ok (.getfield 181, 3)) (kk : zX p l e R s m args below meth c Q D B cA nL 0 0 S I lv (.ref (B + (k + 3)) :: st) (pc + 3)) : zX p l e R s m args below meth c Q D B cA nL 0 0 S I lv (.ref (B + k) :: st) pc :=
  zr_getr C (ci := 8) (Cn := RX8) (T := TX8) (N := 6) (k := k) (j := 1) (fs := [some (some (k + 1)), some (some (k + 3)), some (some (k + 5)), some (some (k + 7)), some (some (k + 9)), none]) rfl zin_8 (Nat.le_of_ble_eq_true rfl) rfl hk.1 rfl zk_fl_11_181 hd kk
theorem zg_11_184 {p : Program} {l : Launch} {e : Env} {R : Room} {s : State} {m : MethodId} {args : Array Value} {below : List Frame} {meth : Method} {c : Code} {Q : State → Prop} {D : va_G} {B : Nat} {cA : Nat → ClassId} {ad : Nat → Nat} {cc : ByteArray} {nL : Nat} {ret : Option FieldType} {S : List zC} {I : zI} {lv : List (Nat × Value)} {st : List Value} {pc : Nat} (C : zCx p s m args meth c cc nL RX11 ret D B cA ad) {k : Nat} (hk : zIsTokens S k) (hd : decode cc pc = .ok (.getfield 184, 3)) (kk : zX p l e R s m args below meth c Q D B cA nL 0 0 S I lv (.ref (B + (k + 5)) :: st) (pc + 3)) : zX p l e R s m args below meth c Q D B cA nL 0 0 S I lv (.ref (B + k) :: st) pc :=
  zr_getr C (ci := 8) (Cn := RX8) (T := TX8) (N := 6) (k := k) (j := 2) (fs := [some (some (k + 1)), some (some (k + 3)), some (some (k + 5)), some (some (k + 7)), some (some (k + 9)), none]) rfl zin_8 (Nat.le_of_ble_eq_true rfl) rfl hk.1 rfl zk_fl_11_184 hd kk
def w_Desk_rename (a1 : Int32) (I : zI) (K : Int32 → zI → Prop) : Prop :=
  w_Desk_now I (fun r_1 => (if (I.1 r_1 3) = 0 then (K (-1) I) else (w_Tokens_has (r_1 + 3) a1 I (fun r_2 => (if r_2 = 0 then (K (-1) I) else (w_Row_get (r_1 + 3 + 1) 100 a1 I (fun r_3 => (if r_3 = 0 then (w_Desk_tapeIsName I (fun r_4 => (if r_4 = 0 then (K (-1) I) else (∀ I_5, I_5 = (zu I 4 1 0) → ∀ (P59 : Int32 → Int32 → zI → Prop), (∀ (v3_6 : Int32) (v4_7 : Int32) (I_8 : zI), ((if (I_8.1 (r_1 + 3) 5) ≤ v4_7 then (w_Moment_append 4 (r_1 + 1) 300 v3_6 (I_8.1 r_1 1) I_8 (fun I_9 => w_Desk_change 1 I_9 (fun r_10 I_11 => K r_10 I_11))) else (w_Tokens_sameBytes (r_1 + 3) a1 v4_7 I_8 (fun r_12 => ∀ (P150 : Int32 → zI → Prop), (∀ (v3_13 : Int32) (I_14 : zI), (∀ v4_15, v4_15 = (v4_7 + 1) → P59 v3_13 v4_15 I_14) → P150 v3_13 I_14) → (if r_12 = 0 then P150 v3_6 I_8 else (w_Row_get (r_1 + 3 + 3) 100 v4_7 I_8 (fun r_16 => w_Moment_append 4 (r_1 + 1) 300 v3_6 r_16 I_8 (fun I_17 => w_Moment_append 4 1 200 0 (I_17.1 0 1) I_17 (fun I_18 => w_Row_get (r_1 + 3 + 3) 100 v4_7 I_18 (fun r_19 => w_Row_get (r_1 + 3 + 5) 100 v4_7 I_18 (fun r_20 => ∀ v3_21, v3_21 = (r_19 + r_20) → P150 v3_21 I_18))))))))))) → P59 v3_6 v4_7 I_8) → P59 0 0 I_5)))) else (K (-1) I)))))))))
theorem dyX11_rename_0 : decode cX11_rename 0 = .ok (.aload_n 0, 1) := by decide +kernel
theorem dyX11_rename_1 : decode cX11_rename 1 = .ok (.invokevirtual 126, 3) := by decide +kernel
theorem dyX11_rename_4 : decode cX11_rename 4 = .ok (.astore_n 2, 1) := by decide +kernel
theorem dyX11_rename_5 : decode cX11_rename 5 = .ok (.aload_n 2, 1) := by decide +kernel
theorem dyX11_rename_6 : decode cX11_rename 6 = .ok (.getfield 155, 3) := by decide +kernel
theorem dyX11_rename_9 : decode cX11_rename 9 = .ok (.ifCond .eq 35, 3) := by decide +kernel
theorem dyX11_rename_12 : decode cX11_rename 12 = .ok (.aload_n 2, 1) := by decide +kernel
theorem dyX11_rename_13 : decode cX11_rename 13 = .ok (.getfield 99, 3) := by decide +kernel
theorem dyX11_rename_16 : decode cX11_rename 16 = .ok (.iload_n 1, 1) := by decide +kernel
theorem dyX11_rename_17 : decode cX11_rename 17 = .ok (.invokevirtual 159, 3) := by decide +kernel
theorem dyX11_rename_20 : decode cX11_rename 20 = .ok (.ifCond .eq 24, 3) := by decide +kernel
theorem dyX11_rename_23 : decode cX11_rename 23 = .ok (.aload_n 2, 1) := by decide +kernel
theorem dyX11_rename_24 : decode cX11_rename 24 = .ok (.getfield 99, 3) := by decide +kernel
theorem dyX11_rename_27 : decode cX11_rename 27 = .ok (.getfield 163, 3) := by decide +kernel
theorem dyX11_rename_30 : decode cX11_rename 30 = .ok (.iload_n 1, 1) := by decide +kernel
theorem dyX11_rename_31 : decode cX11_rename 31 = .ok (.invokevirtual 166, 3) := by decide +kernel
theorem dyX11_rename_34 : decode cX11_rename 34 = .ok (.ifCond .ne 10, 3) := by decide +kernel
theorem dyX11_rename_37 : decode cX11_rename 37 = .ok (.aload_n 0, 1) := by decide +kernel
theorem dyX11_rename_38 : decode cX11_rename 38 = .ok (.invokevirtual 170, 3) := by decide +kernel
theorem dyX11_rename_41 : decode cX11_rename 41 = .ok (.ifCond .ne 5, 3) := by decide +kernel
theorem dyX11_rename_44 : decode cX11_rename 44 = .ok (.iconst (-1), 1) := by decide +kernel
theorem dyX11_rename_45 : decode cX11_rename 45 = .ok (.ireturn, 1) := by decide +kernel
theorem dyX11_rename_46 : decode cX11_rename 46 = .ok (.aload_n 0, 1) := by decide +kernel
theorem dyX11_rename_47 : decode cX11_rename 47 = .ok (.getfield 25, 3) := by decide +kernel
theorem dyX11_rename_50 : decode cX11_rename 50 = .ok (.iconst 0, 1) := by decide +kernel
theorem dyX11_rename_51 : decode cX11_rename 51 = .ok (.putfield 144, 3) := by decide +kernel
theorem dyX11_rename_54 : decode cX11_rename 54 = .ok (.iconst 0, 1) := by decide +kernel
theorem dyX11_rename_55 : decode cX11_rename 55 = .ok (.istore_n 3, 1) := by decide +kernel
theorem dyX11_rename_56 : decode cX11_rename 56 = .ok (.iconst 0, 1) := by decide +kernel
theorem dyX11_rename_57 : decode cX11_rename 57 = .ok (.istore 4, 2) := by decide +kernel
theorem dyX11_rename_59 : decode cX11_rename 59 = .ok (.iload 4, 2) := by decide +kernel
theorem dyX11_rename_61 : decode cX11_rename 61 = .ok (.aload_n 2, 1) := by decide +kernel
theorem dyX11_rename_62 : decode cX11_rename 62 = .ok (.getfield 99, 3) := by decide +kernel
theorem dyX11_rename_65 : decode cX11_rename 65 = .ok (.getfield 174, 3) := by decide +kernel
theorem dyX11_rename_68 : decode cX11_rename 68 = .ok (.if_icmp .ge 88, 3) := by decide +kernel
theorem dyX11_rename_71 : decode cX11_rename 71 = .ok (.aload_n 2, 1) := by decide +kernel
theorem dyX11_rename_72 : decode cX11_rename 72 = .ok (.getfield 99, 3) := by decide +kernel
theorem dyX11_rename_75 : decode cX11_rename 75 = .ok (.iload_n 1, 1) := by decide +kernel
theorem dyX11_rename_76 : decode cX11_rename 76 = .ok (.iload 4, 2) := by decide +kernel
theorem dyX11_rename_78 : decode cX11_rename 78 = .ok (.invokevirtual 177, 3) := by decide +kernel
theorem dyX11_rename_81 : decode cX11_rename 81 = .ok (.ifCond .eq 69, 3) := by decide +kernel
theorem dyX11_rename_84 : decode cX11_rename 84 = .ok (.aload_n 0, 1) := by decide +kernel
theorem dyX11_rename_85 : decode cX11_rename 85 = .ok (.getfield 25, 3) := by decide +kernel
theorem dyX11_rename_88 : decode cX11_rename 88 = .ok (.aload_n 2, 1) := by decide +kernel
theorem dyX11_rename_89 : decode cX11_rename 89 = .ok (.getfield 103, 3) := by decide +kernel
theorem dyX11_rename_92 : decode cX11_rename 92 = .ok (.iload_n 3, 1) := by decide +kernel
theorem dyX11_rename_93 : decode cX11_rename 93 = .ok (.aload_n 2, 1) := by decide +kernel
theorem dyX11_rename_94 : decode cX11_rename 94 = .ok (.getfield 99, 3) := by decide +kernel
theorem dyX11_rename_97 : decode cX11_rename 97 = .ok (.getfield 181, 3) := by decide +kernel
theorem dyX11_rename_100 : decode cX11_rename 100 = .ok (.iload 4, 2) := by decide +kernel
theorem dyX11_rename_102 : decode cX11_rename 102 = .ok (.invokevirtual 166, 3) := by decide +kernel
theorem dyX11_rename_105 : decode cX11_rename 105 = .ok (.invokevirtual 147, 3) := by decide +kernel
theorem dyX11_rename_108 : decode cX11_rename 108 = .ok (.aload_n 0, 1) := by decide +kernel
theorem dyX11_rename_109 : decode cX11_rename 109 = .ok (.getfield 25, 3) := by decide +kernel
theorem dyX11_rename_112 : decode cX11_rename 112 = .ok (.aload_n 0, 1) := by decide +kernel
theorem dyX11_rename_113 : decode cX11_rename 113 = .ok (.getfield 14, 3) := by decide +kernel
theorem dyX11_rename_116 : decode cX11_rename 116 = .ok (.iconst 0, 1) := by decide +kernel
theorem dyX11_rename_117 : decode cX11_rename 117 = .ok (.aload_n 0, 1) := by decide +kernel
theorem dyX11_rename_118 : decode cX11_rename 118 = .ok (.getfield 138, 3) := by decide +kernel
theorem dyX11_rename_121 : decode cX11_rename 121 = .ok (.invokevirtual 147, 3) := by decide +kernel
theorem dyX11_rename_124 : decode cX11_rename 124 = .ok (.aload_n 2, 1) := by decide +kernel
theorem dyX11_rename_125 : decode cX11_rename 125 = .ok (.getfield 99, 3) := by decide +kernel
theorem dyX11_rename_128 : decode cX11_rename 128 = .ok (.getfield 181, 3) := by decide +kernel
theorem dyX11_rename_131 : decode cX11_rename 131 = .ok (.iload 4, 2) := by decide +kernel
theorem dyX11_rename_133 : decode cX11_rename 133 = .ok (.invokevirtual 166, 3) := by decide +kernel
theorem dyX11_rename_136 : decode cX11_rename 136 = .ok (.aload_n 2, 1) := by decide +kernel
theorem dyX11_rename_137 : decode cX11_rename 137 = .ok (.getfield 99, 3) := by decide +kernel
theorem dyX11_rename_140 : decode cX11_rename 140 = .ok (.getfield 184, 3) := by decide +kernel
theorem dyX11_rename_143 : decode cX11_rename 143 = .ok (.iload 4, 2) := by decide +kernel
theorem dyX11_rename_145 : decode cX11_rename 145 = .ok (.invokevirtual 166, 3) := by decide +kernel
theorem dyX11_rename_148 : decode cX11_rename 148 = .ok (.iadd, 1) := by decide +kernel
theorem dyX11_rename_149 : decode cX11_rename 149 = .ok (.istore_n 3, 1) := by decide +kernel
theorem dyX11_rename_150 : decode cX11_rename 150 = .ok (.iinc 4 1, 3) := by decide +kernel
theorem dyX11_rename_153 : decode cX11_rename 153 = .ok (.goto (-94), 3) := by decide +kernel
theorem dyX11_rename_156 : decode cX11_rename 156 = .ok (.aload_n 0, 1) := by decide +kernel
theorem dyX11_rename_157 : decode cX11_rename 157 = .ok (.getfield 25, 3) := by decide +kernel
theorem dyX11_rename_160 : decode cX11_rename 160 = .ok (.aload_n 2, 1) := by decide +kernel
theorem dyX11_rename_161 : decode cX11_rename 161 = .ok (.getfield 103, 3) := by decide +kernel
theorem dyX11_rename_164 : decode cX11_rename 164 = .ok (.iload_n 3, 1) := by decide +kernel
theorem dyX11_rename_165 : decode cX11_rename 165 = .ok (.aload_n 2, 1) := by decide +kernel
theorem dyX11_rename_166 : decode cX11_rename 166 = .ok (.getfield 144, 3) := by decide +kernel
theorem dyX11_rename_169 : decode cX11_rename 169 = .ok (.invokevirtual 147, 3) := by decide +kernel
theorem dyX11_rename_172 : decode cX11_rename 172 = .ok (.aload_n 0, 1) := by decide +kernel
theorem dyX11_rename_173 : decode cX11_rename 173 = .ok (.iconst 1, 1) := by decide +kernel
theorem dyX11_rename_174 : decode cX11_rename 174 = .ok (.invokevirtual 151, 3) := by decide +kernel
theorem dyX11_rename_177 : decode cX11_rename 177 = .ok (.ireturn, 1) := by decide +kernel
theorem zsg_yX11_rename : yX11_rename.cls = RX11 ∧ yX11_rename.cls ≠ "java/lang/invoke/MethodHandle" ∧ yX11_rename.cls ≠ "java/lang/invoke/VarHandle" ∧ (parseMethodDescriptor yX11_rename.desc).map (fun d => d.parameters.length) = some 1 := by decide +kernel
set_option maxRecDepth 20000 in
theorem c_Desk_rename {l : Launch} {D : va_G} {B : Nat} {cA : Nat → ClassId} {ad : Nat → Nat} {S : List zC} (hS : zOkX S) {a1 : Int32} {I : zI} {K : Int32 → zI → Prop}  (h : w_Desk_rename a1 I K) : Met l yX11_rename (zws yX11_rename cX11_rename 5 (some .int)) (zrm 18 594) (zPc D B cA ad [.ref (B + 0), .int a1] S I) (zQc D B cA (zqI S K)) 0 0 (fun q => B ≤ q) := by
  refine zm_of (cc := cX11_rename) (maxL := 5) (ret := (some .int)) (by decide +kernel) rfl (Nat.le_of_ble_eq_true rfl) trivial ?_
  intro p e s m args below meth c C _
  unfold w_Desk_rename at h
  show zX p l e (zrm 18 594) s m args below meth c (MQ below (zQc D B cA (zqI S K)) args s 0 0 (fun q => B ≤ q)) D B cA 5 0 0 S I [(0, .ref (B + 0)), (1, .int a1)] [] 0
  refine zr_aload_n C dyX11_rename_0 rfl 0 rfl ?_
  refine zv_11_126 C hS (st := []) h ⟨Nat.le_of_ble_eq_true rfl, Nat.le_of_ble_eq_true rfl⟩ (Nat.le_of_ble_eq_true rfl) dyX11_rename_1 (fun r_1 hr_1 h => ?_)
  refine zr_astore_n C dyX11_rename_4 rfl (Nat.le_of_ble_eq_true rfl) (lv2 := [(2, .ref (B + r_1)), (0, .ref (B + 0)), (1, .int a1)]) rfl ?_
  refine zr_aload_n C dyX11_rename_5 rfl 0 rfl ?_
  refine zg_11_155 C hr_1 dyX11_rename_6 ?_
  refine zr_if_eq C dyX11_rename_9 (tgt := 44) (by decide) (fun hc_27 => ?_) (fun hc_27 => ?_)
  · replace h := zif_pos hc_27 h
    refine zr_iconst C dyX11_rename_44 zc_i_m1 ?_
    exact zr_iret C rfl dyX11_rename_45 ⟨rfl, _, rfl, h⟩
  · replace h := zif_neg hc_27 h
    refine zr_aload_n C dyX11_rename_12 rfl 0 rfl ?_
    refine zg_11_99 C hr_1 dyX11_rename_13 ?_
    refine zr_iload_n C dyX11_rename_16 rfl 2 rfl ?_
    refine zv_11_159 C hS hr_1.2.2.1 (st := []) h ⟨Nat.le_of_ble_eq_true rfl, Nat.le_of_ble_eq_true rfl⟩ (Nat.le_of_ble_eq_true rfl) dyX11_rename_17 (fun r_2 h => ?_)
    refine zr_if_eq C dyX11_rename_20 (tgt := 44) (by decide) (fun hc_26 => ?_) (fun hc_26 => ?_)
    · replace h := zif_pos hc_26 h
      refine zr_iconst C dyX11_rename_44 zc_i_m1 ?_
      exact zr_iret C rfl dyX11_rename_45 ⟨rfl, _, rfl, h⟩
    · replace h := zif_neg hc_26 h
      refine zr_aload_n C dyX11_rename_23 rfl 0 rfl ?_
      refine zg_11_99 C hr_1 dyX11_rename_24 ?_
      refine zg_11_163 C hr_1.2.2.1 dyX11_rename_27 ?_
      refine zr_iload_n C dyX11_rename_30 rfl 2 rfl ?_
      refine zv_11_166 C hS hr_1.2.2.1.2.1 (st := []) h ⟨Nat.le_of_ble_eq_true rfl, Nat.le_of_ble_eq_true rfl⟩ (Nat.le_of_ble_eq_true rfl) dyX11_rename_31 (fun r_3 h => ?_)
      refine zr_if_ne C dyX11_rename_34 (tgt := 44) (by decide) (fun hc_25 => ?_) (fun hc_25 => ?_)
      · replace h := zif_neg hc_25 h
        refine zr_iconst C dyX11_rename_44 zc_i_m1 ?_
        exact zr_iret C rfl dyX11_rename_45 ⟨rfl, _, rfl, h⟩
      · replace h := zif_pos hc_25 h
        refine zr_aload_n C dyX11_rename_37 rfl 1 rfl ?_
        refine zv_11_170 C hS (st := []) h ⟨Nat.le_of_ble_eq_true rfl, Nat.le_of_ble_eq_true rfl⟩ (Nat.le_of_ble_eq_true rfl) dyX11_rename_38 (fun r_4 h => ?_)
        refine zr_if_ne C dyX11_rename_41 (tgt := 46) (by decide) (fun hc_24 => ?_) (fun hc_24 => ?_)
        · replace h := zif_neg hc_24 h
          refine zr_aload_n C dyX11_rename_46 rfl 1 rfl ?_
          refine zg_11_25 C hS dyX11_rename_47 ?_
          refine zr_iconst C dyX11_rename_50 zc_i_0 ?_
          refine zp_11_144 C (zIsMoment.of hS zit_4) dyX11_rename_51 ?_
          refine zn_mem C (fun I_5 eI_5 => ?_)
          replace h := h I_5 eI_5
          refine zr_iconst C dyX11_rename_54 zc_i_0 ?_
          refine zr_istore_n C dyX11_rename_55 rfl (Nat.le_of_ble_eq_true rfl) (lv2 := [(3, .int 0), (2, .ref (B + r_1)), (0, .ref (B + 0)), (1, .int a1)]) rfl ?_
          refine zr_iconst C dyX11_rename_56 zc_i_0 ?_
          refine zr_istore C dyX11_rename_57 (Nat.le_of_ble_eq_true rfl) (lv2 := [(4, .int 0), (3, .int 0), (2, .ref (B + r_1)), (0, .ref (B + 0)), (1, .int a1)]) rfl ?_
          refine zjn (h (fun (v3_6 : Int32) (v4_7 : Int32) (I_8 : zI) => zX p l e (zrm 18 594) s m args below meth c (MQ below (zQc D B cA (zqI S K)) args s 0 0 (fun q => B ≤ q)) D B cA 5 0 0 S I_8 [(4, .int v4_7), (3, .int v3_6), (2, .ref (B + r_1)), (0, .ref (B + 0)), (1, .int a1)] [] 59) (fun v3_6 v4_7 I_8 h => ?_)) (fun h => ?_)
          · refine zr_iload C dyX11_rename_59 0 rfl ?_
            refine zr_aload_n C dyX11_rename_61 rfl 2 rfl ?_
            refine zg_11_99 C hr_1 dyX11_rename_62 ?_
            refine zg_11_174 C hr_1.2.2.1 dyX11_rename_65 ?_
            refine zr_icmp_ge C dyX11_rename_68 (tgt := 156) (by decide) (fun hc_23 => ?_) (fun hc_23 => ?_)
            · replace h := zif_pos hc_23 h
              refine zr_aload_n C dyX11_rename_156 rfl 3 rfl ?_
              refine zg_11_25 C hS dyX11_rename_157 ?_
              refine zr_aload_n C dyX11_rename_160 rfl 2 rfl ?_
              refine zg_11_103 C hr_1 dyX11_rename_161 ?_
              refine zr_iload_n C dyX11_rename_164 rfl 1 rfl ?_
              refine zr_aload_n C dyX11_rename_165 rfl 2 rfl ?_
              refine zg_11_144 C hr_1 dyX11_rename_166 ?_
              refine zv_11_147 C hS (zIsMoment.of hS zit_4) hr_1.2.1 (st := []) h ⟨Nat.le_of_ble_eq_true rfl, Nat.le_of_ble_eq_true rfl⟩ (Nat.le_of_ble_eq_true rfl) dyX11_rename_169 (fun I_9 h => ?_)
              refine zr_aload_n C dyX11_rename_172 rfl 3 rfl ?_
              refine zr_iconst C dyX11_rename_173 zc_i_1 ?_
              refine zv_11_151 C hS (st := []) h ⟨Nat.le_of_ble_eq_true rfl, Nat.le_of_ble_eq_true rfl⟩ (Nat.le_of_ble_eq_true rfl) dyX11_rename_174 (fun r_10 I_11 h => ?_)
              exact zr_iret C rfl dyX11_rename_177 ⟨rfl, _, rfl, h⟩
            · replace h := zif_neg hc_23 h
              refine zr_aload_n C dyX11_rename_71 rfl 2 rfl ?_
              refine zg_11_99 C hr_1 dyX11_rename_72 ?_
              refine zr_iload_n C dyX11_rename_75 rfl 4 rfl ?_
              refine zr_iload C dyX11_rename_76 0 rfl ?_
              refine zv_11_177 C hS hr_1.2.2.1 (st := []) h ⟨Nat.le_of_ble_eq_true rfl, Nat.le_of_ble_eq_true rfl⟩ (Nat.le_of_ble_eq_true rfl) dyX11_rename_78 (fun r_12 h => ?_)
              refine zjn (h (fun (v3_13 : Int32) (I_14 : zI) => zX p l e (zrm 18 594) s m args below meth c (MQ below (zQc D B cA (zqI S K)) args s 0 0 (fun q => B ≤ q)) D B cA 5 0 0 S I_14 [(4, .int v4_7), (3, .int v3_13), (2, .ref (B + r_1)), (0, .ref (B + 0)), (1, .int a1)] [] 150) (fun v3_13 I_14 h => ?_)) (fun h => ?_)
              · refine zn_iinc C (fun v4_15 => [(4, .int v4_15), (3, .int v3_13), (2, .ref (B + r_1)), (0, .ref (B + 0)), (1, .int a1)]) dyX11_rename_150 0 rfl zc_i_1 (Nat.le_of_ble_eq_true rfl) (fun _ => rfl) (fun v4_15 ev4_15 => ?_)
                replace h := h v4_15 ev4_15
                refine zr_goto C dyX11_rename_153 (tgt := 59) (by decide) ?_
                exact h
              refine zr_if_eq C dyX11_rename_81 (tgt := 150) (by decide) (fun hc_22 => ?_) (fun hc_22 => ?_)
              · replace h := zif_pos hc_22 h
                exact h
              · replace h := zif_neg hc_22 h
                refine zr_aload_n C dyX11_rename_84 rfl 3 rfl ?_
                refine zg_11_25 C hS dyX11_rename_85 ?_
                refine zr_aload_n C dyX11_rename_88 rfl 2 rfl ?_
                refine zg_11_103 C hr_1 dyX11_rename_89 ?_
                refine zr_iload_n C dyX11_rename_92 rfl 1 rfl ?_
                refine zr_aload_n C dyX11_rename_93 rfl 2 rfl ?_
                refine zg_11_99 C hr_1 dyX11_rename_94 ?_
                refine zg_11_181 C hr_1.2.2.1 dyX11_rename_97 ?_
                refine zr_iload C dyX11_rename_100 0 rfl ?_
                refine zv_11_166 C hS hr_1.2.2.1.2.2.1 (st := [.int v3_6, .ref (B + (r_1 + 1)), .ref (B + 4)]) h ⟨Nat.le_of_ble_eq_true rfl, Nat.le_of_ble_eq_true rfl⟩ (Nat.le_of_ble_eq_true rfl) dyX11_rename_102 (fun r_16 h => ?_)
                refine zv_11_147 C hS (zIsMoment.of hS zit_4) hr_1.2.1 (st := []) h ⟨Nat.le_of_ble_eq_true rfl, Nat.le_of_ble_eq_true rfl⟩ (Nat.le_of_ble_eq_true rfl) dyX11_rename_105 (fun I_17 h => ?_)
                refine zr_aload_n C dyX11_rename_108 rfl 3 rfl ?_
                refine zg_11_25 C hS dyX11_rename_109 ?_
                refine zr_aload_n C dyX11_rename_112 rfl 3 rfl ?_
                refine zg_11_14 C hS dyX11_rename_113 ?_
                refine zr_iconst C dyX11_rename_116 zc_i_0 ?_
                refine zr_aload_n C dyX11_rename_117 rfl 3 rfl ?_
                refine zg_11_138 C hS dyX11_rename_118 ?_
                refine zv_11_147 C hS (zIsMoment.of hS zit_4) (zIsRow.of hS zir_1) (st := []) h ⟨Nat.le_of_ble_eq_true rfl, Nat.le_of_ble_eq_true rfl⟩ (Nat.le_of_ble_eq_true rfl) dyX11_rename_121 (fun I_18 h => ?_)
                refine zr_aload_n C dyX11_rename_124 rfl 2 rfl ?_
                refine zg_11_99 C hr_1 dyX11_rename_125 ?_
                refine zg_11_181 C hr_1.2.2.1 dyX11_rename_128 ?_
                refine zr_iload C dyX11_rename_131 0 rfl ?_
                refine zv_11_166 C hS hr_1.2.2.1.2.2.1 (st := []) h ⟨Nat.le_of_ble_eq_true rfl, Nat.le_of_ble_eq_true rfl⟩ (Nat.le_of_ble_eq_true rfl) dyX11_rename_133 (fun r_19 h => ?_)
                refine zr_aload_n C dyX11_rename_136 rfl 2 rfl ?_
                refine zg_11_99 C hr_1 dyX11_rename_137 ?_
                refine zg_11_184 C hr_1.2.2.1 dyX11_rename_140 ?_
                refine zr_iload C dyX11_rename_143 0 rfl ?_
                refine zv_11_166 C hS hr_1.2.2.1.2.2.2.1 (st := [.int r_19]) h ⟨Nat.le_of_ble_eq_true rfl, Nat.le_of_ble_eq_true rfl⟩ (Nat.le_of_ble_eq_true rfl) dyX11_rename_145 (fun r_20 h => ?_)
                refine zr_iadd C dyX11_rename_148 ?_
                refine zn_istore_n C (fun v3_21 => [(3, .int v3_21), (4, .int v4_7), (2, .ref (B + r_1)), (0, .ref (B + 0)), (1, .int a1)]) dyX11_rename_149 rfl (Nat.le_of_ble_eq_true rfl) (fun _ => rfl) (fun v3_21 ev3_21 => ?_)
                replace h := h v3_21 ev3_21
                refine zr_sub (lv2 := [(4, .int v4_7), (3, .int v3_21), (2, .ref (B + r_1)), (0, .ref (B + 0)), (1, .int a1)]) [1, 0, 2, 3, 4] rfl ?_
                exact h
          exact h
        · replace h := zif_pos hc_24 h
          refine zr_iconst C dyX11_rename_44 zc_i_m1 ?_
          exact zr_iret C rfl dyX11_rename_45 ⟨rfl, _, rfl, h⟩
theorem zg_11_442 {p : Program} {l : Launch} {e : Env} {R : Room} {s : State} {m : MethodId} {args : Array Value} {below : List Frame} {meth : Method} {c : Code} {Q : State → Prop} {D : va_G} {B : Nat} {cA : Nat → ClassId} {ad : Nat → Nat} {cc : ByteArray} {nL : Nat} {ret : Option FieldType} {S : List zC} {I : zI} {lv : List (Nat × Value)} {st : List Value} {pc : Nat} (C : zCx p s m args meth c cc nL RX11 ret D B cA ad) {k : Nat} (hk : zIsMoment S k) (hd : decode cc pc = .ok (.getfield 442, 3)) (kk : zX p l e R s m args below meth c Q D B cA nL 0 0 S I lv (.ref (B + (k + 16)) :: st) (pc + 3)) : zX p l e R s m args below meth c Q D B cA nL 0 0 S I lv (.ref (B + k) :: st) pc :=
  zr_getr C (ci := 2) (Cn := RX2) (T := TX2) (N := 9) (k := k) (j := 5) (fs := [some (some (k + 1)), none, some (some (k + 3)), none, some (some (k + 14)), some (some (k + 16)), none, none, none]) rfl zin_2 (Nat.le_of_ble_eq_true rfl) rfl hk.1 rfl zk_fl_11_442 hd kk
theorem zv_11_263 {p : Program} {l : Launch} {e : Env} {R : Room} {s : State} {m : MethodId} {args : Array Value} {below : List Frame} {meth : Method} {c : Code} {Q : State → Prop} {D : va_G} {B : Nat} {cA : Nat → ClassId} {ad : Nat → Nat} {cc : ByteArray} {nL : Nat} {ret : Option FieldType} {S : List zC} {I : zI} {lv : List (Nat × Value)} {st : List Value} {pc : Nat} (C : zCx p s m args meth c cc nL RX11 ret D B cA ad) {K : Int32 → Prop} {xa1 : Int32} (hS : zOkX S)  (h : w_TreeView_firstOf xa1 I K) (hR : 2 + 1 ≤ R.frames ∧ 8 + (2 + 11) + (43) ≤ R.locals) (hw : (st.map fun v => v.category).sum ≤ 8) (hd : decode cc pc = .ok (.invokevirtual 263, 3)) (kk : ∀ v, K v → zX p l e R s m args below meth c Q D B cA nL 0 0 S I lv (.int v :: st) (pc + 3)) : zX p l e R s m args below meth c Q D B cA nL 0 0 S I lv (.int xa1 :: .ref (B + 43) :: st) pc :=
  have hf : 0 ≤ R.cells ∧ 0 ≤ R.slots := ⟨Nat.zero_le _, Nat.zero_le _⟩
  zc_VpI C (ci := 9) (q := (RX9, TX9, 16)) (k := 43) (fs := [some (some 24), some (some 44), some (some 46), some (some 48), some (some 50), some (some 52), some (some 54), some (some 56), some (some 58), some (some 60), some (some 62), none, none, none, none, none]) (As := [.int xa1]) (st := st) rfl (hS _ _ zs_43) (c_TreeView_firstOf hS h) (zgV zk_ml_11_263 zk_im_yX9_firstOf zk_se_yX9_firstOf zk_in_9 zk_cd_yX9_firstOf) zsg_yX9_firstOf hR rfl rfl hw hd hf kk
def w_Desk_startOf (a1 : Int32) (I : zI) (K : Int32 → Prop) : Prop :=
  w_Desk_now I (fun r_1 => w_TreeView_firstOf a1 I (fun r_2 => w_Row_get (r_1 + 16) 100 r_2 I (fun r_3 => K r_3)))
theorem dyX11_startOf_0 : decode cX11_startOf 0 = .ok (.aload_n 0, 1) := by decide +kernel
theorem dyX11_startOf_1 : decode cX11_startOf 1 = .ok (.invokevirtual 126, 3) := by decide +kernel
theorem dyX11_startOf_4 : decode cX11_startOf 4 = .ok (.getfield 442, 3) := by decide +kernel
theorem dyX11_startOf_7 : decode cX11_startOf 7 = .ok (.aload_n 0, 1) := by decide +kernel
theorem dyX11_startOf_8 : decode cX11_startOf 8 = .ok (.getfield 44, 3) := by decide +kernel
theorem dyX11_startOf_11 : decode cX11_startOf 11 = .ok (.iload_n 1, 1) := by decide +kernel
theorem dyX11_startOf_12 : decode cX11_startOf 12 = .ok (.invokevirtual 263, 3) := by decide +kernel
theorem dyX11_startOf_15 : decode cX11_startOf 15 = .ok (.invokevirtual 166, 3) := by decide +kernel
theorem dyX11_startOf_18 : decode cX11_startOf 18 = .ok (.ireturn, 1) := by decide +kernel
theorem zsg_yX11_startOf : yX11_startOf.cls = RX11 ∧ yX11_startOf.cls ≠ "java/lang/invoke/MethodHandle" ∧ yX11_startOf.cls ≠ "java/lang/invoke/VarHandle" ∧ (parseMethodDescriptor yX11_startOf.desc).map (fun d => d.parameters.length) = some 1 := by decide +kernel
set_option maxRecDepth 20000 in
theorem c_Desk_startOf {l : Launch} {D : va_G} {B : Nat} {cA : Nat → ClassId} {ad : Nat → Nat} {S : List zC} (hS : zOkX S) {a1 : Int32} {I : zI} {K : Int32 → Prop}  (h : w_Desk_startOf a1 I K) : Met l yX11_startOf (zws yX11_startOf cX11_startOf 2 (some .int)) (zrm 3 64) (zPc D B cA ad [.ref (B + 0), .int a1] S I) (zQc D B cA (zpI S I K)) 0 0 (fun q => B ≤ q) := by
  refine zm_of (cc := cX11_startOf) (maxL := 2) (ret := (some .int)) (by decide +kernel) rfl (Nat.le_of_ble_eq_true rfl) trivial ?_
  intro p e s m args below meth c C _
  unfold w_Desk_startOf at h
  show zX p l e (zrm 3 64) s m args below meth c (MQ below (zQc D B cA (zpI S I K)) args s 0 0 (fun q => B ≤ q)) D B cA 2 0 0 S I [(0, .ref (B + 0)), (1, .int a1)] [] 0
  refine zr_aload_n C dyX11_startOf_0 rfl 0 rfl ?_
  refine zv_11_126 C hS (st := []) h ⟨Nat.le_of_ble_eq_true rfl, Nat.le_of_ble_eq_true rfl⟩ (Nat.le_of_ble_eq_true rfl) dyX11_startOf_1 (fun r_1 hr_1 h => ?_)
  refine zg_11_442 C hr_1 dyX11_startOf_4 ?_
  refine zr_aload_n C dyX11_startOf_7 rfl 0 rfl ?_
  refine zg_11_44 C hS dyX11_startOf_8 ?_
  refine zr_iload_n C dyX11_startOf_11 rfl 1 rfl ?_
  refine zv_11_263 C hS (st := [.ref (B + (r_1 + 16))]) h ⟨Nat.le_of_ble_eq_true rfl, Nat.le_of_ble_eq_true rfl⟩ (Nat.le_of_ble_eq_true rfl) dyX11_startOf_12 (fun r_2 h => ?_)
  refine zv_11_166 C hS hr_1.2.2.2.2 (st := []) h ⟨Nat.le_of_ble_eq_true rfl, Nat.le_of_ble_eq_true rfl⟩ (Nat.le_of_ble_eq_true rfl) dyX11_startOf_15 (fun r_3 h => ?_)
  exact zr_iret C rfl dyX11_startOf_18 ⟨rfl, rfl, _, rfl, h⟩
theorem zv_11_273 {p : Program} {l : Launch} {e : Env} {R : Room} {s : State} {m : MethodId} {args : Array Value} {below : List Frame} {meth : Method} {c : Code} {Q : State → Prop} {D : va_G} {B : Nat} {cA : Nat → ClassId} {ad : Nat → Nat} {cc : ByteArray} {nL : Nat} {ret : Option FieldType} {S : List zC} {I : zI} {lv : List (Nat × Value)} {st : List Value} {pc : Nat} (C : zCx p s m args meth c cc nL RX11 ret D B cA ad) {K : Int32 → Prop} {xa1 : Int32} (hS : zOkX S)  (h : w_Desk_startOf xa1 I K) (hR : 3 + 1 ≤ R.frames ∧ 8 + (2 + 11) + (64) ≤ R.locals) (hw : (st.map fun v => v.category).sum ≤ 8) (hd : decode cc pc = .ok (.invokevirtual 273, 3)) (kk : ∀ v, K v → zX p l e R s m args below meth c Q D B cA nL 0 0 S I lv (.int v :: st) (pc + 3)) : zX p l e R s m args below meth c Q D B cA nL 0 0 S I lv (.int xa1 :: .ref (B + 0) :: st) pc :=
  have hf : 0 ≤ R.cells ∧ 0 ≤ R.slots := ⟨Nat.zero_le _, Nat.zero_le _⟩
  zc_VpI C (ci := 11) (q := (RX11, TX11, 19)) (k := 0) (fs := [some (some 1), none, some (some 3), some (some 4), none, none, none, none, some (some 22), some (some 24), some (some 43), some (some 64), some (some 69), some (some 88), some (some 97), some (some 100), some (some 109), some (some 111), none]) (As := [.int xa1]) (st := st) rfl (hS _ _ zs_0) (c_Desk_startOf hS h) (zgV zk_ml_11_273 zk_im_yX11_startOf zk_se_yX11_startOf zk_in_11 zk_cd_yX11_startOf) zsg_yX11_startOf hR rfl rfl hw hd hf kk
def w_Desk_runStart (a1 : Int32) (I : zI) (K : Int32 → Prop) : Prop :=
  w_Row_get 62 100 a1 I (fun r_1 => w_Desk_startOf r_1 I (fun r_2 => K r_2))
theorem dyX11_runStart_0 : decode cX11_runStart 0 = .ok (.aload_n 0, 1) := by decide +kernel
theorem dyX11_runStart_1 : decode cX11_runStart 1 = .ok (.aload_n 0, 1) := by decide +kernel
theorem dyX11_runStart_2 : decode cX11_runStart 2 = .ok (.getfield 44, 3) := by decide +kernel
theorem dyX11_runStart_5 : decode cX11_runStart 5 = .ok (.getfield 306, 3) := by decide +kernel
theorem dyX11_runStart_8 : decode cX11_runStart 8 = .ok (.iload_n 1, 1) := by decide +kernel
theorem dyX11_runStart_9 : decode cX11_runStart 9 = .ok (.invokevirtual 166, 3) := by decide +kernel
theorem dyX11_runStart_12 : decode cX11_runStart 12 = .ok (.invokevirtual 273, 3) := by decide +kernel
theorem dyX11_runStart_15 : decode cX11_runStart 15 = .ok (.ireturn, 1) := by decide +kernel
theorem zsg_yX11_runStart : yX11_runStart.cls = RX11 ∧ yX11_runStart.cls ≠ "java/lang/invoke/MethodHandle" ∧ yX11_runStart.cls ≠ "java/lang/invoke/VarHandle" ∧ (parseMethodDescriptor yX11_runStart.desc).map (fun d => d.parameters.length) = some 1 := by decide +kernel
set_option maxRecDepth 20000 in
theorem c_Desk_runStart {l : Launch} {D : va_G} {B : Nat} {cA : Nat → ClassId} {ad : Nat → Nat} {S : List zC} (hS : zOkX S) {a1 : Int32} {I : zI} {K : Int32 → Prop}  (h : w_Desk_runStart a1 I K) : Met l yX11_runStart (zws yX11_runStart cX11_runStart 2 (some .int)) (zrm 4 85) (zPc D B cA ad [.ref (B + 0), .int a1] S I) (zQc D B cA (zpI S I K)) 0 0 (fun q => B ≤ q) := by
  refine zm_of (cc := cX11_runStart) (maxL := 2) (ret := (some .int)) (by decide +kernel) rfl (Nat.le_of_ble_eq_true rfl) trivial ?_
  intro p e s m args below meth c C _
  unfold w_Desk_runStart at h
  show zX p l e (zrm 4 85) s m args below meth c (MQ below (zQc D B cA (zpI S I K)) args s 0 0 (fun q => B ≤ q)) D B cA 2 0 0 S I [(0, .ref (B + 0)), (1, .int a1)] [] 0
  refine zr_aload_n C dyX11_runStart_0 rfl 0 rfl ?_
  refine zr_aload_n C dyX11_runStart_1 rfl 0 rfl ?_
  refine zg_11_44 C hS dyX11_runStart_2 ?_
  refine zg_11_306 C hS dyX11_runStart_5 ?_
  refine zr_iload_n C dyX11_runStart_8 rfl 1 rfl ?_
  refine zv_11_166 C hS (zIsRow.of hS zir_62) (st := [.ref (B + 0)]) h ⟨Nat.le_of_ble_eq_true rfl, Nat.le_of_ble_eq_true rfl⟩ (Nat.le_of_ble_eq_true rfl) dyX11_runStart_9 (fun r_1 h => ?_)
  refine zv_11_273 C hS (st := []) h ⟨Nat.le_of_ble_eq_true rfl, Nat.le_of_ble_eq_true rfl⟩ (Nat.le_of_ble_eq_true rfl) dyX11_runStart_12 (fun r_2 h => ?_)
  exact zr_iret C rfl dyX11_runStart_15 ⟨rfl, rfl, _, rfl, h⟩
theorem zg_11_246 {p : Program} {l : Launch} {e : Env} {R : Room} {s : State} {m : MethodId} {args : Array Value} {below : List Frame} {meth : Method} {c : Code} {Q : State → Prop} {D : va_G} {B : Nat} {cA : Nat → ClassId} {ad : Nat → Nat} {cc : ByteArray} {nL : Nat} {ret : Option FieldType} {S : List zC} {I : zI} {lv : List (Nat × Value)} {st : List Value} {pc : Nat} (C : zCx p s m args meth c cc nL RX11 ret D B cA ad) (hS : zOkX S) (hd : decode cc pc = .ok (.getfield 246, 3)) (kk : zX p l e R s m args below meth c Q D B cA nL 0 0 S I lv (.ref (B + 31) :: st) (pc + 3)) : zX p l e R s m args below meth c Q D B cA nL 0 0 S I lv (.ref (B + 24) :: st) pc :=
  zr_getr C (ci := 3) (Cn := RX3) (T := TX3) (N := 10) (k := 24) (j := 3) (fs := [some (some 25), some (some 27), some (some 29), some (some 31), some (some 33), some (some 35), some (some 37), some (some 39), some (some 41), none]) rfl zin_3 (Nat.le_of_ble_eq_true rfl) rfl (hS _ _ zs_24) rfl zk_fl_11_246 hd kk
theorem zg_11_445 {p : Program} {l : Launch} {e : Env} {R : Room} {s : State} {m : MethodId} {args : Array Value} {below : List Frame} {meth : Method} {c : Code} {Q : State → Prop} {D : va_G} {B : Nat} {cA : Nat → ClassId} {ad : Nat → Nat} {cc : ByteArray} {nL : Nat} {ret : Option FieldType} {S : List zC} {I : zI} {lv : List (Nat × Value)} {st : List Value} {pc : Nat} (C : zCx p s m args meth c cc nL RX11 ret D B cA ad) (hS : zOkX S) (hd : decode cc pc = .ok (.getfield 445, 3)) (kk : zX p l e R s m args below meth c Q D B cA nL 0 0 S I lv (.ref (B + 35) :: st) (pc + 3)) : zX p l e R s m args below meth c Q D B cA nL 0 0 S I lv (.ref (B + 24) :: st) pc :=
  zr_getr C (ci := 3) (Cn := RX3) (T := TX3) (N := 10) (k := 24) (j := 5) (fs := [some (some 25), some (some 27), some (some 29), some (some 31), some (some 33), some (some 35), some (some 37), some (some 39), some (some 41), none]) rfl zin_3 (Nat.le_of_ble_eq_true rfl) rfl (hS _ _ zs_24) rfl zk_fl_11_445 hd kk
theorem zg_11_115 {p : Program} {l : Launch} {e : Env} {R : Room} {s : State} {m : MethodId} {args : Array Value} {below : List Frame} {meth : Method} {c : Code} {Q : State → Prop} {D : va_G} {B : Nat} {cA : Nat → ClassId} {ad : Nat → Nat} {cc : ByteArray} {nL : Nat} {ret : Option FieldType} {S : List zC} {I : zI} {lv : List (Nat × Value)} {st : List Value} {pc : Nat} (C : zCx p s m args meth c cc nL RX11 ret D B cA ad) {k : Nat} (hk : zIsMoment S k) (hd : decode cc pc = .ok (.getfield 115, 3)) (kk : zX p l e R s m args below meth c Q D B cA nL 0 0 S I lv (.ref (B + (k + 14)) :: st) (pc + 3)) : zX p l e R s m args below meth c Q D B cA nL 0 0 S I lv (.ref (B + k) :: st) pc :=
  zr_getr C (ci := 2) (Cn := RX2) (T := TX2) (N := 9) (k := k) (j := 4) (fs := [some (some (k + 1)), none, some (some (k + 3)), none, some (some (k + 14)), some (some (k + 16)), none, none, none]) rfl zin_2 (Nat.le_of_ble_eq_true rfl) rfl hk.1 rfl zk_fl_11_115 hd kk
def w_Desk_endOf (a1 : Int32) (I : zI) (K : Int32 → Prop) : Prop :=
  w_Desk_now I (fun r_1 => w_TreeView_firstOf a1 I (fun r_2 => w_Row_get 31 3400 a1 I (fun r_3 => ∀ v3_4, v3_4 = ((r_2 + r_3) - 1) → w_Row_get (r_1 + 16) 100 v3_4 I (fun r_5 => w_Row_get (r_1 + 14) 100 v3_4 I (fun r_6 => w_Row_get 35 3400 r_6 I (fun r_7 => K (r_5 + r_7)))))))
theorem dyX11_endOf_0 : decode cX11_endOf 0 = .ok (.aload_n 0, 1) := by decide +kernel
theorem dyX11_endOf_1 : decode cX11_endOf 1 = .ok (.invokevirtual 126, 3) := by decide +kernel
theorem dyX11_endOf_4 : decode cX11_endOf 4 = .ok (.astore_n 2, 1) := by decide +kernel
theorem dyX11_endOf_5 : decode cX11_endOf 5 = .ok (.aload_n 0, 1) := by decide +kernel
theorem dyX11_endOf_6 : decode cX11_endOf 6 = .ok (.getfield 44, 3) := by decide +kernel
theorem dyX11_endOf_9 : decode cX11_endOf 9 = .ok (.iload_n 1, 1) := by decide +kernel
theorem dyX11_endOf_10 : decode cX11_endOf 10 = .ok (.invokevirtual 263, 3) := by decide +kernel
theorem dyX11_endOf_13 : decode cX11_endOf 13 = .ok (.aload_n 0, 1) := by decide +kernel
theorem dyX11_endOf_14 : decode cX11_endOf 14 = .ok (.getfield 35, 3) := by decide +kernel
theorem dyX11_endOf_17 : decode cX11_endOf 17 = .ok (.getfield 246, 3) := by decide +kernel
theorem dyX11_endOf_20 : decode cX11_endOf 20 = .ok (.iload_n 1, 1) := by decide +kernel
theorem dyX11_endOf_21 : decode cX11_endOf 21 = .ok (.invokevirtual 166, 3) := by decide +kernel
theorem dyX11_endOf_24 : decode cX11_endOf 24 = .ok (.iadd, 1) := by decide +kernel
theorem dyX11_endOf_25 : decode cX11_endOf 25 = .ok (.iconst 1, 1) := by decide +kernel
theorem dyX11_endOf_26 : decode cX11_endOf 26 = .ok (.isub, 1) := by decide +kernel
theorem dyX11_endOf_27 : decode cX11_endOf 27 = .ok (.istore_n 3, 1) := by decide +kernel
theorem dyX11_endOf_28 : decode cX11_endOf 28 = .ok (.aload_n 2, 1) := by decide +kernel
theorem dyX11_endOf_29 : decode cX11_endOf 29 = .ok (.getfield 442, 3) := by decide +kernel
theorem dyX11_endOf_32 : decode cX11_endOf 32 = .ok (.iload_n 3, 1) := by decide +kernel
theorem dyX11_endOf_33 : decode cX11_endOf 33 = .ok (.invokevirtual 166, 3) := by decide +kernel
theorem dyX11_endOf_36 : decode cX11_endOf 36 = .ok (.aload_n 0, 1) := by decide +kernel
theorem dyX11_endOf_37 : decode cX11_endOf 37 = .ok (.getfield 35, 3) := by decide +kernel
theorem dyX11_endOf_40 : decode cX11_endOf 40 = .ok (.getfield 445, 3) := by decide +kernel
theorem dyX11_endOf_43 : decode cX11_endOf 43 = .ok (.aload_n 2, 1) := by decide +kernel
theorem dyX11_endOf_44 : decode cX11_endOf 44 = .ok (.getfield 115, 3) := by decide +kernel
theorem dyX11_endOf_47 : decode cX11_endOf 47 = .ok (.iload_n 3, 1) := by decide +kernel
theorem dyX11_endOf_48 : decode cX11_endOf 48 = .ok (.invokevirtual 166, 3) := by decide +kernel
theorem dyX11_endOf_51 : decode cX11_endOf 51 = .ok (.invokevirtual 166, 3) := by decide +kernel
theorem dyX11_endOf_54 : decode cX11_endOf 54 = .ok (.iadd, 1) := by decide +kernel
theorem dyX11_endOf_55 : decode cX11_endOf 55 = .ok (.ireturn, 1) := by decide +kernel
theorem zsg_yX11_endOf : yX11_endOf.cls = RX11 ∧ yX11_endOf.cls ≠ "java/lang/invoke/MethodHandle" ∧ yX11_endOf.cls ≠ "java/lang/invoke/VarHandle" ∧ (parseMethodDescriptor yX11_endOf.desc).map (fun d => d.parameters.length) = some 1 := by decide +kernel
set_option maxRecDepth 20000 in
theorem c_Desk_endOf {l : Launch} {D : va_G} {B : Nat} {cA : Nat → ClassId} {ad : Nat → Nat} {S : List zC} (hS : zOkX S) {a1 : Int32} {I : zI} {K : Int32 → Prop}  (h : w_Desk_endOf a1 I K) : Met l yX11_endOf (zws yX11_endOf cX11_endOf 4 (some .int)) (zrm 3 64) (zPc D B cA ad [.ref (B + 0), .int a1] S I) (zQc D B cA (zpI S I K)) 0 0 (fun q => B ≤ q) := by
  refine zm_of (cc := cX11_endOf) (maxL := 4) (ret := (some .int)) (by decide +kernel) rfl (Nat.le_of_ble_eq_true rfl) trivial ?_
  intro p e s m args below meth c C _
  unfold w_Desk_endOf at h
  show zX p l e (zrm 3 64) s m args below meth c (MQ below (zQc D B cA (zpI S I K)) args s 0 0 (fun q => B ≤ q)) D B cA 4 0 0 S I [(0, .ref (B + 0)), (1, .int a1)] [] 0
  refine zr_aload_n C dyX11_endOf_0 rfl 0 rfl ?_
  refine zv_11_126 C hS (st := []) h ⟨Nat.le_of_ble_eq_true rfl, Nat.le_of_ble_eq_true rfl⟩ (Nat.le_of_ble_eq_true rfl) dyX11_endOf_1 (fun r_1 hr_1 h => ?_)
  refine zr_astore_n C dyX11_endOf_4 rfl (Nat.le_of_ble_eq_true rfl) (lv2 := [(2, .ref (B + r_1)), (0, .ref (B + 0)), (1, .int a1)]) rfl ?_
  refine zr_aload_n C dyX11_endOf_5 rfl 1 rfl ?_
  refine zg_11_44 C hS dyX11_endOf_6 ?_
  refine zr_iload_n C dyX11_endOf_9 rfl 2 rfl ?_
  refine zv_11_263 C hS (st := []) h ⟨Nat.le_of_ble_eq_true rfl, Nat.le_of_ble_eq_true rfl⟩ (Nat.le_of_ble_eq_true rfl) dyX11_endOf_10 (fun r_2 h => ?_)
  refine zr_aload_n C dyX11_endOf_13 rfl 1 rfl ?_
  refine zg_11_35 C hS dyX11_endOf_14 ?_
  refine zg_11_246 C hS dyX11_endOf_17 ?_
  refine zr_iload_n C dyX11_endOf_20 rfl 2 rfl ?_
  refine zv_11_166 C hS (zIsRow.of hS zir_31) (st := [.int r_2]) h ⟨Nat.le_of_ble_eq_true rfl, Nat.le_of_ble_eq_true rfl⟩ (Nat.le_of_ble_eq_true rfl) dyX11_endOf_21 (fun r_3 h => ?_)
  refine zr_iadd C dyX11_endOf_24 ?_
  refine zr_iconst C dyX11_endOf_25 zc_i_1 ?_
  refine zr_isub C dyX11_endOf_26 ?_
  refine zn_istore_n C (fun v3_4 => [(3, .int v3_4), (2, .ref (B + r_1)), (0, .ref (B + 0)), (1, .int a1)]) dyX11_endOf_27 rfl (Nat.le_of_ble_eq_true rfl) (fun _ => rfl) (fun v3_4 ev3_4 => ?_)
  replace h := h v3_4 ev3_4
  refine zr_aload_n C dyX11_endOf_28 rfl 1 rfl ?_
  refine zg_11_442 C hr_1 dyX11_endOf_29 ?_
  refine zr_iload_n C dyX11_endOf_32 rfl 0 rfl ?_
  refine zv_11_166 C hS hr_1.2.2.2.2 (st := []) h ⟨Nat.le_of_ble_eq_true rfl, Nat.le_of_ble_eq_true rfl⟩ (Nat.le_of_ble_eq_true rfl) dyX11_endOf_33 (fun r_5 h => ?_)
  refine zr_aload_n C dyX11_endOf_36 rfl 2 rfl ?_
  refine zg_11_35 C hS dyX11_endOf_37 ?_
  refine zg_11_445 C hS dyX11_endOf_40 ?_
  refine zr_aload_n C dyX11_endOf_43 rfl 1 rfl ?_
  refine zg_11_115 C hr_1 dyX11_endOf_44 ?_
  refine zr_iload_n C dyX11_endOf_47 rfl 0 rfl ?_
  refine zv_11_166 C hS hr_1.2.2.2.1 (st := [.ref (B + 35), .int r_5]) h ⟨Nat.le_of_ble_eq_true rfl, Nat.le_of_ble_eq_true rfl⟩ (Nat.le_of_ble_eq_true rfl) dyX11_endOf_48 (fun r_6 h => ?_)
  refine zv_11_166 C hS (zIsRow.of hS zir_35) (st := [.int r_5]) h ⟨Nat.le_of_ble_eq_true rfl, Nat.le_of_ble_eq_true rfl⟩ (Nat.le_of_ble_eq_true rfl) dyX11_endOf_51 (fun r_7 h => ?_)
  refine zr_iadd C dyX11_endOf_54 ?_
  exact zr_iret C rfl dyX11_endOf_55 ⟨rfl, rfl, _, rfl, h⟩
theorem zv_11_276 {p : Program} {l : Launch} {e : Env} {R : Room} {s : State} {m : MethodId} {args : Array Value} {below : List Frame} {meth : Method} {c : Code} {Q : State → Prop} {D : va_G} {B : Nat} {cA : Nat → ClassId} {ad : Nat → Nat} {cc : ByteArray} {nL : Nat} {ret : Option FieldType} {S : List zC} {I : zI} {lv : List (Nat × Value)} {st : List Value} {pc : Nat} (C : zCx p s m args meth c cc nL RX11 ret D B cA ad) {K : Int32 → Prop} {xa1 : Int32} (hS : zOkX S)  (h : w_Desk_endOf xa1 I K) (hR : 3 + 1 ≤ R.frames ∧ 8 + (4 + 11) + (64) ≤ R.locals) (hw : (st.map fun v => v.category).sum ≤ 8) (hd : decode cc pc = .ok (.invokevirtual 276, 3)) (kk : ∀ v, K v → zX p l e R s m args below meth c Q D B cA nL 0 0 S I lv (.int v :: st) (pc + 3)) : zX p l e R s m args below meth c Q D B cA nL 0 0 S I lv (.int xa1 :: .ref (B + 0) :: st) pc :=
  have hf : 0 ≤ R.cells ∧ 0 ≤ R.slots := ⟨Nat.zero_le _, Nat.zero_le _⟩
  zc_VpI C (ci := 11) (q := (RX11, TX11, 19)) (k := 0) (fs := [some (some 1), none, some (some 3), some (some 4), none, none, none, none, some (some 22), some (some 24), some (some 43), some (some 64), some (some 69), some (some 88), some (some 97), some (some 100), some (some 109), some (some 111), none]) (As := [.int xa1]) (st := st) rfl (hS _ _ zs_0) (c_Desk_endOf hS h) (zgV zk_ml_11_276 zk_im_yX11_endOf zk_se_yX11_endOf zk_in_11 zk_cd_yX11_endOf) zsg_yX11_endOf hR rfl rfl hw hd hf kk
def w_Desk_runEnd (a1 : Int32) (I : zI) (K : Int32 → Prop) : Prop :=
  w_Row_get 62 100 a1 I (fun r_1 => w_Desk_endOf r_1 I (fun r_2 => K r_2))
theorem dyX11_runEnd_0 : decode cX11_runEnd 0 = .ok (.aload_n 0, 1) := by decide +kernel
theorem dyX11_runEnd_1 : decode cX11_runEnd 1 = .ok (.aload_n 0, 1) := by decide +kernel
theorem dyX11_runEnd_2 : decode cX11_runEnd 2 = .ok (.getfield 44, 3) := by decide +kernel
theorem dyX11_runEnd_5 : decode cX11_runEnd 5 = .ok (.getfield 306, 3) := by decide +kernel
theorem dyX11_runEnd_8 : decode cX11_runEnd 8 = .ok (.iload_n 1, 1) := by decide +kernel
theorem dyX11_runEnd_9 : decode cX11_runEnd 9 = .ok (.invokevirtual 166, 3) := by decide +kernel
theorem dyX11_runEnd_12 : decode cX11_runEnd 12 = .ok (.invokevirtual 276, 3) := by decide +kernel
theorem dyX11_runEnd_15 : decode cX11_runEnd 15 = .ok (.ireturn, 1) := by decide +kernel
theorem zsg_yX11_runEnd : yX11_runEnd.cls = RX11 ∧ yX11_runEnd.cls ≠ "java/lang/invoke/MethodHandle" ∧ yX11_runEnd.cls ≠ "java/lang/invoke/VarHandle" ∧ (parseMethodDescriptor yX11_runEnd.desc).map (fun d => d.parameters.length) = some 1 := by decide +kernel
set_option maxRecDepth 20000 in
theorem c_Desk_runEnd {l : Launch} {D : va_G} {B : Nat} {cA : Nat → ClassId} {ad : Nat → Nat} {S : List zC} (hS : zOkX S) {a1 : Int32} {I : zI} {K : Int32 → Prop}  (h : w_Desk_runEnd a1 I K) : Met l yX11_runEnd (zws yX11_runEnd cX11_runEnd 2 (some .int)) (zrm 4 87) (zPc D B cA ad [.ref (B + 0), .int a1] S I) (zQc D B cA (zpI S I K)) 0 0 (fun q => B ≤ q) := by
  refine zm_of (cc := cX11_runEnd) (maxL := 2) (ret := (some .int)) (by decide +kernel) rfl (Nat.le_of_ble_eq_true rfl) trivial ?_
  intro p e s m args below meth c C _
  unfold w_Desk_runEnd at h
  show zX p l e (zrm 4 87) s m args below meth c (MQ below (zQc D B cA (zpI S I K)) args s 0 0 (fun q => B ≤ q)) D B cA 2 0 0 S I [(0, .ref (B + 0)), (1, .int a1)] [] 0
  refine zr_aload_n C dyX11_runEnd_0 rfl 0 rfl ?_
  refine zr_aload_n C dyX11_runEnd_1 rfl 0 rfl ?_
  refine zg_11_44 C hS dyX11_runEnd_2 ?_
  refine zg_11_306 C hS dyX11_runEnd_5 ?_
  refine zr_iload_n C dyX11_runEnd_8 rfl 1 rfl ?_
  refine zv_11_166 C hS (zIsRow.of hS zir_62) (st := [.ref (B + 0)]) h ⟨Nat.le_of_ble_eq_true rfl, Nat.le_of_ble_eq_true rfl⟩ (Nat.le_of_ble_eq_true rfl) dyX11_runEnd_9 (fun r_1 h => ?_)
  refine zv_11_276 C hS (st := []) h ⟨Nat.le_of_ble_eq_true rfl, Nat.le_of_ble_eq_true rfl⟩ (Nat.le_of_ble_eq_true rfl) dyX11_runEnd_12 (fun r_2 h => ?_)
  exact zr_iret C rfl dyX11_runEnd_15 ⟨rfl, rfl, _, rfl, h⟩
theorem zv_11_187 {p : Program} {l : Launch} {e : Env} {R : Room} {s : State} {m : MethodId} {args : Array Value} {below : List Frame} {meth : Method} {c : Code} {Q : State → Prop} {D : va_G} {B : Nat} {cA : Nat → ClassId} {ad : Nat → Nat} {cc : ByteArray} {nL : Nat} {ret : Option FieldType} {S : List zC} {I : zI} {lv : List (Nat × Value)} {st : List Value} {pc : Nat} (C : zCx p s m args meth c cc nL RX11 ret D B cA ad) {K : Int32 → Prop} {xa1 : Int32} (hS : zOkX S)  (h : w_TreeView_hasRun xa1 I K) (hR : 0 + 1 ≤ R.frames ∧ 8 + (2 + 11) + (0) ≤ R.locals) (hw : (st.map fun v => v.category).sum ≤ 8) (hd : decode cc pc = .ok (.invokevirtual 187, 3)) (kk : ∀ v, K v → zX p l e R s m args below meth c Q D B cA nL 0 0 S I lv (.int v :: st) (pc + 3)) : zX p l e R s m args below meth c Q D B cA nL 0 0 S I lv (.int xa1 :: .ref (B + 43) :: st) pc :=
  have hf : 0 ≤ R.cells ∧ 0 ≤ R.slots := ⟨Nat.zero_le _, Nat.zero_le _⟩
  zc_VpI C (ci := 9) (q := (RX9, TX9, 16)) (k := 43) (fs := [some (some 24), some (some 44), some (some 46), some (some 48), some (some 50), some (some 52), some (some 54), some (some 56), some (some 58), some (some 60), some (some 62), none, none, none, none, none]) (As := [.int xa1]) (st := st) rfl (hS _ _ zs_43) (c_TreeView_hasRun hS h) (zgV zk_ml_11_187 zk_im_yX9_hasRun zk_se_yX9_hasRun zk_in_9 zk_cd_yX9_hasRun) zsg_yX9_hasRun hR rfl rfl hw hd hf kk
theorem zv_11_190 {p : Program} {l : Launch} {e : Env} {R : Room} {s : State} {m : MethodId} {args : Array Value} {below : List Frame} {meth : Method} {c : Code} {Q : State → Prop} {D : va_G} {B : Nat} {cA : Nat → ClassId} {ad : Nat → Nat} {cc : ByteArray} {nL : Nat} {ret : Option FieldType} {S : List zC} {I : zI} {lv : List (Nat × Value)} {st : List Value} {pc : Nat} (C : zCx p s m args meth c cc nL RX11 ret D B cA ad) {K : Int32 → Prop} {xa1 : Int32} (hS : zOkX S)  (h : w_Desk_runStart xa1 I K) (hR : 4 + 1 ≤ R.frames ∧ 8 + (2 + 11) + (85) ≤ R.locals) (hw : (st.map fun v => v.category).sum ≤ 8) (hd : decode cc pc = .ok (.invokevirtual 190, 3)) (kk : ∀ v, K v → zX p l e R s m args below meth c Q D B cA nL 0 0 S I lv (.int v :: st) (pc + 3)) : zX p l e R s m args below meth c Q D B cA nL 0 0 S I lv (.int xa1 :: .ref (B + 0) :: st) pc :=
  have hf : 0 ≤ R.cells ∧ 0 ≤ R.slots := ⟨Nat.zero_le _, Nat.zero_le _⟩
  zc_VpI C (ci := 11) (q := (RX11, TX11, 19)) (k := 0) (fs := [some (some 1), none, some (some 3), some (some 4), none, none, none, none, some (some 22), some (some 24), some (some 43), some (some 64), some (some 69), some (some 88), some (some 97), some (some 100), some (some 109), some (some 111), none]) (As := [.int xa1]) (st := st) rfl (hS _ _ zs_0) (c_Desk_runStart hS h) (zgV zk_ml_11_190 zk_im_yX11_runStart zk_se_yX11_runStart zk_in_11 zk_cd_yX11_runStart) zsg_yX11_runStart hR rfl rfl hw hd hf kk
theorem zv_11_193 {p : Program} {l : Launch} {e : Env} {R : Room} {s : State} {m : MethodId} {args : Array Value} {below : List Frame} {meth : Method} {c : Code} {Q : State → Prop} {D : va_G} {B : Nat} {cA : Nat → ClassId} {ad : Nat → Nat} {cc : ByteArray} {nL : Nat} {ret : Option FieldType} {S : List zC} {I : zI} {lv : List (Nat × Value)} {st : List Value} {pc : Nat} (C : zCx p s m args meth c cc nL RX11 ret D B cA ad) {K : Int32 → Prop} {xa1 : Int32} (hS : zOkX S)  (h : w_Desk_runEnd xa1 I K) (hR : 4 + 1 ≤ R.frames ∧ 8 + (2 + 11) + (87) ≤ R.locals) (hw : (st.map fun v => v.category).sum ≤ 8) (hd : decode cc pc = .ok (.invokevirtual 193, 3)) (kk : ∀ v, K v → zX p l e R s m args below meth c Q D B cA nL 0 0 S I lv (.int v :: st) (pc + 3)) : zX p l e R s m args below meth c Q D B cA nL 0 0 S I lv (.int xa1 :: .ref (B + 0) :: st) pc :=
  have hf : 0 ≤ R.cells ∧ 0 ≤ R.slots := ⟨Nat.zero_le _, Nat.zero_le _⟩
  zc_VpI C (ci := 11) (q := (RX11, TX11, 19)) (k := 0) (fs := [some (some 1), none, some (some 3), some (some 4), none, none, none, none, some (some 22), some (some 24), some (some 43), some (some 64), some (some 69), some (some 88), some (some 97), some (some 100), some (some 109), some (some 111), none]) (As := [.int xa1]) (st := st) rfl (hS _ _ zs_0) (c_Desk_runEnd hS h) (zgV zk_ml_11_193 zk_im_yX11_runEnd zk_se_yX11_runEnd zk_in_11 zk_cd_yX11_runEnd) zsg_yX11_runEnd hR rfl rfl hw hd hf kk
def w_Desk_cut (a1 : Int32) (I : zI) (K : Int32 → zI → Prop) : Prop :=
  w_Desk_now I (fun r_1 => (if (I.1 r_1 3) = 0 then (K (-1) I) else (w_TreeView_hasRun a1 I (fun r_2 => (if r_2 = 0 then (K (-1) I) else (∀ I_3, I_3 = (zu I 4 1 0) → w_Desk_runStart a1 I_3 (fun r_4 => w_Moment_append 4 (r_1 + 1) 300 0 r_4 I_3 (fun I_5 => w_Desk_runEnd a1 I_5 (fun r_6 => w_Moment_append 4 (r_1 + 1) 300 r_6 (I_5.1 r_1 1) I_5 (fun I_7 => w_Desk_change 0 I_7 (fun r_8 I_9 => K r_8 I_9)))))))))))
theorem dyX11_cut_0 : decode cX11_cut 0 = .ok (.aload_n 0, 1) := by decide +kernel
theorem dyX11_cut_1 : decode cX11_cut 1 = .ok (.invokevirtual 126, 3) := by decide +kernel
theorem dyX11_cut_4 : decode cX11_cut 4 = .ok (.astore_n 2, 1) := by decide +kernel
theorem dyX11_cut_5 : decode cX11_cut 5 = .ok (.aload_n 2, 1) := by decide +kernel
theorem dyX11_cut_6 : decode cX11_cut 6 = .ok (.getfield 155, 3) := by decide +kernel
theorem dyX11_cut_9 : decode cX11_cut 9 = .ok (.ifCond .eq 14, 3) := by decide +kernel
theorem dyX11_cut_12 : decode cX11_cut 12 = .ok (.aload_n 0, 1) := by decide +kernel
theorem dyX11_cut_13 : decode cX11_cut 13 = .ok (.getfield 44, 3) := by decide +kernel
theorem dyX11_cut_16 : decode cX11_cut 16 = .ok (.iload_n 1, 1) := by decide +kernel
theorem dyX11_cut_17 : decode cX11_cut 17 = .ok (.invokevirtual 187, 3) := by decide +kernel
theorem dyX11_cut_20 : decode cX11_cut 20 = .ok (.ifCond .ne 5, 3) := by decide +kernel
theorem dyX11_cut_23 : decode cX11_cut 23 = .ok (.iconst (-1), 1) := by decide +kernel
theorem dyX11_cut_24 : decode cX11_cut 24 = .ok (.ireturn, 1) := by decide +kernel
theorem dyX11_cut_25 : decode cX11_cut 25 = .ok (.aload_n 0, 1) := by decide +kernel
theorem dyX11_cut_26 : decode cX11_cut 26 = .ok (.getfield 25, 3) := by decide +kernel
theorem dyX11_cut_29 : decode cX11_cut 29 = .ok (.iconst 0, 1) := by decide +kernel
theorem dyX11_cut_30 : decode cX11_cut 30 = .ok (.putfield 144, 3) := by decide +kernel
theorem dyX11_cut_33 : decode cX11_cut 33 = .ok (.aload_n 0, 1) := by decide +kernel
theorem dyX11_cut_34 : decode cX11_cut 34 = .ok (.getfield 25, 3) := by decide +kernel
theorem dyX11_cut_37 : decode cX11_cut 37 = .ok (.aload_n 2, 1) := by decide +kernel
theorem dyX11_cut_38 : decode cX11_cut 38 = .ok (.getfield 103, 3) := by decide +kernel
theorem dyX11_cut_41 : decode cX11_cut 41 = .ok (.iconst 0, 1) := by decide +kernel
theorem dyX11_cut_42 : decode cX11_cut 42 = .ok (.aload_n 0, 1) := by decide +kernel
theorem dyX11_cut_43 : decode cX11_cut 43 = .ok (.iload_n 1, 1) := by decide +kernel
theorem dyX11_cut_44 : decode cX11_cut 44 = .ok (.invokevirtual 190, 3) := by decide +kernel
theorem dyX11_cut_47 : decode cX11_cut 47 = .ok (.invokevirtual 147, 3) := by decide +kernel
theorem dyX11_cut_50 : decode cX11_cut 50 = .ok (.aload_n 0, 1) := by decide +kernel
theorem dyX11_cut_51 : decode cX11_cut 51 = .ok (.getfield 25, 3) := by decide +kernel
theorem dyX11_cut_54 : decode cX11_cut 54 = .ok (.aload_n 2, 1) := by decide +kernel
theorem dyX11_cut_55 : decode cX11_cut 55 = .ok (.getfield 103, 3) := by decide +kernel
theorem dyX11_cut_58 : decode cX11_cut 58 = .ok (.aload_n 0, 1) := by decide +kernel
theorem dyX11_cut_59 : decode cX11_cut 59 = .ok (.iload_n 1, 1) := by decide +kernel
theorem dyX11_cut_60 : decode cX11_cut 60 = .ok (.invokevirtual 193, 3) := by decide +kernel
theorem dyX11_cut_63 : decode cX11_cut 63 = .ok (.aload_n 2, 1) := by decide +kernel
theorem dyX11_cut_64 : decode cX11_cut 64 = .ok (.getfield 144, 3) := by decide +kernel
theorem dyX11_cut_67 : decode cX11_cut 67 = .ok (.invokevirtual 147, 3) := by decide +kernel
theorem dyX11_cut_70 : decode cX11_cut 70 = .ok (.aload_n 0, 1) := by decide +kernel
theorem dyX11_cut_71 : decode cX11_cut 71 = .ok (.iconst 0, 1) := by decide +kernel
theorem dyX11_cut_72 : decode cX11_cut 72 = .ok (.invokevirtual 151, 3) := by decide +kernel
theorem dyX11_cut_75 : decode cX11_cut 75 = .ok (.ireturn, 1) := by decide +kernel
theorem zsg_yX11_cut : yX11_cut.cls = RX11 ∧ yX11_cut.cls ≠ "java/lang/invoke/MethodHandle" ∧ yX11_cut.cls ≠ "java/lang/invoke/VarHandle" ∧ (parseMethodDescriptor yX11_cut.desc).map (fun d => d.parameters.length) = some 1 := by decide +kernel
set_option maxRecDepth 20000 in
theorem c_Desk_cut {l : Launch} {D : va_G} {B : Nat} {cA : Nat → ClassId} {ad : Nat → Nat} {S : List zC} (hS : zOkX S) {a1 : Int32} {I : zI} {K : Int32 → zI → Prop}  (h : w_Desk_cut a1 I K) : Met l yX11_cut (zws yX11_cut cX11_cut 3 (some .int)) (zrm 18 594) (zPc D B cA ad [.ref (B + 0), .int a1] S I) (zQc D B cA (zqI S K)) 0 0 (fun q => B ≤ q) := by
  refine zm_of (cc := cX11_cut) (maxL := 3) (ret := (some .int)) (by decide +kernel) rfl (Nat.le_of_ble_eq_true rfl) trivial ?_
  intro p e s m args below meth c C _
  unfold w_Desk_cut at h
  show zX p l e (zrm 18 594) s m args below meth c (MQ below (zQc D B cA (zqI S K)) args s 0 0 (fun q => B ≤ q)) D B cA 3 0 0 S I [(0, .ref (B + 0)), (1, .int a1)] [] 0
  refine zr_aload_n C dyX11_cut_0 rfl 0 rfl ?_
  refine zv_11_126 C hS (st := []) h ⟨Nat.le_of_ble_eq_true rfl, Nat.le_of_ble_eq_true rfl⟩ (Nat.le_of_ble_eq_true rfl) dyX11_cut_1 (fun r_1 hr_1 h => ?_)
  refine zr_astore_n C dyX11_cut_4 rfl (Nat.le_of_ble_eq_true rfl) (lv2 := [(2, .ref (B + r_1)), (0, .ref (B + 0)), (1, .int a1)]) rfl ?_
  refine zr_aload_n C dyX11_cut_5 rfl 0 rfl ?_
  refine zg_11_155 C hr_1 dyX11_cut_6 ?_
  refine zr_if_eq C dyX11_cut_9 (tgt := 23) (by decide) (fun hc_11 => ?_) (fun hc_11 => ?_)
  · replace h := zif_pos hc_11 h
    refine zr_iconst C dyX11_cut_23 zc_i_m1 ?_
    exact zr_iret C rfl dyX11_cut_24 ⟨rfl, _, rfl, h⟩
  · replace h := zif_neg hc_11 h
    refine zr_aload_n C dyX11_cut_12 rfl 1 rfl ?_
    refine zg_11_44 C hS dyX11_cut_13 ?_
    refine zr_iload_n C dyX11_cut_16 rfl 2 rfl ?_
    refine zv_11_187 C hS (st := []) h ⟨Nat.le_of_ble_eq_true rfl, Nat.le_of_ble_eq_true rfl⟩ (Nat.le_of_ble_eq_true rfl) dyX11_cut_17 (fun r_2 h => ?_)
    refine zr_if_ne C dyX11_cut_20 (tgt := 25) (by decide) (fun hc_10 => ?_) (fun hc_10 => ?_)
    · replace h := zif_neg hc_10 h
      refine zr_aload_n C dyX11_cut_25 rfl 1 rfl ?_
      refine zg_11_25 C hS dyX11_cut_26 ?_
      refine zr_iconst C dyX11_cut_29 zc_i_0 ?_
      refine zp_11_144 C (zIsMoment.of hS zit_4) dyX11_cut_30 ?_
      refine zn_mem C (fun I_3 eI_3 => ?_)
      replace h := h I_3 eI_3
      refine zr_aload_n C dyX11_cut_33 rfl 1 rfl ?_
      refine zg_11_25 C hS dyX11_cut_34 ?_
      refine zr_aload_n C dyX11_cut_37 rfl 0 rfl ?_
      refine zg_11_103 C hr_1 dyX11_cut_38 ?_
      refine zr_iconst C dyX11_cut_41 zc_i_0 ?_
      refine zr_aload_n C dyX11_cut_42 rfl 1 rfl ?_
      refine zr_iload_n C dyX11_cut_43 rfl 2 rfl ?_
      refine zv_11_190 C hS (st := [.int 0, .ref (B + (r_1 + 1)), .ref (B + 4)]) h ⟨Nat.le_of_ble_eq_true rfl, Nat.le_of_ble_eq_true rfl⟩ (Nat.le_of_ble_eq_true rfl) dyX11_cut_44 (fun r_4 h => ?_)
      refine zv_11_147 C hS (zIsMoment.of hS zit_4) hr_1.2.1 (st := []) h ⟨Nat.le_of_ble_eq_true rfl, Nat.le_of_ble_eq_true rfl⟩ (Nat.le_of_ble_eq_true rfl) dyX11_cut_47 (fun I_5 h => ?_)
      refine zr_aload_n C dyX11_cut_50 rfl 1 rfl ?_
      refine zg_11_25 C hS dyX11_cut_51 ?_
      refine zr_aload_n C dyX11_cut_54 rfl 0 rfl ?_
      refine zg_11_103 C hr_1 dyX11_cut_55 ?_
      refine zr_aload_n C dyX11_cut_58 rfl 1 rfl ?_
      refine zr_iload_n C dyX11_cut_59 rfl 2 rfl ?_
      refine zv_11_193 C hS (st := [.ref (B + (r_1 + 1)), .ref (B + 4)]) h ⟨Nat.le_of_ble_eq_true rfl, Nat.le_of_ble_eq_true rfl⟩ (Nat.le_of_ble_eq_true rfl) dyX11_cut_60 (fun r_6 h => ?_)
      refine zr_aload_n C dyX11_cut_63 rfl 0 rfl ?_
      refine zg_11_144 C hr_1 dyX11_cut_64 ?_
      refine zv_11_147 C hS (zIsMoment.of hS zit_4) hr_1.2.1 (st := []) h ⟨Nat.le_of_ble_eq_true rfl, Nat.le_of_ble_eq_true rfl⟩ (Nat.le_of_ble_eq_true rfl) dyX11_cut_67 (fun I_7 h => ?_)
      refine zr_aload_n C dyX11_cut_70 rfl 1 rfl ?_
      refine zr_iconst C dyX11_cut_71 zc_i_0 ?_
      refine zv_11_151 C hS (st := []) h ⟨Nat.le_of_ble_eq_true rfl, Nat.le_of_ble_eq_true rfl⟩ (Nat.le_of_ble_eq_true rfl) dyX11_cut_72 (fun r_8 I_9 h => ?_)
      exact zr_iret C rfl dyX11_cut_75 ⟨rfl, _, rfl, h⟩
    · replace h := zif_pos hc_10 h
      refine zr_iconst C dyX11_cut_23 zc_i_m1 ?_
      exact zr_iret C rfl dyX11_cut_24 ⟨rfl, _, rfl, h⟩
def w_Desk_twin (a1 : Int32) (I : zI) (K : Int32 → zI → Prop) : Prop :=
  w_Desk_now I (fun r_1 => (if (I.1 r_1 3) = 0 then (K (-1) I) else (w_TreeView_hasRun a1 I (fun r_2 => (if r_2 = 0 then (K (-1) I) else (∀ I_3, I_3 = (zu I 4 1 0) → w_Desk_runEnd a1 I_3 (fun r_4 => w_Moment_append 4 (r_1 + 1) 300 0 r_4 I_3 (fun I_5 => w_Desk_runStart a1 I_5 (fun r_6 => w_Moment_append 4 (r_1 + 1) 300 r_6 (I_5.1 r_1 1) I_5 (fun I_7 => w_Desk_change 0 I_7 (fun r_8 I_9 => K r_8 I_9)))))))))))
theorem dyX11_twin_0 : decode cX11_twin 0 = .ok (.aload_n 0, 1) := by decide +kernel
theorem dyX11_twin_1 : decode cX11_twin 1 = .ok (.invokevirtual 126, 3) := by decide +kernel
theorem dyX11_twin_4 : decode cX11_twin 4 = .ok (.astore_n 2, 1) := by decide +kernel
theorem dyX11_twin_5 : decode cX11_twin 5 = .ok (.aload_n 2, 1) := by decide +kernel
theorem dyX11_twin_6 : decode cX11_twin 6 = .ok (.getfield 155, 3) := by decide +kernel
theorem dyX11_twin_9 : decode cX11_twin 9 = .ok (.ifCond .eq 14, 3) := by decide +kernel
theorem dyX11_twin_12 : decode cX11_twin 12 = .ok (.aload_n 0, 1) := by decide +kernel
theorem dyX11_twin_13 : decode cX11_twin 13 = .ok (.getfield 44, 3) := by decide +kernel
theorem dyX11_twin_16 : decode cX11_twin 16 = .ok (.iload_n 1, 1) := by decide +kernel
theorem dyX11_twin_17 : decode cX11_twin 17 = .ok (.invokevirtual 187, 3) := by decide +kernel
theorem dyX11_twin_20 : decode cX11_twin 20 = .ok (.ifCond .ne 5, 3) := by decide +kernel
theorem dyX11_twin_23 : decode cX11_twin 23 = .ok (.iconst (-1), 1) := by decide +kernel
theorem dyX11_twin_24 : decode cX11_twin 24 = .ok (.ireturn, 1) := by decide +kernel
theorem dyX11_twin_25 : decode cX11_twin 25 = .ok (.aload_n 0, 1) := by decide +kernel
theorem dyX11_twin_26 : decode cX11_twin 26 = .ok (.getfield 25, 3) := by decide +kernel
theorem dyX11_twin_29 : decode cX11_twin 29 = .ok (.iconst 0, 1) := by decide +kernel
theorem dyX11_twin_30 : decode cX11_twin 30 = .ok (.putfield 144, 3) := by decide +kernel
theorem dyX11_twin_33 : decode cX11_twin 33 = .ok (.aload_n 0, 1) := by decide +kernel
theorem dyX11_twin_34 : decode cX11_twin 34 = .ok (.getfield 25, 3) := by decide +kernel
theorem dyX11_twin_37 : decode cX11_twin 37 = .ok (.aload_n 2, 1) := by decide +kernel
theorem dyX11_twin_38 : decode cX11_twin 38 = .ok (.getfield 103, 3) := by decide +kernel
theorem dyX11_twin_41 : decode cX11_twin 41 = .ok (.iconst 0, 1) := by decide +kernel
theorem dyX11_twin_42 : decode cX11_twin 42 = .ok (.aload_n 0, 1) := by decide +kernel
theorem dyX11_twin_43 : decode cX11_twin 43 = .ok (.iload_n 1, 1) := by decide +kernel
theorem dyX11_twin_44 : decode cX11_twin 44 = .ok (.invokevirtual 193, 3) := by decide +kernel
theorem dyX11_twin_47 : decode cX11_twin 47 = .ok (.invokevirtual 147, 3) := by decide +kernel
theorem dyX11_twin_50 : decode cX11_twin 50 = .ok (.aload_n 0, 1) := by decide +kernel
theorem dyX11_twin_51 : decode cX11_twin 51 = .ok (.getfield 25, 3) := by decide +kernel
theorem dyX11_twin_54 : decode cX11_twin 54 = .ok (.aload_n 2, 1) := by decide +kernel
theorem dyX11_twin_55 : decode cX11_twin 55 = .ok (.getfield 103, 3) := by decide +kernel
theorem dyX11_twin_58 : decode cX11_twin 58 = .ok (.aload_n 0, 1) := by decide +kernel
theorem dyX11_twin_59 : decode cX11_twin 59 = .ok (.iload_n 1, 1) := by decide +kernel
theorem dyX11_twin_60 : decode cX11_twin 60 = .ok (.invokevirtual 190, 3) := by decide +kernel
theorem dyX11_twin_63 : decode cX11_twin 63 = .ok (.aload_n 2, 1) := by decide +kernel
theorem dyX11_twin_64 : decode cX11_twin 64 = .ok (.getfield 144, 3) := by decide +kernel
theorem dyX11_twin_67 : decode cX11_twin 67 = .ok (.invokevirtual 147, 3) := by decide +kernel
theorem dyX11_twin_70 : decode cX11_twin 70 = .ok (.aload_n 0, 1) := by decide +kernel
theorem dyX11_twin_71 : decode cX11_twin 71 = .ok (.iconst 0, 1) := by decide +kernel
theorem dyX11_twin_72 : decode cX11_twin 72 = .ok (.invokevirtual 151, 3) := by decide +kernel
theorem dyX11_twin_75 : decode cX11_twin 75 = .ok (.ireturn, 1) := by decide +kernel
theorem zsg_yX11_twin : yX11_twin.cls = RX11 ∧ yX11_twin.cls ≠ "java/lang/invoke/MethodHandle" ∧ yX11_twin.cls ≠ "java/lang/invoke/VarHandle" ∧ (parseMethodDescriptor yX11_twin.desc).map (fun d => d.parameters.length) = some 1 := by decide +kernel
set_option maxRecDepth 20000 in
theorem c_Desk_twin {l : Launch} {D : va_G} {B : Nat} {cA : Nat → ClassId} {ad : Nat → Nat} {S : List zC} (hS : zOkX S) {a1 : Int32} {I : zI} {K : Int32 → zI → Prop}  (h : w_Desk_twin a1 I K) : Met l yX11_twin (zws yX11_twin cX11_twin 3 (some .int)) (zrm 18 594) (zPc D B cA ad [.ref (B + 0), .int a1] S I) (zQc D B cA (zqI S K)) 0 0 (fun q => B ≤ q) := by
  refine zm_of (cc := cX11_twin) (maxL := 3) (ret := (some .int)) (by decide +kernel) rfl (Nat.le_of_ble_eq_true rfl) trivial ?_
  intro p e s m args below meth c C _
  unfold w_Desk_twin at h
  show zX p l e (zrm 18 594) s m args below meth c (MQ below (zQc D B cA (zqI S K)) args s 0 0 (fun q => B ≤ q)) D B cA 3 0 0 S I [(0, .ref (B + 0)), (1, .int a1)] [] 0
  refine zr_aload_n C dyX11_twin_0 rfl 0 rfl ?_
  refine zv_11_126 C hS (st := []) h ⟨Nat.le_of_ble_eq_true rfl, Nat.le_of_ble_eq_true rfl⟩ (Nat.le_of_ble_eq_true rfl) dyX11_twin_1 (fun r_1 hr_1 h => ?_)
  refine zr_astore_n C dyX11_twin_4 rfl (Nat.le_of_ble_eq_true rfl) (lv2 := [(2, .ref (B + r_1)), (0, .ref (B + 0)), (1, .int a1)]) rfl ?_
  refine zr_aload_n C dyX11_twin_5 rfl 0 rfl ?_
  refine zg_11_155 C hr_1 dyX11_twin_6 ?_
  refine zr_if_eq C dyX11_twin_9 (tgt := 23) (by decide) (fun hc_11 => ?_) (fun hc_11 => ?_)
  · replace h := zif_pos hc_11 h
    refine zr_iconst C dyX11_twin_23 zc_i_m1 ?_
    exact zr_iret C rfl dyX11_twin_24 ⟨rfl, _, rfl, h⟩
  · replace h := zif_neg hc_11 h
    refine zr_aload_n C dyX11_twin_12 rfl 1 rfl ?_
    refine zg_11_44 C hS dyX11_twin_13 ?_
    refine zr_iload_n C dyX11_twin_16 rfl 2 rfl ?_
    refine zv_11_187 C hS (st := []) h ⟨Nat.le_of_ble_eq_true rfl, Nat.le_of_ble_eq_true rfl⟩ (Nat.le_of_ble_eq_true rfl) dyX11_twin_17 (fun r_2 h => ?_)
    refine zr_if_ne C dyX11_twin_20 (tgt := 25) (by decide) (fun hc_10 => ?_) (fun hc_10 => ?_)
    · replace h := zif_neg hc_10 h
      refine zr_aload_n C dyX11_twin_25 rfl 1 rfl ?_
      refine zg_11_25 C hS dyX11_twin_26 ?_
      refine zr_iconst C dyX11_twin_29 zc_i_0 ?_
      refine zp_11_144 C (zIsMoment.of hS zit_4) dyX11_twin_30 ?_
      refine zn_mem C (fun I_3 eI_3 => ?_)
      replace h := h I_3 eI_3
      refine zr_aload_n C dyX11_twin_33 rfl 1 rfl ?_
      refine zg_11_25 C hS dyX11_twin_34 ?_
      refine zr_aload_n C dyX11_twin_37 rfl 0 rfl ?_
      refine zg_11_103 C hr_1 dyX11_twin_38 ?_
      refine zr_iconst C dyX11_twin_41 zc_i_0 ?_
      refine zr_aload_n C dyX11_twin_42 rfl 1 rfl ?_
      refine zr_iload_n C dyX11_twin_43 rfl 2 rfl ?_
      refine zv_11_193 C hS (st := [.int 0, .ref (B + (r_1 + 1)), .ref (B + 4)]) h ⟨Nat.le_of_ble_eq_true rfl, Nat.le_of_ble_eq_true rfl⟩ (Nat.le_of_ble_eq_true rfl) dyX11_twin_44 (fun r_4 h => ?_)
      refine zv_11_147 C hS (zIsMoment.of hS zit_4) hr_1.2.1 (st := []) h ⟨Nat.le_of_ble_eq_true rfl, Nat.le_of_ble_eq_true rfl⟩ (Nat.le_of_ble_eq_true rfl) dyX11_twin_47 (fun I_5 h => ?_)
      refine zr_aload_n C dyX11_twin_50 rfl 1 rfl ?_
      refine zg_11_25 C hS dyX11_twin_51 ?_
      refine zr_aload_n C dyX11_twin_54 rfl 0 rfl ?_
      refine zg_11_103 C hr_1 dyX11_twin_55 ?_
      refine zr_aload_n C dyX11_twin_58 rfl 1 rfl ?_
      refine zr_iload_n C dyX11_twin_59 rfl 2 rfl ?_
      refine zv_11_190 C hS (st := [.ref (B + (r_1 + 1)), .ref (B + 4)]) h ⟨Nat.le_of_ble_eq_true rfl, Nat.le_of_ble_eq_true rfl⟩ (Nat.le_of_ble_eq_true rfl) dyX11_twin_60 (fun r_6 h => ?_)
      refine zr_aload_n C dyX11_twin_63 rfl 0 rfl ?_
      refine zg_11_144 C hr_1 dyX11_twin_64 ?_
      refine zv_11_147 C hS (zIsMoment.of hS zit_4) hr_1.2.1 (st := []) h ⟨Nat.le_of_ble_eq_true rfl, Nat.le_of_ble_eq_true rfl⟩ (Nat.le_of_ble_eq_true rfl) dyX11_twin_67 (fun I_7 h => ?_)
      refine zr_aload_n C dyX11_twin_70 rfl 1 rfl ?_
      refine zr_iconst C dyX11_twin_71 zc_i_0 ?_
      refine zv_11_151 C hS (st := []) h ⟨Nat.le_of_ble_eq_true rfl, Nat.le_of_ble_eq_true rfl⟩ (Nat.le_of_ble_eq_true rfl) dyX11_twin_72 (fun r_8 I_9 h => ?_)
      exact zr_iret C rfl dyX11_twin_75 ⟨rfl, _, rfl, h⟩
    · replace h := zif_pos hc_10 h
      refine zr_iconst C dyX11_twin_23 zc_i_m1 ?_
      exact zr_iret C rfl dyX11_twin_24 ⟨rfl, _, rfl, h⟩
def w_Desk_swap (a1 : Int32) (I : zI) (K : Int32 → zI → Prop) : Prop :=
  w_Desk_now I (fun r_1 => (if (I.1 r_1 3) = 0 then (K (-1) I) else (w_TreeView_hasRun a1 I (fun r_2 => (if r_2 = 0 then (K (-1) I) else (w_TreeView_hasRun (a1 + 1) I (fun r_3 => (if r_3 = 0 then (K (-1) I) else (∀ I_4, I_4 = (zu I 4 1 0) → w_Desk_runStart a1 I_4 (fun r_5 => w_Moment_append 4 (r_1 + 1) 300 0 r_5 I_4 (fun I_6 => w_Desk_runStart (a1 + 1) I_6 (fun r_7 => w_Desk_runEnd (a1 + 1) I_6 (fun r_8 => w_Moment_append 4 (r_1 + 1) 300 r_7 r_8 I_6 (fun I_9 => w_Desk_runEnd a1 I_9 (fun r_10 => w_Desk_runStart (a1 + 1) I_9 (fun r_11 => w_Moment_append 4 (r_1 + 1) 300 r_10 r_11 I_9 (fun I_12 => w_Desk_runStart a1 I_12 (fun r_13 => w_Desk_runEnd a1 I_12 (fun r_14 => w_Moment_append 4 (r_1 + 1) 300 r_13 r_14 I_12 (fun I_15 => w_Desk_runEnd (a1 + 1) I_15 (fun r_16 => w_Moment_append 4 (r_1 + 1) 300 r_16 (I_15.1 r_1 1) I_15 (fun I_17 => w_Desk_change 0 I_17 (fun r_18 I_19 => K r_18 I_19)))))))))))))))))))))))
theorem dyX11_swap_0 : decode cX11_swap 0 = .ok (.aload_n 0, 1) := by decide +kernel
theorem dyX11_swap_1 : decode cX11_swap 1 = .ok (.invokevirtual 126, 3) := by decide +kernel
theorem dyX11_swap_4 : decode cX11_swap 4 = .ok (.astore_n 2, 1) := by decide +kernel
theorem dyX11_swap_5 : decode cX11_swap 5 = .ok (.aload_n 2, 1) := by decide +kernel
theorem dyX11_swap_6 : decode cX11_swap 6 = .ok (.getfield 155, 3) := by decide +kernel
theorem dyX11_swap_9 : decode cX11_swap 9 = .ok (.ifCond .eq 27, 3) := by decide +kernel
theorem dyX11_swap_12 : decode cX11_swap 12 = .ok (.aload_n 0, 1) := by decide +kernel
theorem dyX11_swap_13 : decode cX11_swap 13 = .ok (.getfield 44, 3) := by decide +kernel
theorem dyX11_swap_16 : decode cX11_swap 16 = .ok (.iload_n 1, 1) := by decide +kernel
theorem dyX11_swap_17 : decode cX11_swap 17 = .ok (.invokevirtual 187, 3) := by decide +kernel
theorem dyX11_swap_20 : decode cX11_swap 20 = .ok (.ifCond .eq 16, 3) := by decide +kernel
theorem dyX11_swap_23 : decode cX11_swap 23 = .ok (.aload_n 0, 1) := by decide +kernel
theorem dyX11_swap_24 : decode cX11_swap 24 = .ok (.getfield 44, 3) := by decide +kernel
theorem dyX11_swap_27 : decode cX11_swap 27 = .ok (.iload_n 1, 1) := by decide +kernel
theorem dyX11_swap_28 : decode cX11_swap 28 = .ok (.iconst 1, 1) := by decide +kernel
theorem dyX11_swap_29 : decode cX11_swap 29 = .ok (.iadd, 1) := by decide +kernel
theorem dyX11_swap_30 : decode cX11_swap 30 = .ok (.invokevirtual 187, 3) := by decide +kernel
theorem dyX11_swap_33 : decode cX11_swap 33 = .ok (.ifCond .ne 5, 3) := by decide +kernel
theorem dyX11_swap_36 : decode cX11_swap 36 = .ok (.iconst (-1), 1) := by decide +kernel
theorem dyX11_swap_37 : decode cX11_swap 37 = .ok (.ireturn, 1) := by decide +kernel
theorem dyX11_swap_38 : decode cX11_swap 38 = .ok (.aload_n 0, 1) := by decide +kernel
theorem dyX11_swap_39 : decode cX11_swap 39 = .ok (.getfield 25, 3) := by decide +kernel
theorem dyX11_swap_42 : decode cX11_swap 42 = .ok (.iconst 0, 1) := by decide +kernel
theorem dyX11_swap_43 : decode cX11_swap 43 = .ok (.putfield 144, 3) := by decide +kernel
theorem dyX11_swap_46 : decode cX11_swap 46 = .ok (.aload_n 0, 1) := by decide +kernel
theorem dyX11_swap_47 : decode cX11_swap 47 = .ok (.getfield 25, 3) := by decide +kernel
theorem dyX11_swap_50 : decode cX11_swap 50 = .ok (.aload_n 2, 1) := by decide +kernel
theorem dyX11_swap_51 : decode cX11_swap 51 = .ok (.getfield 103, 3) := by decide +kernel
theorem dyX11_swap_54 : decode cX11_swap 54 = .ok (.iconst 0, 1) := by decide +kernel
theorem dyX11_swap_55 : decode cX11_swap 55 = .ok (.aload_n 0, 1) := by decide +kernel
theorem dyX11_swap_56 : decode cX11_swap 56 = .ok (.iload_n 1, 1) := by decide +kernel
theorem dyX11_swap_57 : decode cX11_swap 57 = .ok (.invokevirtual 190, 3) := by decide +kernel
theorem dyX11_swap_60 : decode cX11_swap 60 = .ok (.invokevirtual 147, 3) := by decide +kernel
theorem dyX11_swap_63 : decode cX11_swap 63 = .ok (.aload_n 0, 1) := by decide +kernel
theorem dyX11_swap_64 : decode cX11_swap 64 = .ok (.getfield 25, 3) := by decide +kernel
theorem dyX11_swap_67 : decode cX11_swap 67 = .ok (.aload_n 2, 1) := by decide +kernel
theorem dyX11_swap_68 : decode cX11_swap 68 = .ok (.getfield 103, 3) := by decide +kernel
theorem dyX11_swap_71 : decode cX11_swap 71 = .ok (.aload_n 0, 1) := by decide +kernel
theorem dyX11_swap_72 : decode cX11_swap 72 = .ok (.iload_n 1, 1) := by decide +kernel
theorem dyX11_swap_73 : decode cX11_swap 73 = .ok (.iconst 1, 1) := by decide +kernel
theorem dyX11_swap_74 : decode cX11_swap 74 = .ok (.iadd, 1) := by decide +kernel
theorem dyX11_swap_75 : decode cX11_swap 75 = .ok (.invokevirtual 190, 3) := by decide +kernel
theorem dyX11_swap_78 : decode cX11_swap 78 = .ok (.aload_n 0, 1) := by decide +kernel
theorem dyX11_swap_79 : decode cX11_swap 79 = .ok (.iload_n 1, 1) := by decide +kernel
theorem dyX11_swap_80 : decode cX11_swap 80 = .ok (.iconst 1, 1) := by decide +kernel
theorem dyX11_swap_81 : decode cX11_swap 81 = .ok (.iadd, 1) := by decide +kernel
theorem dyX11_swap_82 : decode cX11_swap 82 = .ok (.invokevirtual 193, 3) := by decide +kernel
theorem dyX11_swap_85 : decode cX11_swap 85 = .ok (.invokevirtual 147, 3) := by decide +kernel
theorem dyX11_swap_88 : decode cX11_swap 88 = .ok (.aload_n 0, 1) := by decide +kernel
theorem dyX11_swap_89 : decode cX11_swap 89 = .ok (.getfield 25, 3) := by decide +kernel
theorem dyX11_swap_92 : decode cX11_swap 92 = .ok (.aload_n 2, 1) := by decide +kernel
theorem dyX11_swap_93 : decode cX11_swap 93 = .ok (.getfield 103, 3) := by decide +kernel
theorem dyX11_swap_96 : decode cX11_swap 96 = .ok (.aload_n 0, 1) := by decide +kernel
theorem dyX11_swap_97 : decode cX11_swap 97 = .ok (.iload_n 1, 1) := by decide +kernel
theorem dyX11_swap_98 : decode cX11_swap 98 = .ok (.invokevirtual 193, 3) := by decide +kernel
theorem dyX11_swap_101 : decode cX11_swap 101 = .ok (.aload_n 0, 1) := by decide +kernel
theorem dyX11_swap_102 : decode cX11_swap 102 = .ok (.iload_n 1, 1) := by decide +kernel
theorem dyX11_swap_103 : decode cX11_swap 103 = .ok (.iconst 1, 1) := by decide +kernel
theorem dyX11_swap_104 : decode cX11_swap 104 = .ok (.iadd, 1) := by decide +kernel
theorem dyX11_swap_105 : decode cX11_swap 105 = .ok (.invokevirtual 190, 3) := by decide +kernel
theorem dyX11_swap_108 : decode cX11_swap 108 = .ok (.invokevirtual 147, 3) := by decide +kernel
theorem dyX11_swap_111 : decode cX11_swap 111 = .ok (.aload_n 0, 1) := by decide +kernel
theorem dyX11_swap_112 : decode cX11_swap 112 = .ok (.getfield 25, 3) := by decide +kernel
theorem dyX11_swap_115 : decode cX11_swap 115 = .ok (.aload_n 2, 1) := by decide +kernel
theorem dyX11_swap_116 : decode cX11_swap 116 = .ok (.getfield 103, 3) := by decide +kernel
theorem dyX11_swap_119 : decode cX11_swap 119 = .ok (.aload_n 0, 1) := by decide +kernel
theorem dyX11_swap_120 : decode cX11_swap 120 = .ok (.iload_n 1, 1) := by decide +kernel
theorem dyX11_swap_121 : decode cX11_swap 121 = .ok (.invokevirtual 190, 3) := by decide +kernel
theorem dyX11_swap_124 : decode cX11_swap 124 = .ok (.aload_n 0, 1) := by decide +kernel
theorem dyX11_swap_125 : decode cX11_swap 125 = .ok (.iload_n 1, 1) := by decide +kernel
theorem dyX11_swap_126 : decode cX11_swap 126 = .ok (.invokevirtual 193, 3) := by decide +kernel
theorem dyX11_swap_129 : decode cX11_swap 129 = .ok (.invokevirtual 147, 3) := by decide +kernel
theorem dyX11_swap_132 : decode cX11_swap 132 = .ok (.aload_n 0, 1) := by decide +kernel
theorem dyX11_swap_133 : decode cX11_swap 133 = .ok (.getfield 25, 3) := by decide +kernel
theorem dyX11_swap_136 : decode cX11_swap 136 = .ok (.aload_n 2, 1) := by decide +kernel
theorem dyX11_swap_137 : decode cX11_swap 137 = .ok (.getfield 103, 3) := by decide +kernel
theorem dyX11_swap_140 : decode cX11_swap 140 = .ok (.aload_n 0, 1) := by decide +kernel
theorem dyX11_swap_141 : decode cX11_swap 141 = .ok (.iload_n 1, 1) := by decide +kernel
theorem dyX11_swap_142 : decode cX11_swap 142 = .ok (.iconst 1, 1) := by decide +kernel
theorem dyX11_swap_143 : decode cX11_swap 143 = .ok (.iadd, 1) := by decide +kernel
theorem dyX11_swap_144 : decode cX11_swap 144 = .ok (.invokevirtual 193, 3) := by decide +kernel
theorem dyX11_swap_147 : decode cX11_swap 147 = .ok (.aload_n 2, 1) := by decide +kernel
theorem dyX11_swap_148 : decode cX11_swap 148 = .ok (.getfield 144, 3) := by decide +kernel
theorem dyX11_swap_151 : decode cX11_swap 151 = .ok (.invokevirtual 147, 3) := by decide +kernel
theorem dyX11_swap_154 : decode cX11_swap 154 = .ok (.aload_n 0, 1) := by decide +kernel
theorem dyX11_swap_155 : decode cX11_swap 155 = .ok (.iconst 0, 1) := by decide +kernel
theorem dyX11_swap_156 : decode cX11_swap 156 = .ok (.invokevirtual 151, 3) := by decide +kernel
theorem dyX11_swap_159 : decode cX11_swap 159 = .ok (.ireturn, 1) := by decide +kernel
theorem zsg_yX11_swap : yX11_swap.cls = RX11 ∧ yX11_swap.cls ≠ "java/lang/invoke/MethodHandle" ∧ yX11_swap.cls ≠ "java/lang/invoke/VarHandle" ∧ (parseMethodDescriptor yX11_swap.desc).map (fun d => d.parameters.length) = some 1 := by decide +kernel
set_option maxRecDepth 20000 in
theorem c_Desk_swap {l : Launch} {D : va_G} {B : Nat} {cA : Nat → ClassId} {ad : Nat → Nat} {S : List zC} (hS : zOkX S) {a1 : Int32} {I : zI} {K : Int32 → zI → Prop}  (h : w_Desk_swap a1 I K) : Met l yX11_swap (zws yX11_swap cX11_swap 3 (some .int)) (zrm 18 594) (zPc D B cA ad [.ref (B + 0), .int a1] S I) (zQc D B cA (zqI S K)) 0 0 (fun q => B ≤ q) := by
  refine zm_of (cc := cX11_swap) (maxL := 3) (ret := (some .int)) (by decide +kernel) rfl (Nat.le_of_ble_eq_true rfl) trivial ?_
  intro p e s m args below meth c C _
  unfold w_Desk_swap at h
  show zX p l e (zrm 18 594) s m args below meth c (MQ below (zQc D B cA (zqI S K)) args s 0 0 (fun q => B ≤ q)) D B cA 3 0 0 S I [(0, .ref (B + 0)), (1, .int a1)] [] 0
  refine zr_aload_n C dyX11_swap_0 rfl 0 rfl ?_
  refine zv_11_126 C hS (st := []) h ⟨Nat.le_of_ble_eq_true rfl, Nat.le_of_ble_eq_true rfl⟩ (Nat.le_of_ble_eq_true rfl) dyX11_swap_1 (fun r_1 hr_1 h => ?_)
  refine zr_astore_n C dyX11_swap_4 rfl (Nat.le_of_ble_eq_true rfl) (lv2 := [(2, .ref (B + r_1)), (0, .ref (B + 0)), (1, .int a1)]) rfl ?_
  refine zr_aload_n C dyX11_swap_5 rfl 0 rfl ?_
  refine zg_11_155 C hr_1 dyX11_swap_6 ?_
  refine zr_if_eq C dyX11_swap_9 (tgt := 36) (by decide) (fun hc_22 => ?_) (fun hc_22 => ?_)
  · replace h := zif_pos hc_22 h
    refine zr_iconst C dyX11_swap_36 zc_i_m1 ?_
    exact zr_iret C rfl dyX11_swap_37 ⟨rfl, _, rfl, h⟩
  · replace h := zif_neg hc_22 h
    refine zr_aload_n C dyX11_swap_12 rfl 1 rfl ?_
    refine zg_11_44 C hS dyX11_swap_13 ?_
    refine zr_iload_n C dyX11_swap_16 rfl 2 rfl ?_
    refine zv_11_187 C hS (st := []) h ⟨Nat.le_of_ble_eq_true rfl, Nat.le_of_ble_eq_true rfl⟩ (Nat.le_of_ble_eq_true rfl) dyX11_swap_17 (fun r_2 h => ?_)
    refine zr_if_eq C dyX11_swap_20 (tgt := 36) (by decide) (fun hc_21 => ?_) (fun hc_21 => ?_)
    · replace h := zif_pos hc_21 h
      refine zr_iconst C dyX11_swap_36 zc_i_m1 ?_
      exact zr_iret C rfl dyX11_swap_37 ⟨rfl, _, rfl, h⟩
    · replace h := zif_neg hc_21 h
      refine zr_aload_n C dyX11_swap_23 rfl 1 rfl ?_
      refine zg_11_44 C hS dyX11_swap_24 ?_
      refine zr_iload_n C dyX11_swap_27 rfl 2 rfl ?_
      refine zr_iconst C dyX11_swap_28 zc_i_1 ?_
      refine zr_iadd C dyX11_swap_29 ?_
      refine zv_11_187 C hS (st := []) h ⟨Nat.le_of_ble_eq_true rfl, Nat.le_of_ble_eq_true rfl⟩ (Nat.le_of_ble_eq_true rfl) dyX11_swap_30 (fun r_3 h => ?_)
      refine zr_if_ne C dyX11_swap_33 (tgt := 38) (by decide) (fun hc_20 => ?_) (fun hc_20 => ?_)
      · replace h := zif_neg hc_20 h
        refine zr_aload_n C dyX11_swap_38 rfl 1 rfl ?_
        refine zg_11_25 C hS dyX11_swap_39 ?_
        refine zr_iconst C dyX11_swap_42 zc_i_0 ?_
        refine zp_11_144 C (zIsMoment.of hS zit_4) dyX11_swap_43 ?_
        refine zn_mem C (fun I_4 eI_4 => ?_)
        replace h := h I_4 eI_4
        refine zr_aload_n C dyX11_swap_46 rfl 1 rfl ?_
        refine zg_11_25 C hS dyX11_swap_47 ?_
        refine zr_aload_n C dyX11_swap_50 rfl 0 rfl ?_
        refine zg_11_103 C hr_1 dyX11_swap_51 ?_
        refine zr_iconst C dyX11_swap_54 zc_i_0 ?_
        refine zr_aload_n C dyX11_swap_55 rfl 1 rfl ?_
        refine zr_iload_n C dyX11_swap_56 rfl 2 rfl ?_
        refine zv_11_190 C hS (st := [.int 0, .ref (B + (r_1 + 1)), .ref (B + 4)]) h ⟨Nat.le_of_ble_eq_true rfl, Nat.le_of_ble_eq_true rfl⟩ (Nat.le_of_ble_eq_true rfl) dyX11_swap_57 (fun r_5 h => ?_)
        refine zv_11_147 C hS (zIsMoment.of hS zit_4) hr_1.2.1 (st := []) h ⟨Nat.le_of_ble_eq_true rfl, Nat.le_of_ble_eq_true rfl⟩ (Nat.le_of_ble_eq_true rfl) dyX11_swap_60 (fun I_6 h => ?_)
        refine zr_aload_n C dyX11_swap_63 rfl 1 rfl ?_
        refine zg_11_25 C hS dyX11_swap_64 ?_
        refine zr_aload_n C dyX11_swap_67 rfl 0 rfl ?_
        refine zg_11_103 C hr_1 dyX11_swap_68 ?_
        refine zr_aload_n C dyX11_swap_71 rfl 1 rfl ?_
        refine zr_iload_n C dyX11_swap_72 rfl 2 rfl ?_
        refine zr_iconst C dyX11_swap_73 zc_i_1 ?_
        refine zr_iadd C dyX11_swap_74 ?_
        refine zv_11_190 C hS (st := [.ref (B + (r_1 + 1)), .ref (B + 4)]) h ⟨Nat.le_of_ble_eq_true rfl, Nat.le_of_ble_eq_true rfl⟩ (Nat.le_of_ble_eq_true rfl) dyX11_swap_75 (fun r_7 h => ?_)
        refine zr_aload_n C dyX11_swap_78 rfl 1 rfl ?_
        refine zr_iload_n C dyX11_swap_79 rfl 2 rfl ?_
        refine zr_iconst C dyX11_swap_80 zc_i_1 ?_
        refine zr_iadd C dyX11_swap_81 ?_
        refine zv_11_193 C hS (st := [.int r_7, .ref (B + (r_1 + 1)), .ref (B + 4)]) h ⟨Nat.le_of_ble_eq_true rfl, Nat.le_of_ble_eq_true rfl⟩ (Nat.le_of_ble_eq_true rfl) dyX11_swap_82 (fun r_8 h => ?_)
        refine zv_11_147 C hS (zIsMoment.of hS zit_4) hr_1.2.1 (st := []) h ⟨Nat.le_of_ble_eq_true rfl, Nat.le_of_ble_eq_true rfl⟩ (Nat.le_of_ble_eq_true rfl) dyX11_swap_85 (fun I_9 h => ?_)
        refine zr_aload_n C dyX11_swap_88 rfl 1 rfl ?_
        refine zg_11_25 C hS dyX11_swap_89 ?_
        refine zr_aload_n C dyX11_swap_92 rfl 0 rfl ?_
        refine zg_11_103 C hr_1 dyX11_swap_93 ?_
        refine zr_aload_n C dyX11_swap_96 rfl 1 rfl ?_
        refine zr_iload_n C dyX11_swap_97 rfl 2 rfl ?_
        refine zv_11_193 C hS (st := [.ref (B + (r_1 + 1)), .ref (B + 4)]) h ⟨Nat.le_of_ble_eq_true rfl, Nat.le_of_ble_eq_true rfl⟩ (Nat.le_of_ble_eq_true rfl) dyX11_swap_98 (fun r_10 h => ?_)
        refine zr_aload_n C dyX11_swap_101 rfl 1 rfl ?_
        refine zr_iload_n C dyX11_swap_102 rfl 2 rfl ?_
        refine zr_iconst C dyX11_swap_103 zc_i_1 ?_
        refine zr_iadd C dyX11_swap_104 ?_
        refine zv_11_190 C hS (st := [.int r_10, .ref (B + (r_1 + 1)), .ref (B + 4)]) h ⟨Nat.le_of_ble_eq_true rfl, Nat.le_of_ble_eq_true rfl⟩ (Nat.le_of_ble_eq_true rfl) dyX11_swap_105 (fun r_11 h => ?_)
        refine zv_11_147 C hS (zIsMoment.of hS zit_4) hr_1.2.1 (st := []) h ⟨Nat.le_of_ble_eq_true rfl, Nat.le_of_ble_eq_true rfl⟩ (Nat.le_of_ble_eq_true rfl) dyX11_swap_108 (fun I_12 h => ?_)
        refine zr_aload_n C dyX11_swap_111 rfl 1 rfl ?_
        refine zg_11_25 C hS dyX11_swap_112 ?_
        refine zr_aload_n C dyX11_swap_115 rfl 0 rfl ?_
        refine zg_11_103 C hr_1 dyX11_swap_116 ?_
        refine zr_aload_n C dyX11_swap_119 rfl 1 rfl ?_
        refine zr_iload_n C dyX11_swap_120 rfl 2 rfl ?_
        refine zv_11_190 C hS (st := [.ref (B + (r_1 + 1)), .ref (B + 4)]) h ⟨Nat.le_of_ble_eq_true rfl, Nat.le_of_ble_eq_true rfl⟩ (Nat.le_of_ble_eq_true rfl) dyX11_swap_121 (fun r_13 h => ?_)
        refine zr_aload_n C dyX11_swap_124 rfl 1 rfl ?_
        refine zr_iload_n C dyX11_swap_125 rfl 2 rfl ?_
        refine zv_11_193 C hS (st := [.int r_13, .ref (B + (r_1 + 1)), .ref (B + 4)]) h ⟨Nat.le_of_ble_eq_true rfl, Nat.le_of_ble_eq_true rfl⟩ (Nat.le_of_ble_eq_true rfl) dyX11_swap_126 (fun r_14 h => ?_)
        refine zv_11_147 C hS (zIsMoment.of hS zit_4) hr_1.2.1 (st := []) h ⟨Nat.le_of_ble_eq_true rfl, Nat.le_of_ble_eq_true rfl⟩ (Nat.le_of_ble_eq_true rfl) dyX11_swap_129 (fun I_15 h => ?_)
        refine zr_aload_n C dyX11_swap_132 rfl 1 rfl ?_
        refine zg_11_25 C hS dyX11_swap_133 ?_
        refine zr_aload_n C dyX11_swap_136 rfl 0 rfl ?_
        refine zg_11_103 C hr_1 dyX11_swap_137 ?_
        refine zr_aload_n C dyX11_swap_140 rfl 1 rfl ?_
        refine zr_iload_n C dyX11_swap_141 rfl 2 rfl ?_
        refine zr_iconst C dyX11_swap_142 zc_i_1 ?_
        refine zr_iadd C dyX11_swap_143 ?_
        refine zv_11_193 C hS (st := [.ref (B + (r_1 + 1)), .ref (B + 4)]) h ⟨Nat.le_of_ble_eq_true rfl, Nat.le_of_ble_eq_true rfl⟩ (Nat.le_of_ble_eq_true rfl) dyX11_swap_144 (fun r_16 h => ?_)
        refine zr_aload_n C dyX11_swap_147 rfl 0 rfl ?_
        refine zg_11_144 C hr_1 dyX11_swap_148 ?_
        refine zv_11_147 C hS (zIsMoment.of hS zit_4) hr_1.2.1 (st := []) h ⟨Nat.le_of_ble_eq_true rfl, Nat.le_of_ble_eq_true rfl⟩ (Nat.le_of_ble_eq_true rfl) dyX11_swap_151 (fun I_17 h => ?_)
        refine zr_aload_n C dyX11_swap_154 rfl 1 rfl ?_
        refine zr_iconst C dyX11_swap_155 zc_i_0 ?_
        refine zv_11_151 C hS (st := []) h ⟨Nat.le_of_ble_eq_true rfl, Nat.le_of_ble_eq_true rfl⟩ (Nat.le_of_ble_eq_true rfl) dyX11_swap_156 (fun r_18 I_19 h => ?_)
        exact zr_iret C rfl dyX11_swap_159 ⟨rfl, _, rfl, h⟩
      · replace h := zif_pos hc_20 h
        refine zr_iconst C dyX11_swap_36 zc_i_m1 ?_
        exact zr_iret C rfl dyX11_swap_37 ⟨rfl, _, rfl, h⟩
theorem zg_11_199 {p : Program} {l : Launch} {e : Env} {R : Room} {s : State} {m : MethodId} {args : Array Value} {below : List Frame} {meth : Method} {c : Code} {Q : State → Prop} {D : va_G} {B : Nat} {cA : Nat → ClassId} {ad : Nat → Nat} {cc : ByteArray} {nL : Nat} {ret : Option FieldType} {S : List zC} {I : zI} {lv : List (Nat × Value)} {st : List Value} {pc : Nat} (C : zCx p s m args meth c cc nL RX11 ret D B cA ad) (hS : zOkX S) (hd : decode cc pc = .ok (.getfield 199, 3)) (kk : zX p l e R s m args below meth c Q D B cA nL 0 0 S I lv (.int (I.1 0 6) :: st) (pc + 3)) : zX p l e R s m args below meth c Q D B cA nL 0 0 S I lv (.ref (B + 0) :: st) pc :=
  zr_geti C (ci := 11) (Cn := RX11) (T := TX11) (N := 19) (k := 0) (j := 6) (fs := [some (some 1), none, some (some 3), some (some 4), none, none, none, none, some (some 22), some (some 24), some (some 43), some (some 64), some (some 69), some (some 88), some (some 97), some (some 100), some (some 109), some (some 111), none]) rfl zin_11 (Nat.le_of_ble_eq_true rfl) rfl (hS _ _ zs_0) rfl zk_fl_11_199 hd kk
def w_Desk_undo  (I : zI) (K : Int32 → zI → Prop) : Prop :=
  (if (I.1 0 5) = 0 then K 0 I else (∀ I_1, I_1 = (zu I 0 5 ((I.1 0 5) - 1)) → ∀ I_2, I_2 = (zu I_1 0 6 ((I_1.1 0 6) + 1)) → ∀ (P48 : Int32 → Prop), (∀ (t_3 : Int32), (∀ I_4, I_4 = (zu I_2 0 4 t_3) → w_Desk_now I_4 (fun r_5 => w_Desk_lookAt r_5 0 I_4 (fun I_6 => K 1 I_6))) → P48 t_3) → (if (I_2.1 0 4) = 0 then P48 20 else (P48 ((I_2.1 0 4) - 1)))))
theorem dyX11_undo_0 : decode cX11_undo 0 = .ok (.aload_n 0, 1) := by decide +kernel
theorem dyX11_undo_1 : decode cX11_undo 1 = .ok (.getfield 196, 3) := by decide +kernel
theorem dyX11_undo_4 : decode cX11_undo 4 = .ok (.ifCond .ne 5, 3) := by decide +kernel
theorem dyX11_undo_7 : decode cX11_undo 7 = .ok (.iconst 0, 1) := by decide +kernel
theorem dyX11_undo_8 : decode cX11_undo 8 = .ok (.ireturn, 1) := by decide +kernel
theorem dyX11_undo_9 : decode cX11_undo 9 = .ok (.aload_n 0, 1) := by decide +kernel
theorem dyX11_undo_10 : decode cX11_undo 10 = .ok (.dup, 1) := by decide +kernel
theorem dyX11_undo_11 : decode cX11_undo 11 = .ok (.getfield 196, 3) := by decide +kernel
theorem dyX11_undo_14 : decode cX11_undo 14 = .ok (.iconst 1, 1) := by decide +kernel
theorem dyX11_undo_15 : decode cX11_undo 15 = .ok (.isub, 1) := by decide +kernel
theorem dyX11_undo_16 : decode cX11_undo 16 = .ok (.putfield 196, 3) := by decide +kernel
theorem dyX11_undo_19 : decode cX11_undo 19 = .ok (.aload_n 0, 1) := by decide +kernel
theorem dyX11_undo_20 : decode cX11_undo 20 = .ok (.dup, 1) := by decide +kernel
theorem dyX11_undo_21 : decode cX11_undo 21 = .ok (.getfield 199, 3) := by decide +kernel
theorem dyX11_undo_24 : decode cX11_undo 24 = .ok (.iconst 1, 1) := by decide +kernel
theorem dyX11_undo_25 : decode cX11_undo 25 = .ok (.iadd, 1) := by decide +kernel
theorem dyX11_undo_26 : decode cX11_undo 26 = .ok (.putfield 199, 3) := by decide +kernel
theorem dyX11_undo_29 : decode cX11_undo 29 = .ok (.aload_n 0, 1) := by decide +kernel
theorem dyX11_undo_30 : decode cX11_undo 30 = .ok (.aload_n 0, 1) := by decide +kernel
theorem dyX11_undo_31 : decode cX11_undo 31 = .ok (.getfield 202, 3) := by decide +kernel
theorem dyX11_undo_34 : decode cX11_undo 34 = .ok (.ifCond .ne 8, 3) := by decide +kernel
theorem dyX11_undo_37 : decode cX11_undo 37 = .ok (.bipush 20, 2) := by decide +kernel
theorem dyX11_undo_39 : decode cX11_undo 39 = .ok (.goto 9, 3) := by decide +kernel
theorem dyX11_undo_42 : decode cX11_undo 42 = .ok (.aload_n 0, 1) := by decide +kernel
theorem dyX11_undo_43 : decode cX11_undo 43 = .ok (.getfield 202, 3) := by decide +kernel
theorem dyX11_undo_46 : decode cX11_undo 46 = .ok (.iconst 1, 1) := by decide +kernel
theorem dyX11_undo_47 : decode cX11_undo 47 = .ok (.isub, 1) := by decide +kernel
theorem dyX11_undo_48 : decode cX11_undo 48 = .ok (.putfield 202, 3) := by decide +kernel
theorem dyX11_undo_51 : decode cX11_undo 51 = .ok (.aload_n 0, 1) := by decide +kernel
theorem dyX11_undo_52 : decode cX11_undo 52 = .ok (.aload_n 0, 1) := by decide +kernel
theorem dyX11_undo_53 : decode cX11_undo 53 = .ok (.invokevirtual 126, 3) := by decide +kernel
theorem dyX11_undo_56 : decode cX11_undo 56 = .ok (.iconst 0, 1) := by decide +kernel
theorem dyX11_undo_57 : decode cX11_undo 57 = .ok (.invokevirtual 134, 3) := by decide +kernel
theorem dyX11_undo_60 : decode cX11_undo 60 = .ok (.iconst 1, 1) := by decide +kernel
theorem dyX11_undo_61 : decode cX11_undo 61 = .ok (.ireturn, 1) := by decide +kernel
theorem zsg_yX11_undo : yX11_undo.cls = RX11 ∧ yX11_undo.cls ≠ "java/lang/invoke/MethodHandle" ∧ yX11_undo.cls ≠ "java/lang/invoke/VarHandle" ∧ (parseMethodDescriptor yX11_undo.desc).map (fun d => d.parameters.length) = some 0 := by decide +kernel
set_option maxRecDepth 20000 in
theorem c_Desk_undo {l : Launch} {D : va_G} {B : Nat} {cA : Nat → ClassId} {ad : Nat → Nat} {S : List zC} (hS : zOkX S)  {I : zI} {K : Int32 → zI → Prop}  (h : w_Desk_undo  I K) : Met l yX11_undo (zws yX11_undo cX11_undo 1 (some .boolean)) (zrm 6 141) (zPc D B cA ad [.ref (B + 0)] S I) (zQc D B cA (zqI S K)) 0 0 (fun q => B ≤ q) := by
  refine zm_of (cc := cX11_undo) (maxL := 1) (ret := (some .boolean)) (by decide +kernel) rfl (Nat.le_of_ble_eq_true rfl) trivial ?_
  intro p e s m args below meth c C _
  unfold w_Desk_undo at h
  show zX p l e (zrm 6 141) s m args below meth c (MQ below (zQc D B cA (zqI S K)) args s 0 0 (fun q => B ≤ q)) D B cA 1 0 0 S I [(0, .ref (B + 0))] [] 0
  refine zr_aload_n C dyX11_undo_0 rfl 0 rfl ?_
  refine zg_11_196 C hS dyX11_undo_1 ?_
  refine zr_if_ne C dyX11_undo_4 (tgt := 9) (by decide) (fun hc_8 => ?_) (fun hc_8 => ?_)
  · replace h := zif_neg hc_8 h
    refine zr_aload_n C dyX11_undo_9 rfl 0 rfl ?_
    refine zr_dup C dyX11_undo_10 rfl ?_
    refine zg_11_196 C hS dyX11_undo_11 ?_
    refine zr_iconst C dyX11_undo_14 zc_i_1 ?_
    refine zr_isub C dyX11_undo_15 ?_
    refine zp_11_196 C hS dyX11_undo_16 ?_
    refine zn_mem C (fun I_1 eI_1 => ?_)
    replace h := h I_1 eI_1
    refine zr_aload_n C dyX11_undo_19 rfl 0 rfl ?_
    refine zr_dup C dyX11_undo_20 rfl ?_
    refine zg_11_199 C hS dyX11_undo_21 ?_
    refine zr_iconst C dyX11_undo_24 zc_i_1 ?_
    refine zr_iadd C dyX11_undo_25 ?_
    refine zp_11_199 C hS dyX11_undo_26 ?_
    refine zn_mem C (fun I_2 eI_2 => ?_)
    replace h := h I_2 eI_2
    refine zr_aload_n C dyX11_undo_29 rfl 0 rfl ?_
    refine zr_aload_n C dyX11_undo_30 rfl 0 rfl ?_
    refine zg_11_202 C hS dyX11_undo_31 ?_
    refine zjn (h (fun (t_3 : Int32) => zX p l e (zrm 6 141) s m args below meth c (MQ below (zQc D B cA (zqI S K)) args s 0 0 (fun q => B ≤ q)) D B cA 1 0 0 S I_2 [(0, .ref (B + 0))] [.int t_3, .ref (B + 0)] 48) (fun t_3 h => ?_)) (fun h => ?_)
    · refine zp_11_202 C hS dyX11_undo_48 ?_
      refine zn_mem C (fun I_4 eI_4 => ?_)
      replace h := h I_4 eI_4
      refine zr_aload_n C dyX11_undo_51 rfl 0 rfl ?_
      refine zr_aload_n C dyX11_undo_52 rfl 0 rfl ?_
      refine zv_11_126 C hS (st := [.ref (B + 0)]) h ⟨Nat.le_of_ble_eq_true rfl, Nat.le_of_ble_eq_true rfl⟩ (Nat.le_of_ble_eq_true rfl) dyX11_undo_53 (fun r_5 hr_5 h => ?_)
      refine zr_iconst C dyX11_undo_56 zc_i_0 ?_
      refine zv_11_134 C hS hr_5 (st := []) h ⟨Nat.le_of_ble_eq_true rfl, Nat.le_of_ble_eq_true rfl⟩ (Nat.le_of_ble_eq_true rfl) dyX11_undo_57 (fun I_6 h => ?_)
      refine zr_iconst C dyX11_undo_60 zc_i_1 ?_
      exact zr_zret C rfl (zb.nar zb_1) dyX11_undo_61 ⟨rfl, _, rfl, h⟩
    refine zr_if_ne C dyX11_undo_34 (tgt := 42) (by decide) (fun hc_7 => ?_) (fun hc_7 => ?_)
    · replace h := zif_neg hc_7 h
      refine zr_aload_n C dyX11_undo_42 rfl 0 rfl ?_
      refine zg_11_202 C hS dyX11_undo_43 ?_
      refine zr_iconst C dyX11_undo_46 zc_i_1 ?_
      refine zr_isub C dyX11_undo_47 ?_
      exact h
    · replace h := zif_pos hc_7 h
      refine zr_bipush C dyX11_undo_37 zc_b_20 ?_
      refine zr_goto C dyX11_undo_39 (tgt := 48) (by decide) ?_
      exact h
  · replace h := zif_pos hc_8 h
    refine zr_iconst C dyX11_undo_7 zc_i_0 ?_
    exact zr_zret C rfl (zb.nar zb_0) dyX11_undo_8 ⟨rfl, _, rfl, h⟩
