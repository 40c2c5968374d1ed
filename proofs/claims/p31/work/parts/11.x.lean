def w_Desk_last (a1 : Int32) (I : zI) (K : Int32 → Prop) : Prop :=
  (if a1 < 0 then (K (-1)) else (if 9 < a1 then (K (-1)) else (w_Row_get 22 10 a1 I (fun r_1 => K r_1))))
theorem dyX11_last_0 : decode cX11_last 0 = .ok (.iload_n 1, 1) := by decide +kernel
theorem dyX11_last_1 : decode cX11_last 1 = .ok (.ifCond .lt 20, 3) := by decide +kernel
theorem dyX11_last_4 : decode cX11_last 4 = .ok (.iload_n 1, 1) := by decide +kernel
theorem dyX11_last_5 : decode cX11_last 5 = .ok (.bipush 9, 2) := by decide +kernel
theorem dyX11_last_7 : decode cX11_last 7 = .ok (.if_icmp .gt 14, 3) := by decide +kernel
theorem dyX11_last_10 : decode cX11_last 10 = .ok (.aload_n 0, 1) := by decide +kernel
theorem dyX11_last_11 : decode cX11_last 11 = .ok (.getfield 29, 3) := by decide +kernel
theorem dyX11_last_14 : decode cX11_last 14 = .ok (.iload_n 1, 1) := by decide +kernel
theorem dyX11_last_15 : decode cX11_last 15 = .ok (.invokevirtual 166, 3) := by decide +kernel
theorem dyX11_last_18 : decode cX11_last 18 = .ok (.goto 4, 3) := by decide +kernel
theorem dyX11_last_21 : decode cX11_last 21 = .ok (.iconst (-1), 1) := by decide +kernel
theorem dyX11_last_22 : decode cX11_last 22 = .ok (.ireturn, 1) := by decide +kernel
theorem zsg_yX11_last : yX11_last.cls = RX11 ∧ yX11_last.cls ≠ "java/lang/invoke/MethodHandle" ∧ yX11_last.cls ≠ "java/lang/invoke/VarHandle" ∧ (parseMethodDescriptor yX11_last.desc).map (fun d => d.parameters.length) = some 1 := by decide +kernel
set_option maxRecDepth 20000 in
theorem c_Desk_last {l : Launch} {D : va_G} {B : Nat} {cA : Nat → ClassId} {ad : Nat → Nat} {S : List zC} (hS : zOkX S) {a1 : Int32} {I : zI} {K : Int32 → Prop}  (h : w_Desk_last a1 I K) : Met l yX11_last (zws yX11_last cX11_last 2 (some .int)) (zrm 1 21) (zPc D B cA ad [.ref (B + 0), .int a1] S I) (zQc D B cA (zpI S I K)) 0 0 (fun q => B ≤ q) := by
  refine zm_of (cc := cX11_last) (maxL := 2) (ret := (some .int)) (by decide +kernel) rfl (Nat.le_of_ble_eq_true rfl) trivial ?_
  intro p e s m args below meth c C _
  unfold w_Desk_last at h
  show zX p l e (zrm 1 21) s m args below meth c (MQ below (zQc D B cA (zpI S I K)) args s 0 0 (fun q => B ≤ q)) D B cA 2 0 0 S I [(0, .ref (B + 0)), (1, .int a1)] [] 0
  refine zr_iload_n C dyX11_last_0 rfl 1 rfl ?_
  refine zr_if_lt C dyX11_last_1 (tgt := 21) (by decide) (fun hc_3 => ?_) (fun hc_3 => ?_)
  · replace h := zif_pos hc_3 h
    refine zr_iconst C dyX11_last_21 zc_i_m1 ?_
    exact zr_iret C rfl dyX11_last_22 ⟨rfl, rfl, _, rfl, h⟩
  · replace h := zif_neg hc_3 h
    refine zr_iload_n C dyX11_last_4 rfl 1 rfl ?_
    refine zr_bipush C dyX11_last_5 zc_b_9 ?_
    refine zr_icmp_gt C dyX11_last_7 (tgt := 21) (by decide) (fun hc_2 => ?_) (fun hc_2 => ?_)
    · replace h := zif_pos hc_2 h
      refine zr_iconst C dyX11_last_21 zc_i_m1 ?_
      exact zr_iret C rfl dyX11_last_22 ⟨rfl, rfl, _, rfl, h⟩
    · replace h := zif_neg hc_2 h
      refine zr_aload_n C dyX11_last_10 rfl 0 rfl ?_
      refine zg_11_29 C hS dyX11_last_11 ?_
      refine zr_iload_n C dyX11_last_14 rfl 1 rfl ?_
      refine zv_11_166 C hS (zIsRow.of hS zir_22) (st := []) h ⟨Nat.le_of_ble_eq_true rfl, Nat.le_of_ble_eq_true rfl⟩ (Nat.le_of_ble_eq_true rfl) dyX11_last_15 (fun r_1 h => ?_)
      refine zr_goto C dyX11_last_18 (tgt := 22) (by decide) ?_
      exact zr_iret C rfl dyX11_last_22 ⟨rfl, rfl, _, rfl, h⟩
theorem zg_11_359 {p : Program} {l : Launch} {e : Env} {R : Room} {s : State} {m : MethodId} {args : Array Value} {below : List Frame} {meth : Method} {c : Code} {Q : State → Prop} {D : va_G} {B : Nat} {cA : Nat → ClassId} {ad : Nat → Nat} {cc : ByteArray} {nL : Nat} {ret : Option FieldType} {S : List zC} {I : zI} {lv : List (Nat × Value)} {st : List Value} {pc : Nat} (C : zCx p s m args meth c cc nL RX11 ret D B cA ad) (hS : zOkX S) (hd : decode cc pc = .ok (.getfield 359, 3)) (kk : zX p l e R s m args below meth c Q D B cA nL 0 0 S I lv (.int (I.1 43 14) :: st) (pc + 3)) : zX p l e R s m args below meth c Q D B cA nL 0 0 S I lv (.ref (B + 43) :: st) pc :=
  zr_geti C (ci := 9) (Cn := RX9) (T := TX9) (N := 16) (k := 43) (j := 14) (fs := [some (some 24), some (some 44), some (some 46), some (some 48), some (some 50), some (some 52), some (some 54), some (some 56), some (some 58), some (some 60), some (some 62), none, none, none, none, none]) rfl zin_9 (Nat.le_of_ble_eq_true rfl) rfl (hS _ _ zs_43) rfl zk_fl_11_359 hd kk
theorem zg_11_362 {p : Program} {l : Launch} {e : Env} {R : Room} {s : State} {m : MethodId} {args : Array Value} {below : List Frame} {meth : Method} {c : Code} {Q : State → Prop} {D : va_G} {B : Nat} {cA : Nat → ClassId} {ad : Nat → Nat} {cc : ByteArray} {nL : Nat} {ret : Option FieldType} {S : List zC} {I : zI} {lv : List (Nat × Value)} {st : List Value} {pc : Nat} (C : zCx p s m args meth c cc nL RX11 ret D B cA ad) (hS : zOkX S) (hd : decode cc pc = .ok (.getfield 362, 3)) (kk : zX p l e R s m args below meth c Q D B cA nL 0 0 S I lv (.int (I.1 69 15) :: st) (pc + 3)) : zX p l e R s m args below meth c Q D B cA nL 0 0 S I lv (.ref (B + 69) :: st) pc :=
  zr_geti C (ci := 7) (Cn := RX7) (T := TX7) (N := 17) (k := 69) (j := 15) (fs := [some (some 24), some (some 43), some (some 70), some (some 72), some (some 74), some (some 76), some (some 78), some (some 80), some (some 82), some (some 84), some (some 86), none, none, none, none, none, none]) rfl zin_7 (Nat.le_of_ble_eq_true rfl) rfl (hS _ _ zs_69) rfl zk_fl_11_362 hd kk
theorem zg_11_365 {p : Program} {l : Launch} {e : Env} {R : Room} {s : State} {m : MethodId} {args : Array Value} {below : List Frame} {meth : Method} {c : Code} {Q : State → Prop} {D : va_G} {B : Nat} {cA : Nat → ClassId} {ad : Nat → Nat} {cc : ByteArray} {nL : Nat} {ret : Option FieldType} {S : List zC} {I : zI} {lv : List (Nat × Value)} {st : List Value} {pc : Nat} (C : zCx p s m args meth c cc nL RX11 ret D B cA ad) (hS : zOkX S) (hd : decode cc pc = .ok (.getfield 365, 3)) (kk : zX p l e R s m args below meth c Q D B cA nL 0 0 S I lv (.int (I.1 69 16) :: st) (pc + 3)) : zX p l e R s m args below meth c Q D B cA nL 0 0 S I lv (.ref (B + 69) :: st) pc :=
  zr_geti C (ci := 7) (Cn := RX7) (T := TX7) (N := 17) (k := 69) (j := 16) (fs := [some (some 24), some (some 43), some (some 70), some (some 72), some (some 74), some (some 76), some (some 78), some (some 80), some (some 82), some (some 84), some (some 86), none, none, none, none, none, none]) rfl zin_7 (Nat.le_of_ble_eq_true rfl) rfl (hS _ _ zs_69) rfl zk_fl_11_365 hd kk
theorem zg_11_368 {p : Program} {l : Launch} {e : Env} {R : Room} {s : State} {m : MethodId} {args : Array Value} {below : List Frame} {meth : Method} {c : Code} {Q : State → Prop} {D : va_G} {B : Nat} {cA : Nat → ClassId} {ad : Nat → Nat} {cc : ByteArray} {nL : Nat} {ret : Option FieldType} {S : List zC} {I : zI} {lv : List (Nat × Value)} {st : List Value} {pc : Nat} (C : zCx p s m args meth c cc nL RX11 ret D B cA ad) (hS : zOkX S) (hd : decode cc pc = .ok (.getfield 368, 3)) (kk : zX p l e R s m args below meth c Q D B cA nL 0 0 S I lv (.int (I.1 43 13) :: st) (pc + 3)) : zX p l e R s m args below meth c Q D B cA nL 0 0 S I lv (.ref (B + 43) :: st) pc :=
  zr_geti C (ci := 9) (Cn := RX9) (T := TX9) (N := 16) (k := 43) (j := 13) (fs := [some (some 24), some (some 44), some (some 46), some (some 48), some (some 50), some (some 52), some (some 54), some (some 56), some (some 58), some (some 60), some (some 62), none, none, none, none, none]) rfl zin_9 (Nat.le_of_ble_eq_true rfl) rfl (hS _ _ zs_43) rfl zk_fl_11_368 hd kk
theorem zg_11_369 {p : Program} {l : Launch} {e : Env} {R : Room} {s : State} {m : MethodId} {args : Array Value} {below : List Frame} {meth : Method} {c : Code} {Q : State → Prop} {D : va_G} {B : Nat} {cA : Nat → ClassId} {ad : Nat → Nat} {cc : ByteArray} {nL : Nat} {ret : Option FieldType} {S : List zC} {I : zI} {lv : List (Nat × Value)} {st : List Value} {pc : Nat} (C : zCx p s m args meth c cc nL RX11 ret D B cA ad) (hS : zOkX S) (hd : decode cc pc = .ok (.getfield 369, 3)) (kk : zX p l e R s m args below meth c Q D B cA nL 0 0 S I lv (.int (I.1 43 15) :: st) (pc + 3)) : zX p l e R s m args below meth c Q D B cA nL 0 0 S I lv (.ref (B + 43) :: st) pc :=
  zr_geti C (ci := 9) (Cn := RX9) (T := TX9) (N := 16) (k := 43) (j := 15) (fs := [some (some 24), some (some 44), some (some 46), some (some 48), some (some 50), some (some 52), some (some 54), some (some 56), some (some 58), some (some 60), some (some 62), none, none, none, none, none]) rfl zin_9 (Nat.le_of_ble_eq_true rfl) rfl (hS _ _ zs_43) rfl zk_fl_11_369 hd kk
def w_Desk_countInTree (a1 : Int32) (I : zI) (K : Int32 → Prop) : Prop :=
  (if a1 = 10 then (K (I.1 43 12)) else (if a1 = 11 then (K (I.1 43 14)) else (if a1 = 12 then (K (I.1 69 15)) else (if a1 = 13 then (K (I.1 69 16)) else (if a1 = 14 then (w_TreeView_madeWithin (I.1 43 13) (I.1 0 7) I (fun r_6 => K r_6)) else (if a1 = 15 then (K (I.1 0 18)) else (if a1 = 16 then (K (I.1 88 4)) else (if a1 = 17 then (w_Row_get 60 11 8 I (fun r_10 => K r_10)) else (if a1 = 18 then (K (I.1 43 15)) else (K (-1)))))))))))
theorem dyX11_countInTree_0 : decode cX11_countInTree 0 = .ok (.iload_n 1, 1) := by decide +kernel
theorem dyX11_countInTree_1 : decode cX11_countInTree 1 = .ok (.tableswitch 136 10 18 #[51, 59, 67, 75, 83, 102, 107, 115, 128], 51) := by decide +kernel
theorem dyX11_countInTree_52 : decode cX11_countInTree 52 = .ok (.aload_n 0, 1) := by decide +kernel
theorem dyX11_countInTree_53 : decode cX11_countInTree 53 = .ok (.getfield 44, 3) := by decide +kernel
theorem dyX11_countInTree_56 : decode cX11_countInTree 56 = .ok (.getfield 215, 3) := by decide +kernel
theorem dyX11_countInTree_59 : decode cX11_countInTree 59 = .ok (.ireturn, 1) := by decide +kernel
theorem dyX11_countInTree_60 : decode cX11_countInTree 60 = .ok (.aload_n 0, 1) := by decide +kernel
theorem dyX11_countInTree_61 : decode cX11_countInTree 61 = .ok (.getfield 44, 3) := by decide +kernel
theorem dyX11_countInTree_64 : decode cX11_countInTree 64 = .ok (.getfield 359, 3) := by decide +kernel
theorem dyX11_countInTree_67 : decode cX11_countInTree 67 = .ok (.ireturn, 1) := by decide +kernel
theorem dyX11_countInTree_68 : decode cX11_countInTree 68 = .ok (.aload_n 0, 1) := by decide +kernel
theorem dyX11_countInTree_69 : decode cX11_countInTree 69 = .ok (.getfield 60, 3) := by decide +kernel
theorem dyX11_countInTree_72 : decode cX11_countInTree 72 = .ok (.getfield 362, 3) := by decide +kernel
theorem dyX11_countInTree_75 : decode cX11_countInTree 75 = .ok (.ireturn, 1) := by decide +kernel
theorem dyX11_countInTree_76 : decode cX11_countInTree 76 = .ok (.aload_n 0, 1) := by decide +kernel
theorem dyX11_countInTree_77 : decode cX11_countInTree 77 = .ok (.getfield 60, 3) := by decide +kernel
theorem dyX11_countInTree_80 : decode cX11_countInTree 80 = .ok (.getfield 365, 3) := by decide +kernel
theorem dyX11_countInTree_83 : decode cX11_countInTree 83 = .ok (.ireturn, 1) := by decide +kernel
theorem dyX11_countInTree_84 : decode cX11_countInTree 84 = .ok (.aload_n 0, 1) := by decide +kernel
theorem dyX11_countInTree_85 : decode cX11_countInTree 85 = .ok (.getfield 44, 3) := by decide +kernel
theorem dyX11_countInTree_88 : decode cX11_countInTree 88 = .ok (.aload_n 0, 1) := by decide +kernel
theorem dyX11_countInTree_89 : decode cX11_countInTree 89 = .ok (.getfield 44, 3) := by decide +kernel
theorem dyX11_countInTree_92 : decode cX11_countInTree 92 = .ok (.getfield 368, 3) := by decide +kernel
theorem dyX11_countInTree_95 : decode cX11_countInTree 95 = .ok (.aload_n 0, 1) := by decide +kernel
theorem dyX11_countInTree_96 : decode cX11_countInTree 96 = .ok (.getfield 309, 3) := by decide +kernel
theorem dyX11_countInTree_99 : decode cX11_countInTree 99 = .ok (.invokevirtual 312, 3) := by decide +kernel
theorem dyX11_countInTree_102 : decode cX11_countInTree 102 = .ok (.ireturn, 1) := by decide +kernel
theorem dyX11_countInTree_103 : decode cX11_countInTree 103 = .ok (.aload_n 0, 1) := by decide +kernel
theorem dyX11_countInTree_104 : decode cX11_countInTree 104 = .ok (.getfield 291, 3) := by decide +kernel
theorem dyX11_countInTree_107 : decode cX11_countInTree 107 = .ok (.ireturn, 1) := by decide +kernel
theorem dyX11_countInTree_108 : decode cX11_countInTree 108 = .ok (.aload_n 0, 1) := by decide +kernel
theorem dyX11_countInTree_109 : decode cX11_countInTree 109 = .ok (.getfield 67, 3) := by decide +kernel
theorem dyX11_countInTree_112 : decode cX11_countInTree 112 = .ok (.getfield 318, 3) := by decide +kernel
theorem dyX11_countInTree_115 : decode cX11_countInTree 115 = .ok (.ireturn, 1) := by decide +kernel
theorem dyX11_countInTree_116 : decode cX11_countInTree 116 = .ok (.aload_n 0, 1) := by decide +kernel
theorem dyX11_countInTree_117 : decode cX11_countInTree 117 = .ok (.getfield 44, 3) := by decide +kernel
theorem dyX11_countInTree_120 : decode cX11_countInTree 120 = .ok (.getfield 279, 3) := by decide +kernel
theorem dyX11_countInTree_123 : decode cX11_countInTree 123 = .ok (.bipush 8, 2) := by decide +kernel
theorem dyX11_countInTree_125 : decode cX11_countInTree 125 = .ok (.invokevirtual 166, 3) := by decide +kernel
theorem dyX11_countInTree_128 : decode cX11_countInTree 128 = .ok (.ireturn, 1) := by decide +kernel
theorem dyX11_countInTree_129 : decode cX11_countInTree 129 = .ok (.aload_n 0, 1) := by decide +kernel
theorem dyX11_countInTree_130 : decode cX11_countInTree 130 = .ok (.getfield 44, 3) := by decide +kernel
theorem dyX11_countInTree_133 : decode cX11_countInTree 133 = .ok (.getfield 369, 3) := by decide +kernel
theorem dyX11_countInTree_136 : decode cX11_countInTree 136 = .ok (.ireturn, 1) := by decide +kernel
theorem dyX11_countInTree_137 : decode cX11_countInTree 137 = .ok (.iconst (-1), 1) := by decide +kernel
theorem dyX11_countInTree_138 : decode cX11_countInTree 138 = .ok (.ireturn, 1) := by decide +kernel
theorem zsg_yX11_countInTree : yX11_countInTree.cls = RX11 ∧ yX11_countInTree.cls ≠ "java/lang/invoke/MethodHandle" ∧ yX11_countInTree.cls ≠ "java/lang/invoke/VarHandle" ∧ (parseMethodDescriptor yX11_countInTree.desc).map (fun d => d.parameters.length) = some 1 := by decide +kernel
set_option maxRecDepth 20000 in
theorem c_Desk_countInTree {l : Launch} {D : va_G} {B : Nat} {cA : Nat → ClassId} {ad : Nat → Nat} {S : List zC} (hS : zOkX S) {a1 : Int32} {I : zI} {K : Int32 → Prop}  (h : w_Desk_countInTree a1 I K) : Met l yX11_countInTree (zws yX11_countInTree cX11_countInTree 2 (some .int)) (zrm 3 68) (zPc D B cA ad [.ref (B + 0), .int a1] S I) (zQc D B cA (zpI S I K)) 0 0 (fun q => B ≤ q) := by
  refine zm_of (cc := cX11_countInTree) (maxL := 2) (ret := (some .int)) (by decide +kernel) rfl (Nat.le_of_ble_eq_true rfl) trivial ?_
  intro p e s m args below meth c C _
  unfold w_Desk_countInTree at h
  show zX p l e (zrm 3 68) s m args below meth c (MQ below (zQc D B cA (zpI S I K)) args s 0 0 (fun q => B ≤ q)) D B cA 2 0 0 S I [(0, .ref (B + 0)), (1, .int a1)] [] 0
  refine zr_iload_n C dyX11_countInTree_0 rfl 1 rfl ?_
  by_cases hc_1 : a1 = 10
  · replace h := zif_pos hc_1 h
    refine zr_tableIn C dyX11_countInTree_1 (by rw [hc_1]; decide) (by rw [hc_1]; decide) (off := 51) (by rw [hc_1]; decide) (tgt := 52) (by decide) ?_
    refine zr_aload_n C dyX11_countInTree_52 rfl 0 rfl ?_
    refine zg_11_44 C hS dyX11_countInTree_53 ?_
    refine zg_11_215 C hS dyX11_countInTree_56 ?_
    exact zr_iret C rfl dyX11_countInTree_59 ⟨rfl, rfl, _, rfl, h⟩
  replace h := zif_neg hc_1 h
  by_cases hc_2 : a1 = 11
  · replace h := zif_pos hc_2 h
    refine zr_tableIn C dyX11_countInTree_1 (by rw [hc_2]; decide) (by rw [hc_2]; decide) (off := 59) (by rw [hc_2]; decide) (tgt := 60) (by decide) ?_
    refine zr_aload_n C dyX11_countInTree_60 rfl 0 rfl ?_
    refine zg_11_44 C hS dyX11_countInTree_61 ?_
    refine zg_11_359 C hS dyX11_countInTree_64 ?_
    exact zr_iret C rfl dyX11_countInTree_67 ⟨rfl, rfl, _, rfl, h⟩
  replace h := zif_neg hc_2 h
  by_cases hc_3 : a1 = 12
  · replace h := zif_pos hc_3 h
    refine zr_tableIn C dyX11_countInTree_1 (by rw [hc_3]; decide) (by rw [hc_3]; decide) (off := 67) (by rw [hc_3]; decide) (tgt := 68) (by decide) ?_
    refine zr_aload_n C dyX11_countInTree_68 rfl 0 rfl ?_
    refine zg_11_60 C hS dyX11_countInTree_69 ?_
    refine zg_11_362 C hS dyX11_countInTree_72 ?_
    exact zr_iret C rfl dyX11_countInTree_75 ⟨rfl, rfl, _, rfl, h⟩
  replace h := zif_neg hc_3 h
  by_cases hc_4 : a1 = 13
  · replace h := zif_pos hc_4 h
    refine zr_tableIn C dyX11_countInTree_1 (by rw [hc_4]; decide) (by rw [hc_4]; decide) (off := 75) (by rw [hc_4]; decide) (tgt := 76) (by decide) ?_
    refine zr_aload_n C dyX11_countInTree_76 rfl 0 rfl ?_
    refine zg_11_60 C hS dyX11_countInTree_77 ?_
    refine zg_11_365 C hS dyX11_countInTree_80 ?_
    exact zr_iret C rfl dyX11_countInTree_83 ⟨rfl, rfl, _, rfl, h⟩
  replace h := zif_neg hc_4 h
  by_cases hc_5 : a1 = 14
  · replace h := zif_pos hc_5 h
    refine zr_tableIn C dyX11_countInTree_1 (by rw [hc_5]; decide) (by rw [hc_5]; decide) (off := 83) (by rw [hc_5]; decide) (tgt := 84) (by decide) ?_
    refine zr_aload_n C dyX11_countInTree_84 rfl 0 rfl ?_
    refine zg_11_44 C hS dyX11_countInTree_85 ?_
    refine zr_aload_n C dyX11_countInTree_88 rfl 0 rfl ?_
    refine zg_11_44 C hS dyX11_countInTree_89 ?_
    refine zg_11_368 C hS dyX11_countInTree_92 ?_
    refine zr_aload_n C dyX11_countInTree_95 rfl 0 rfl ?_
    refine zg_11_309 C hS dyX11_countInTree_96 ?_
    refine zv_11_312 C hS (st := []) h ⟨Nat.le_of_ble_eq_true rfl, Nat.le_of_ble_eq_true rfl⟩ (Nat.le_of_ble_eq_true rfl) dyX11_countInTree_99 (fun r_6 h => ?_)
    exact zr_iret C rfl dyX11_countInTree_102 ⟨rfl, rfl, _, rfl, h⟩
  replace h := zif_neg hc_5 h
  by_cases hc_7 : a1 = 15
  · replace h := zif_pos hc_7 h
    refine zr_tableIn C dyX11_countInTree_1 (by rw [hc_7]; decide) (by rw [hc_7]; decide) (off := 102) (by rw [hc_7]; decide) (tgt := 103) (by decide) ?_
    refine zr_aload_n C dyX11_countInTree_103 rfl 0 rfl ?_
    refine zg_11_291 C hS dyX11_countInTree_104 ?_
    exact zr_iret C rfl dyX11_countInTree_107 ⟨rfl, rfl, _, rfl, h⟩
  replace h := zif_neg hc_7 h
  by_cases hc_8 : a1 = 16
  · replace h := zif_pos hc_8 h
    refine zr_tableIn C dyX11_countInTree_1 (by rw [hc_8]; decide) (by rw [hc_8]; decide) (off := 107) (by rw [hc_8]; decide) (tgt := 108) (by decide) ?_
    refine zr_aload_n C dyX11_countInTree_108 rfl 0 rfl ?_
    refine zg_11_67 C hS dyX11_countInTree_109 ?_
    refine zg_11_318 C hS dyX11_countInTree_112 ?_
    exact zr_iret C rfl dyX11_countInTree_115 ⟨rfl, rfl, _, rfl, h⟩
  replace h := zif_neg hc_8 h
  by_cases hc_9 : a1 = 17
  · replace h := zif_pos hc_9 h
    refine zr_tableIn C dyX11_countInTree_1 (by rw [hc_9]; decide) (by rw [hc_9]; decide) (off := 115) (by rw [hc_9]; decide) (tgt := 116) (by decide) ?_
    refine zr_aload_n C dyX11_countInTree_116 rfl 0 rfl ?_
    refine zg_11_44 C hS dyX11_countInTree_117 ?_
    refine zg_11_279 C hS dyX11_countInTree_120 ?_
    refine zr_bipush C dyX11_countInTree_123 zc_b_8 ?_
    refine zv_11_166 C hS (zIsRow.of hS zir_60) (st := []) h ⟨Nat.le_of_ble_eq_true rfl, Nat.le_of_ble_eq_true rfl⟩ (Nat.le_of_ble_eq_true rfl) dyX11_countInTree_125 (fun r_10 h => ?_)
    exact zr_iret C rfl dyX11_countInTree_128 ⟨rfl, rfl, _, rfl, h⟩
  replace h := zif_neg hc_9 h
  by_cases hc_11 : a1 = 18
  · replace h := zif_pos hc_11 h
    refine zr_tableIn C dyX11_countInTree_1 (by rw [hc_11]; decide) (by rw [hc_11]; decide) (off := 128) (by rw [hc_11]; decide) (tgt := 129) (by decide) ?_
    refine zr_aload_n C dyX11_countInTree_129 rfl 0 rfl ?_
    refine zg_11_44 C hS dyX11_countInTree_130 ?_
    refine zg_11_369 C hS dyX11_countInTree_133 ?_
    exact zr_iret C rfl dyX11_countInTree_136 ⟨rfl, rfl, _, rfl, h⟩
  replace h := zif_neg hc_11 h
  refine zr_tableOut C dyX11_countInTree_1 (ztab_out (fun i h1 h2 => ?_)) (tgt := 137) (by decide) ?_
  · rcases (by omega : i = 10 ∨ i = 11 ∨ i = 12 ∨ i = 13 ∨ i = 14 ∨ i = 15 ∨ i = 16 ∨ i = 17 ∨ i = 18) with rfl | rfl | rfl | rfl | rfl | rfl | rfl | rfl | rfl
    · exact hc_1
    · exact hc_2
    · exact hc_3
    · exact hc_4
    · exact hc_5
    · exact hc_7
    · exact hc_8
    · exact hc_9
    · exact hc_11
  refine zr_iconst C dyX11_countInTree_137 zc_i_m1 ?_
  exact zr_iret C rfl dyX11_countInTree_138 ⟨rfl, rfl, _, rfl, h⟩
theorem zv_11_356 {p : Program} {l : Launch} {e : Env} {R : Room} {s : State} {m : MethodId} {args : Array Value} {below : List Frame} {meth : Method} {c : Code} {Q : State → Prop} {D : va_G} {B : Nat} {cA : Nat → ClassId} {ad : Nat → Nat} {cc : ByteArray} {nL : Nat} {ret : Option FieldType} {S : List zC} {I : zI} {lv : List (Nat × Value)} {st : List Value} {pc : Nat} (C : zCx p s m args meth c cc nL RX11 ret D B cA ad) {K : Int32 → Prop} {xa1 : Int32} (hS : zOkX S)  (h : w_Desk_countInTree xa1 I K) (hR : 3 + 1 ≤ R.frames ∧ 8 + (2 + 11) + (68) ≤ R.locals) (hw : (st.map fun v => v.category).sum ≤ 8) (hd : decode cc pc = .ok (.invokevirtual 356, 3)) (kk : ∀ v, K v → zX p l e R s m args below meth c Q D B cA nL 0 0 S I lv (.int v :: st) (pc + 3)) : zX p l e R s m args below meth c Q D B cA nL 0 0 S I lv (.int xa1 :: .ref (B + 0) :: st) pc :=
  have hf : 0 ≤ R.cells ∧ 0 ≤ R.slots := ⟨Nat.zero_le _, Nat.zero_le _⟩
  zc_VpI C (ci := 11) (q := (RX11, TX11, 19)) (k := 0) (fs := [some (some 1), none, some (some 3), some (some 4), none, none, none, none, some (some 22), some (some 24), some (some 43), some (some 64), some (some 69), some (some 88), some (some 97), some (some 100), some (some 109), some (some 111), none]) (As := [.int xa1]) (st := st) rfl (hS _ _ zs_0) (c_Desk_countInTree hS h) (zgV zk_ml_11_356 zk_im_yX11_countInTree zk_se_yX11_countInTree zk_in_11 zk_cd_yX11_countInTree) zsg_yX11_countInTree hR rfl rfl hw hd hf kk
def w_Desk_count (a1 : Int32) (I : zI) (K : Int32 → Prop) : Prop :=
  w_Desk_now I (fun r_1 => (if a1 = 0 then (K (I.1 r_1 1)) else (if a1 = 1 then (K (I.1 (r_1 + 3) 5)) else (if a1 = 2 then (if (I.1 r_1 3) = 0 then K 0 else K 1) else (if a1 = 3 then (K (I.1 r_1 6)) else (if a1 = 4 then (K (I.1 r_1 7)) else (if a1 = 5 then (K (I.1 24 9)) else (if a1 = 6 then (K (I.1 0 7)) else (if a1 = 7 then (K (I.1 0 1)) else (if a1 = 8 then (K (I.1 0 5)) else (if a1 = 9 then (K (I.1 0 6)) else (w_Desk_countInTree a1 I (fun r_13 => K r_13)))))))))))))
theorem dyX11_count_0 : decode cX11_count 0 = .ok (.aload_n 0, 1) := by decide +kernel
theorem dyX11_count_1 : decode cX11_count 1 = .ok (.invokevirtual 126, 3) := by decide +kernel
theorem dyX11_count_4 : decode cX11_count 4 = .ok (.astore_n 2, 1) := by decide +kernel
theorem dyX11_count_5 : decode cX11_count 5 = .ok (.iload_n 1, 1) := by decide +kernel
theorem dyX11_count_6 : decode cX11_count 6 = .ok (.tableswitch 118 0 9 #[54, 59, 67, 80, 85, 90, 98, 103, 108, 113], 54) := by decide +kernel
theorem dyX11_count_60 : decode cX11_count 60 = .ok (.aload_n 2, 1) := by decide +kernel
theorem dyX11_count_61 : decode cX11_count 61 = .ok (.getfield 144, 3) := by decide +kernel
theorem dyX11_count_64 : decode cX11_count 64 = .ok (.ireturn, 1) := by decide +kernel
theorem dyX11_count_65 : decode cX11_count 65 = .ok (.aload_n 2, 1) := by decide +kernel
theorem dyX11_count_66 : decode cX11_count 66 = .ok (.getfield 99, 3) := by decide +kernel
theorem dyX11_count_69 : decode cX11_count 69 = .ok (.getfield 174, 3) := by decide +kernel
theorem dyX11_count_72 : decode cX11_count 72 = .ok (.ireturn, 1) := by decide +kernel
theorem dyX11_count_73 : decode cX11_count 73 = .ok (.aload_n 2, 1) := by decide +kernel
theorem dyX11_count_74 : decode cX11_count 74 = .ok (.getfield 155, 3) := by decide +kernel
theorem dyX11_count_77 : decode cX11_count 77 = .ok (.ifCond .eq 7, 3) := by decide +kernel
theorem dyX11_count_80 : decode cX11_count 80 = .ok (.iconst 1, 1) := by decide +kernel
theorem dyX11_count_81 : decode cX11_count 81 = .ok (.goto 4, 3) := by decide +kernel
theorem dyX11_count_84 : decode cX11_count 84 = .ok (.iconst 0, 1) := by decide +kernel
theorem dyX11_count_85 : decode cX11_count 85 = .ok (.ireturn, 1) := by decide +kernel
theorem dyX11_count_86 : decode cX11_count 86 = .ok (.aload_n 2, 1) := by decide +kernel
theorem dyX11_count_87 : decode cX11_count 87 = .ok (.getfield 260, 3) := by decide +kernel
theorem dyX11_count_90 : decode cX11_count 90 = .ok (.ireturn, 1) := by decide +kernel
theorem dyX11_count_91 : decode cX11_count 91 = .ok (.aload_n 2, 1) := by decide +kernel
theorem dyX11_count_92 : decode cX11_count 92 = .ok (.getfield 352, 3) := by decide +kernel
theorem dyX11_count_95 : decode cX11_count 95 = .ok (.ireturn, 1) := by decide +kernel
theorem dyX11_count_96 : decode cX11_count 96 = .ok (.aload_n 0, 1) := by decide +kernel
theorem dyX11_count_97 : decode cX11_count 97 = .ok (.getfield 35, 3) := by decide +kernel
theorem dyX11_count_100 : decode cX11_count 100 = .ok (.getfield 355, 3) := by decide +kernel
theorem dyX11_count_103 : decode cX11_count 103 = .ok (.ireturn, 1) := by decide +kernel
theorem dyX11_count_104 : decode cX11_count 104 = .ok (.aload_n 0, 1) := by decide +kernel
theorem dyX11_count_105 : decode cX11_count 105 = .ok (.getfield 309, 3) := by decide +kernel
theorem dyX11_count_108 : decode cX11_count 108 = .ok (.ireturn, 1) := by decide +kernel
theorem dyX11_count_109 : decode cX11_count 109 = .ok (.aload_n 0, 1) := by decide +kernel
theorem dyX11_count_110 : decode cX11_count 110 = .ok (.getfield 138, 3) := by decide +kernel
theorem dyX11_count_113 : decode cX11_count 113 = .ok (.ireturn, 1) := by decide +kernel
theorem dyX11_count_114 : decode cX11_count 114 = .ok (.aload_n 0, 1) := by decide +kernel
theorem dyX11_count_115 : decode cX11_count 115 = .ok (.getfield 196, 3) := by decide +kernel
theorem dyX11_count_118 : decode cX11_count 118 = .ok (.ireturn, 1) := by decide +kernel
theorem dyX11_count_119 : decode cX11_count 119 = .ok (.aload_n 0, 1) := by decide +kernel
theorem dyX11_count_120 : decode cX11_count 120 = .ok (.getfield 199, 3) := by decide +kernel
theorem dyX11_count_123 : decode cX11_count 123 = .ok (.ireturn, 1) := by decide +kernel
theorem dyX11_count_124 : decode cX11_count 124 = .ok (.aload_n 0, 1) := by decide +kernel
theorem dyX11_count_125 : decode cX11_count 125 = .ok (.iload_n 1, 1) := by decide +kernel
theorem dyX11_count_126 : decode cX11_count 126 = .ok (.invokevirtual 356, 3) := by decide +kernel
theorem dyX11_count_129 : decode cX11_count 129 = .ok (.ireturn, 1) := by decide +kernel
theorem zsg_yX11_count : yX11_count.cls = RX11 ∧ yX11_count.cls ≠ "java/lang/invoke/MethodHandle" ∧ yX11_count.cls ≠ "java/lang/invoke/VarHandle" ∧ (parseMethodDescriptor yX11_count.desc).map (fun d => d.parameters.length) = some 1 := by decide +kernel
set_option maxRecDepth 20000 in
theorem c_Desk_count {l : Launch} {D : va_G} {B : Nat} {cA : Nat → ClassId} {ad : Nat → Nat} {S : List zC} (hS : zOkX S) {a1 : Int32} {I : zI} {K : Int32 → Prop}  (h : w_Desk_count a1 I K) : Met l yX11_count (zws yX11_count cX11_count 3 (some .int)) (zrm 4 89) (zPc D B cA ad [.ref (B + 0), .int a1] S I) (zQc D B cA (zpI S I K)) 0 0 (fun q => B ≤ q) := by
  refine zm_of (cc := cX11_count) (maxL := 3) (ret := (some .int)) (by decide +kernel) rfl (Nat.le_of_ble_eq_true rfl) trivial ?_
  intro p e s m args below meth c C _
  unfold w_Desk_count at h
  show zX p l e (zrm 4 89) s m args below meth c (MQ below (zQc D B cA (zpI S I K)) args s 0 0 (fun q => B ≤ q)) D B cA 3 0 0 S I [(0, .ref (B + 0)), (1, .int a1)] [] 0
  refine zr_aload_n C dyX11_count_0 rfl 0 rfl ?_
  refine zv_11_126 C hS (st := []) h ⟨Nat.le_of_ble_eq_true rfl, Nat.le_of_ble_eq_true rfl⟩ (Nat.le_of_ble_eq_true rfl) dyX11_count_1 (fun r_1 hr_1 h => ?_)
  refine zr_astore_n C dyX11_count_4 rfl (Nat.le_of_ble_eq_true rfl) (lv2 := [(2, .ref (B + r_1)), (0, .ref (B + 0)), (1, .int a1)]) rfl ?_
  refine zr_iload_n C dyX11_count_5 rfl 2 rfl ?_
  by_cases hc_2 : a1 = 0
  · replace h := zif_pos hc_2 h
    refine zr_tableIn C dyX11_count_6 (by rw [hc_2]; decide) (by rw [hc_2]; decide) (off := 54) (by rw [hc_2]; decide) (tgt := 60) (by decide) ?_
    refine zr_aload_n C dyX11_count_60 rfl 0 rfl ?_
    refine zg_11_144 C hr_1 dyX11_count_61 ?_
    exact zr_iret C rfl dyX11_count_64 ⟨rfl, rfl, _, rfl, h⟩
  replace h := zif_neg hc_2 h
  by_cases hc_3 : a1 = 1
  · replace h := zif_pos hc_3 h
    refine zr_tableIn C dyX11_count_6 (by rw [hc_3]; decide) (by rw [hc_3]; decide) (off := 59) (by rw [hc_3]; decide) (tgt := 65) (by decide) ?_
    refine zr_aload_n C dyX11_count_65 rfl 0 rfl ?_
    refine zg_11_99 C hr_1 dyX11_count_66 ?_
    refine zg_11_174 C hr_1.2.2.1 dyX11_count_69 ?_
    exact zr_iret C rfl dyX11_count_72 ⟨rfl, rfl, _, rfl, h⟩
  replace h := zif_neg hc_3 h
  by_cases hc_4 : a1 = 2
  · replace h := zif_pos hc_4 h
    refine zr_tableIn C dyX11_count_6 (by rw [hc_4]; decide) (by rw [hc_4]; decide) (off := 67) (by rw [hc_4]; decide) (tgt := 73) (by decide) ?_
    refine zr_aload_n C dyX11_count_73 rfl 0 rfl ?_
    refine zg_11_155 C hr_1 dyX11_count_74 ?_
    refine zr_if_eq C dyX11_count_77 (tgt := 84) (by decide) (fun hc_5 => ?_) (fun hc_5 => ?_)
    · replace h := zif_pos hc_5 h
      refine zr_iconst C dyX11_count_84 zc_i_0 ?_
      exact zr_iret C rfl dyX11_count_85 ⟨rfl, rfl, _, rfl, h⟩
    · replace h := zif_neg hc_5 h
      refine zr_iconst C dyX11_count_80 zc_i_1 ?_
      refine zr_goto C dyX11_count_81 (tgt := 85) (by decide) ?_
      exact zr_iret C rfl dyX11_count_85 ⟨rfl, rfl, _, rfl, h⟩
  replace h := zif_neg hc_4 h
  by_cases hc_6 : a1 = 3
  · replace h := zif_pos hc_6 h
    refine zr_tableIn C dyX11_count_6 (by rw [hc_6]; decide) (by rw [hc_6]; decide) (off := 80) (by rw [hc_6]; decide) (tgt := 86) (by decide) ?_
    refine zr_aload_n C dyX11_count_86 rfl 0 rfl ?_
    refine zg_11_260 C hr_1 dyX11_count_87 ?_
    exact zr_iret C rfl dyX11_count_90 ⟨rfl, rfl, _, rfl, h⟩
  replace h := zif_neg hc_6 h
  by_cases hc_7 : a1 = 4
  · replace h := zif_pos hc_7 h
    refine zr_tableIn C dyX11_count_6 (by rw [hc_7]; decide) (by rw [hc_7]; decide) (off := 85) (by rw [hc_7]; decide) (tgt := 91) (by decide) ?_
    refine zr_aload_n C dyX11_count_91 rfl 0 rfl ?_
    refine zg_11_352 C hr_1 dyX11_count_92 ?_
    exact zr_iret C rfl dyX11_count_95 ⟨rfl, rfl, _, rfl, h⟩
  replace h := zif_neg hc_7 h
  by_cases hc_8 : a1 = 5
  · replace h := zif_pos hc_8 h
    refine zr_tableIn C dyX11_count_6 (by rw [hc_8]; decide) (by rw [hc_8]; decide) (off := 90) (by rw [hc_8]; decide) (tgt := 96) (by decide) ?_
    refine zr_aload_n C dyX11_count_96 rfl 1 rfl ?_
    refine zg_11_35 C hS dyX11_count_97 ?_
    refine zg_11_355 C hS dyX11_count_100 ?_
    exact zr_iret C rfl dyX11_count_103 ⟨rfl, rfl, _, rfl, h⟩
  replace h := zif_neg hc_8 h
  by_cases hc_9 : a1 = 6
  · replace h := zif_pos hc_9 h
    refine zr_tableIn C dyX11_count_6 (by rw [hc_9]; decide) (by rw [hc_9]; decide) (off := 98) (by rw [hc_9]; decide) (tgt := 104) (by decide) ?_
    refine zr_aload_n C dyX11_count_104 rfl 1 rfl ?_
    refine zg_11_309 C hS dyX11_count_105 ?_
    exact zr_iret C rfl dyX11_count_108 ⟨rfl, rfl, _, rfl, h⟩
  replace h := zif_neg hc_9 h
  by_cases hc_10 : a1 = 7
  · replace h := zif_pos hc_10 h
    refine zr_tableIn C dyX11_count_6 (by rw [hc_10]; decide) (by rw [hc_10]; decide) (off := 103) (by rw [hc_10]; decide) (tgt := 109) (by decide) ?_
    refine zr_aload_n C dyX11_count_109 rfl 1 rfl ?_
    refine zg_11_138 C hS dyX11_count_110 ?_
    exact zr_iret C rfl dyX11_count_113 ⟨rfl, rfl, _, rfl, h⟩
  replace h := zif_neg hc_10 h
  by_cases hc_11 : a1 = 8
  · replace h := zif_pos hc_11 h
    refine zr_tableIn C dyX11_count_6 (by rw [hc_11]; decide) (by rw [hc_11]; decide) (off := 108) (by rw [hc_11]; decide) (tgt := 114) (by decide) ?_
    refine zr_aload_n C dyX11_count_114 rfl 1 rfl ?_
    refine zg_11_196 C hS dyX11_count_115 ?_
    exact zr_iret C rfl dyX11_count_118 ⟨rfl, rfl, _, rfl, h⟩
  replace h := zif_neg hc_11 h
  by_cases hc_12 : a1 = 9
  · replace h := zif_pos hc_12 h
    refine zr_tableIn C dyX11_count_6 (by rw [hc_12]; decide) (by rw [hc_12]; decide) (off := 113) (by rw [hc_12]; decide) (tgt := 119) (by decide) ?_
    refine zr_aload_n C dyX11_count_119 rfl 1 rfl ?_
    refine zg_11_199 C hS dyX11_count_120 ?_
    exact zr_iret C rfl dyX11_count_123 ⟨rfl, rfl, _, rfl, h⟩
  replace h := zif_neg hc_12 h
  refine zr_tableOut C dyX11_count_6 (ztab_out (fun i h1 h2 => ?_)) (tgt := 124) (by decide) ?_
  · rcases (by omega : i = 0 ∨ i = 1 ∨ i = 2 ∨ i = 3 ∨ i = 4 ∨ i = 5 ∨ i = 6 ∨ i = 7 ∨ i = 8 ∨ i = 9) with rfl | rfl | rfl | rfl | rfl | rfl | rfl | rfl | rfl | rfl
    · exact hc_2
    · exact hc_3
    · exact hc_4
    · exact hc_6
    · exact hc_7
    · exact hc_8
    · exact hc_9
    · exact hc_10
    · exact hc_11
    · exact hc_12
  refine zr_aload_n C dyX11_count_124 rfl 1 rfl ?_
  refine zr_iload_n C dyX11_count_125 rfl 2 rfl ?_
  refine zv_11_356 C hS (st := []) h ⟨Nat.le_of_ble_eq_true rfl, Nat.le_of_ble_eq_true rfl⟩ (Nat.le_of_ble_eq_true rfl) dyX11_count_126 (fun r_13 h => ?_)
  exact zr_iret C rfl dyX11_count_129 ⟨rfl, rfl, _, rfl, h⟩
