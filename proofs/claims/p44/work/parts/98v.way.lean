/-! ===== all done again; what is in the way left out ===== -/
theorem kds_ln {l : List Int32} : (kdsL l).length = (toks l).length := by
  unfold kdsL
  rw [List.length_map]
theorem vWay_is {x : Sg} (hb : moB (sgC x) = false) {a m : Nat} (h : wyM (kdsT x) ((kdsT x).length - 1) 1 = some (a, m)) : vWay x 0 = zi a ∧ vWay x 1 = zi m := by
  have h0 : ixI 2 0 = some 0 := by decide +kernel
  have h1 : ixI 2 1 = some 1 := by decide +kernel
  unfold vWay
  rw [h0, h1]
  dsimp only
  rw [hb]
  refine ⟨?_, ?_⟩
  · rw [if_neg (by decide), if_pos rfl]
    exact congrArg resA h
  · rw [if_neg (by decide), if_neg (by decide)]
    exact congrArg resB h
theorem ne_m2 {n : Nat} (h : n < 2147483648) : ¬ zi n = -2 := fun e => by
  have := zi_ge h
  rw [e] at this
  exact absurd this (by decide)
set_option maxHeartbeats 1000000 in
theorem s_1692 {x : Sg} {S : List zC} {I : zI} {c0 u0 : Nat} (hs : Lsv x) (hR : RX I (undK (sgA x).length x)) (hz : zZ I S.length) (h491 : 491 ≤ S.length) (hp : Pb x) (hT : sgT x = []) (hE : sgE x ≤ 30) (hS : S.length ≤ 70000) (hc : c0 ≤ 70000) (hu : u0 ≤ 1100000)
    (hP : ∀ x2 S2 c2 u2 J, Lsv x2 → RX J x2 → Pb x2 → sgT x2 = [] → sgE x2 ≤ 31 → zZ J S2.length → 491 ≤ S2.length → S2.length ≤ 80000 → c2 ≤ 80000 → u2 ≤ 1200000 → w_law_2064 1 c2 u2 S2 J) :
    w_law_1692 1 (zi (moR (sgC x))) (zi (moT (sgC x)).length) (zi (sgA x).length) (zi (sgZ x).length) c0 u0 S I := by
  have hv := hs.1
  have hAZ := hv.2.2.2.2.2.2.2.2.2.2
  obtain ⟨z300, z100⟩ := sz_300 hv
  obtain ⟨yl1, yl2⟩ := undK_len (x := x) (sgA x).length (Nat.le_refl _)
  obtain ⟨ys, yp, yT, yE⟩ := undK_keep hs hp (sgA x).length
  intro P1722 h1722 P1721 _
  rw [if_neg (show ¬ (1 : Int32) = 0 by decide)]
  refine s_undo ys.1 hR (fun J0 q0 r0 => ?_)
  rw [undo_no (show (sgA (undK (sgA x).length x)).length = 0 by omega)] at r0 ⊢
  rw [if_pos rfl]
  refine k_9 r0 ?_
  rw [if_pos (show zi (sgZ (undK (sgA x).length x)).length = zi (sgA x).length + zi (sgZ x).length by rw [yl2, zi_add, Nat.add_comm])]
  refine h1722 1 J0 ?_
  have z0 := cl_zZ hz h491 q0
  intro P1726 h1726
  -- all stands again as it was
  have tail : ∀ J : zI, RX J x → zZ J S.length → P1726 1 (zi (sgA x).length) J := by
    intro J r z
    refine h1726 _ _ _ ?_
    intro P1748 h1748
    rw [if_pos (show zi (sgA x).length ≤ zi (sgA x).length from (zi_le (by omega) (by omega)).mpr (Nat.le_refl _))]
    refine h1748 ?_
    intro P1788 h1788 P1787 _
    rw [if_neg (show ¬ (1 : Int32) = 0 by decide)]
    refine k_4 r ?_
    rw [if_pos rfl]
    refine k_0 r ?_
    rw [if_pos rfl]
    refine k_9 r ?_
    rw [if_pos rfl]
    refine h1788 1 ?_
    intro P2064 h2064
    rw [if_neg (show ¬ (1 : Int32) = 0 by decide)]
    refine k_2 r ?_
    cases hb : moB (sgC x) with
    | true =>
      rw [if_neg (show ¬ b01 true = 0 by decide)]
      exact h2064 _ _ _ _ _ (hP x S c0 u0 J hs r hp hT (by omega) z h491 (by omega) (by omega) (by omega))
    | false =>
      rw [if_pos b01_f]
      obtain ⟨a, m, w1, w2, w3, w4⟩ := way_is hv hs.2.1 hb
      obtain ⟨e0, e1⟩ := vWay_is hb w1
      rw [kds_ln] at w3
      have hll := lex_len (l := moT (sgC x))
      have hng : ¬ auL (kdsL (moT (sgC x))) (0, 0, 0) = some (0, 0, 0) := fun q => by
        have := (moB_iff hv.2.1 hv.2.2.2.2.2.2.2.1 hs.2.1.1).mpr q
        rw [hb] at this
        cases this
      refine ⟨⟨by omega, by omega⟩, s_ltext hv r z h491 (fun S1 J1 n1 r1 a1 => ?_)⟩
      have l1 := n1.len
      have u1 := n1.2.1
      refine t_inTheWay hv r1 (fun J2 q2 r2 => ?_)
      refine t_inTheWay hv r2 (fun J3 q3 r3 => ?_)
      rw [e0, e1]
      refine k_1 r3 ⟨⟨by omega, by omega⟩, ?_⟩
      have a3 := cl_at (cl_at a1 h491 q2) h491 q3
      have z3 := cl_zZ (cl_zZ n1.2.2.2 (by omega) q2) (by omega) q3
      refine s_cutL a3 (by omega) (by omega) z3 (by omega) (fun kc S2 J4 _ n4 t4 => ?_)
      have l4 := n4.len
      have u4 := n4.2.1
      have kxl : ((lexL (moT (sgC x))).map (fun x => x.1)).length = (lexL (moT (sgC x))).length := List.length_map ..
      refine ⟨⟨by omega, by omega⟩, s_kinds t4 (by omega) (by omega) n4.2.2.2 (fun S3 J5 n5 a5 => ?_)⟩
      have l5 := n5.len
      have u5 := n5.2.1
      have r5 : RX J5 x := n5.rx (by omega) hv (n4.rx (by omega) hv r3)
      intro P1861 h1861 P1860 _
      rw [if_neg (zi_pos (show a < 2147483648 by omega)), if_neg (show ¬ zi m ≤ 0 from fun q => by have := (zi_le (b := 0) (by omega) (by decide)).mp q; omega)]
      refine s_wrong a5 (fun y hy => ?_) (by omega) ?_
      · obtain ⟨y', hy', rfl⟩ := List.mem_map.mp hy
        exact (lex_ok hv.2.2.2.2.2.2.2.1.1.2.1 y' hy').1.1
      rw [if_neg (show ¬ wrG ((lexL (moT (sgC x))).map (fun x => x.1)) (0, 0, 0) 0 < 0 from fun q => hng ((wrong_is hv.2.2.2.2.2.2.2.1.1).mp q))]
      refine h1861 1 ?_
      have ta : a < (lexL (moT (sgC x))).length := by omega
      have tb : a + m - 1 < (lexL (moT (sgC x))).length := by omega
      rw [show zi a + zi m - 1 = zi (a + m - 1) by rw [zi_add]; exact zi_sub (b := 1) (by omega)]
      refine t_token hv r5 (t_token hv r5 (t_token hv r5 ?_))
      rw [(vToken_at hv ta).2.1, (vToken_at hv tb).2.1, (vToken_at hv tb).2.2]
      intro v14 e14
      rw [zi_add] at e14
      subst e14
      have pa : (tkT x a).2.1 = tkS0 (moT (sgC x)) a := by
        unfold tkT tkS0
        rw [toks_lex (by omega), List.getD_eq_getElem?_getD, List.getD_eq_getElem?_getD, List.getElem?_eq_getElem (show a < (toks (moT (sgC x))).length by omega)]
        rfl
      have pb : (tkT x (a + m - 1)).2.1 + (tkT x (a + m - 1)).2.2 = tkE0 (moT (sgC x)) (a + m) := by
        unfold tkT tkE0
        rw [toks_lex (by omega), List.getD_eq_getElem?_getD, List.getD_eq_getElem?_getD, List.getElem?_eq_getElem (show a + m - 1 < (toks (moT (sgC x))).length by omega)]
        rfl
      have bp := BtwT_s (l := moT (sgC x)) (f := a) (by omega)
      have bq := BtwT_e (l := moT (sgC x)) (f := a + m) (by omega) (by omega)
      have hkd := way_kd bp bq w4
      rw [← pa] at bp hkd
      rw [← pb] at bq hkd
      have hq1 := bq.1
      have hpq : (tkT x a).2.1 ≤ (tkT x (a + m - 1)).2.1 + (tkT x (a + m - 1)).2.2 := by
        have h := bq.2.1 ((toks (moT (sgC x))).getD a (10, 0, 0)) (by
          rw [List.getD_eq_getElem?_getD, List.getElem?_eq_getElem (show a < (toks (moT (sgC x))).length by omega)]
          exact List.mem_take_iff_getElem.mpr ⟨a, by omega, rfl⟩)
        have e : tkT x a = (toks (moT (sgC x))).getD a (10, 0, 0) := by
          unfold tkT
          exact toks_lex (by omega)
        rw [← e] at h
        omega
      generalize (tkT x a).2.1 = p at *
      generalize (tkT x (a + m - 1)).2.1 + (tkT x (a + m - 1)).2.2 = qq at *
      refine t_mend hv r5 (fun J6 q6 r6 => ?_)
      refine t_mend hv r6 (fun J7 q7 r7 => ?_)
      intro P1979 h1979 P1978 _
      rw [if_neg (show ¬ (1 : Int32) = 0 by decide)]
      -- the blank in the place of what is in the way
      have blank : ∀ L : zI, RX L x → zZ L S3.length → P1979 1 L := by
        intro L rL zL
        refine h1979 1 L ?_
        refine ⟨⟨zL, by decide, by decide, by omega, ?_⟩, fun S4 k4 n4' eS eK eN => ?_⟩
        · rw [show Int32.toNatClampNeg 1 = 1 from zi_tn (a := 1) (by decide)]
          omega
        have eN2 : n4' = ([32] : List Int32).length := eN.trans (show Int32.toNatClampNeg 1 = 1 from zi_tn (a := 1) (by decide))
        subst eN2
        subst eS
        subst eK
        refine ⟨⟨zAt_new, (zin_iff (i := 0) (by decide)).mpr (by decide)⟩, fun I172 e172 => ?_⟩
        subst e172
        obtain ⟨m1, b1⟩ := Bd.nw (l := [32]) ((Bd.start : Bd L S3.length [32] 0 L).next rfl) zL
        have lm := m1.len
        have um := m1.2.1
        have rm : RX (zu L S3.length 0 32) x := m1.rx (by omega) hv rL
        have bt32 : BtL [32] := fun b hb' => by
          rw [List.mem_singleton.mp hb']
          exact ⟨32, by decide, rfl⟩
        refine s_tape hs rm b1 (by omega) bt32 (by rw [hT]; decide) (fun J8 q8 r8 => ?_)
        rw [hT, List.nil_append] at r8
        have hsx : Lsv ([32], x.2) := tape_ls hs (by decide) bt32
        have hpx : Pb ([32], x.2) := hp
        rw [zi_sub hpq]
        refine s_edit hsx.1 r8 (show sgE x < 512 by omega) (fun J9 q9 r9 => ?_)
        have z9 := cl_zZ m1.2.2.2 (by omega) (q8.tr q9)
        have e9 : editR ([32], x.2) (zi p) (zi (qq - p)) = doC ([32], x.2) (seg (moT (sgC x)) 0 p ++ [32] ++ seg (moT (sgC x)) qq (moT (sgC x)).length) true := by
          rw [edit_is (x := ([32], x.2)) hsx.1 (show p + (qq - p) ≤ (moT (sgC x)).length by omega), show p + (qq - p) = qq by omega, seg_0, seg_n, List.append_assoc]
          rfl
        rw [e9] at r9 ⊢
        have hbd : BtL (seg (moT (sgC x)) 0 p ++ [32] ++ seg (moT (sgC x)) qq (moT (sgC x)).length) := (((good_bt hv).1.sg).app bt32).app ((good_bt hv).1.sg)
        generalize seg (moT (sgC x)) 0 p ++ [32] ++ seg (moT (sgC x)) qq (moT (sgC x)).length = d at *
        have out : ∀ (y : Sg) (L : zI), Lsv y → RX L y → Pb y → sgT y = [] → sgE y ≤ 31 → zZ L (S3 ++ [(.inr (.inl (0, ([32] : List Int32).length)) : zC)]).length → ∀ P2063 : Int32 → zI → Prop, (∀ (t_176 : Int32) (I_177 : zI), (P2064 t_176 (S3 ++ [(.inr (.inl (0, ([32] : List Int32).length)) : zC)]) (c0 + 1 + 500 + 1 + 1) (u0 + 400 + 3000 + 400 + ([32] : List Int32).length) I_177) → P2063 t_176 I_177) → P2063 1 L := fun y L y1 y2 y3 y4 y5 y6 P2063 h2063 => h2063 _ _ (h2064 _ _ _ _ _ (hP y _ _ _ L y1 y2 y3 y4 y5 y6 (by omega) (by omega) (by omega) (by show u0 + 400 + 3000 + 400 + 1 ≤ 1200000; omega)))
        intro P2063 h2063 P2062 _
        rw [if_neg (show ¬ (1 : Int32) = 0 by decide)]
        intro P2027 h2027
        by_cases hr : refu ([32], x.2) d
        · rw [doC_ref hr] at r9 h2027 ⊢
          rw [if_neg (show ¬ (-1 : Int32) = 0 by decide), if_neg (show ¬ (0 : Int32) ≤ -1 by decide)]
          have hTap : TapX J9 [32] := r9.1
          refine s_back hTap (by decide) (fun k hk J10 q10 t10 => ?_) (fun u => ?_)
          · obtain ⟨g1, g2⟩ := backN_le (by decide) hk
            have g3 : k = 1 := (zi_eq (show k < 2147483648 by have : k ≤ 1 := g2; omega) (b := 1) (by decide)).mp g1.symm
            subst g3
            rw [if_pos (show zi (([32] : List Int32).length - 1) = 0 from rfl)]
            refine h2027 _ ?_
            have t10 : TapX J10 [] := t10
            have r10 : RX J10 ([], x.2) := RX.tp (x := ([32], x.2)) hsx.1 r9 q10 t10
            have hx0 : x = ([], x.2) := Prod.ext hT rfl
            rw [← hx0] at r10
            refine s_undo hv r10 (fun J11 q11 r11 => ?_)
            have z11 := cl_zZ z9 (by omega) ((q10.mono (fun a j u => by unfold Qtx at u; unfold Qcl; omega)).tr q11)
            obtain ⟨o1, o2, o3, o4⟩ := undo_keep hs hp
            intro P2046 h2046 P2041 h2041
            rw [if_neg (show ¬ (-1 : Int32) = 0 by decide)]
            have last : ∀ t, (undoR x).1 = t → P2046 t := fun t et => h2046 t (by
              rw [if_pos et]
              refine k_2 r11 ?_
              have hle : ¬ (1 : Int32) < b01 (moB (sgC (undoR x).2)) := by
                cases moB (sgC (undoR x).2) <;> decide
              rw [if_neg hle]
              exact out _ _ o1 r11 o2 (o3.trans hT) (by omega) z11 P2063 h2063)
            by_cases a0 : (sgA x).length = 0
            · rw [if_pos (show zi (sgA x).length ≤ 0 by rw [a0]; decide)]
              exact last 0 (by rw [undo_no a0])
            · rw [if_neg (show ¬ zi (sgA x).length ≤ 0 from fun q => by have := (zi_le (b := 0) (by omega) (by decide)).mp q; omega)]
              exact h2041 (last 1 (undo_red (by omega)).1)
          · unfold backN at u
            rw [if_neg (by decide), if_neg (by decide)] at u
            cases u
        · obtain ⟨f1, f2, f3, f4, -⟩ := edit_full hsx.1 hsx.2.1 (show sgE x ≤ 39 by omega) hbd hr
          have ls2 := (doC_ls (bt := true) hsx hbd (show sgE x < 512 by omega)).1
          have pb2 := doC_pb (bt := true) hsx.1 hbd (show sgE x < 512 by omega) hpx
          have hr2 : ¬ (300 < d.length ∨ 3000 ≤ sgM x ∨ 100 < (lexL d).length) := fun w => hr ((refu_is (d := d) hpx (show sgE x ≤ 39 by omega)).mpr w)
          have hok : txOk d := ⟨by omega, hbd.at, by omega⟩
          have i0 : (doC ([32], x.2) d true).1 = 0 := by
            rw [f1, if_pos ((wrong_is hok).mpr (by rw [hkd]; exact w4))]
          have hx2 := doC_do (bt := true) hr
          have hcnt := chg_cnt (x := ([32], x.2)) (d := d) (tp := if (true = true) then [] else sgT ([32], x.2))
          rw [← hx2] at hcnt
          obtain ⟨-, h2, -, h4, -⟩ := hcnt
          rw [i0] at h2027 ⊢
          rw [if_pos rfl]
          refine h2027 _ ?_
          generalize (doC ([32], x.2) d true).2 = x2 at *
          have h2 : sgE x2 = sgE x + 1 := h2
          have h4 : (sgA x2).length = min 20 ((sgA x).length + 1) := h4
          have hA1 : 1 ≤ (sgA x2).length := by omega
          refine s_undo ls2.1 r9 (fun J11 q11 r11 => ?_)
          have z11 := cl_zZ z9 (by omega) q11
          obtain ⟨o1, o2, o3, o4⟩ := undo_keep ls2 pb2
          intro P2046 h2046 P2041 h2041
          rw [if_pos rfl]
          refine h2041 (h2046 1 ?_)
          rw [if_pos (undo_red hA1).1]
          refine k_2 r11 ?_
          have hle : ¬ (1 : Int32) < b01 (moB (sgC (undoR x2).2)) := by
            cases moB (sgC (undoR x2).2) <;> decide
          rw [if_neg hle]
          exact out _ _ o1 r11 o2 (o3.trans f3) (by omega) z11 P2063 h2063
      -- what mends, what is expected
      obtain ⟨w, hw, ew⟩ := expected_is (x := x) hb
      have z7 := cl_zZ (cl_zZ n5.2.2.2 (by omega) q6) (by omega) q7
      have fin : ∀ t1 t2 : Int32, t1 = t2 → (¬ zi (lexL (moT (sgC x))).length ≤ vMend x 0) → (¬ (10 : Int32) ≤ vMend x 1) → (if t1 = t2 then (if zi (lexL (moT (sgC x))).length ≤ vMend x 0 then P1978 J7 else (if 10 ≤ vMend x 1 then P1978 J7 else (w_Desk_expected J7 (fun r_197 I_198 => (if r_197 < 0 then P1978 I_198 else (w_Desk_expected I_198 (fun r_199 I_200 => (if 2048 ≤ r_199 then P1978 I_200 else P1979 1 I_200)))))))) else P1978 J7) := by
        intro t1 t2 et h1 h2
        rw [if_pos et, if_neg h1, if_neg h2]
        refine t_expected hv hs.2.1 r7 (fun J8 q8 r8 => ?_)
        rw [ew, if_neg (zi_pos (show w < 2147483648 by omega))]
        refine t_expected hv hs.2.1 r8 (fun J9 q9 r9 => ?_)
        rw [ew, if_neg (show ¬ (2048 : Int32) ≤ zi w from fun q => by have := (zi_le (a := 2048) (by decide) (by omega)).mp q; omega)]
        exact blank J9 r9 (cl_zZ (cl_zZ z7 (by omega) q8) (by omega) q9)
      have kdl : (kdsT x).length = (lexL (moT (sgC x))).length := by
        rw [kdsT_is, List.length_append, kds_ln, hll]
        rfl
      intro P1928 h1928
      rcases mend_is (x := x) hb with ⟨g1, g2⟩ | ⟨i, k, g1, g2, g3, g4⟩
      · rw [if_pos g1]
        refine h1928 1 ?_
        intro P1940 h1940
        rw [if_pos g2]
        refine h1940 1 (fin 1 1 rfl ?_ ?_)
        · rw [g1]
          exact fun q => by
            have h := zi_ge (show (lexL (moT (sgC x))).length < 2147483648 by omega)
            exact absurd (Int32.le_trans h q) (by decide)
        · rw [g2]
          decide
      · rw [g3, if_neg (ne_m2 (by omega))]
        refine h1928 0 ?_
        intro P1940 h1940
        rw [g4, if_neg (ne_m2 (by omega))]
        refine h1940 0 (fin 0 0 rfl ?_ ?_)
        · rw [g3]
          exact nle_zi (by omega) (by omega)
        · rw [g4]
          exact fun q => by
            have := (zi_le (a := 10) (by decide) (by omega)).mp q
            omega
  -- done again one by one
  have key : ∀ (d k : Nat) (J : zI), d + k = (sgA x).length → RX J (undK d x) → zZ J S.length → P1726 1 (zi k) J := by
    intro d
    induction d with
    | zero =>
      intro k J hd r z
      rw [show k = (sgA x).length by omega]
      exact tail J r z
    | succ d ih =>
      intro k J hd r z
      refine h1726 _ _ _ ?_
      intro P1748 _
      rw [if_neg (show ¬ zi (sgA x).length ≤ zi k from nle_zi (by omega) (by omega)), if_neg (show ¬ (1 : Int32) = 0 by decide)]
      refine s_redo (undK_keep hs hp (d + 1)).1.1 r (fun L q r2 => ?_)
      rw [redK (by omega)] at r2 ⊢
      intro v8 e8
      subst e8
      rw [zi_succ]
      exact ih (k + 1) L (by omega) r2 (cl_zZ z h491 q)
  exact key (sgA x).length 0 J0 rfl r0 z0
