/-! ===== of a good TEXT: the PRINT, the NAMES' values ===== -/
theorem bt_prR {x : Sg} (hv : Iv x) : BtL (prR x) := fun b hb => by
  have hN := hv.2.1
  have o := hv.2.2.2.2.2.2.2.1
  have hb : b ∈ prt (sgN x) (moR (sgC x)) := hb
  rw [prt_pt hN _ o.2.2.2.1.1] at hb
  obtain ⟨p, hp, hbp⟩ := List.mem_flatMap.mp hb
  rcases ptX_in hN _ o.2.2.2.1.1 p hp with rfl | rfl | ⟨z, hz, rfl⟩
  · have h : b ∈ ([40] : List Int32) := hbp
    rw [List.mem_singleton.mp h]
    exact ⟨40, by decide, rfl⟩
  · have h : b ∈ ([41] : List Int32) := hbp
    rw [List.mem_singleton.mp h]
    exact ⟨41, by decide, rfl⟩
  · obtain ⟨-, h⟩ := (prt_R hN o).2 z hz
    obtain ⟨j, hj⟩ := List.mem_iff_getElem?.mp (show b ∈ ndY (sgN x z) from hbp)
    have h2 := h j (List.getElem?_eq_some_iff.mp hj).1
    unfold bsF at h2
    rw [List.getD_eq_getElem?_getD, hj] at h2
    exact h2
theorem au_prR {x : Sg} (hv : Iv x) : auL (kdsL (prR x)) Z0 = some Z0 := (print_tkx hv.2.1 hv.2.2.2.2.2.2.2.1).2.1
/-- what the NAMES of the first k tokens come to -/
def nvL (x : Sg) (k : Nat) : List Int32 := (((tkx (moG (sgC x))).take k).filter isNX).map (vlX x)
def nvA (x : Sg) : List Int32 := ((tkx (moG (sgC x))).filter isNX).map (vlX x)
theorem nvL_0 {x : Sg} : nvL x 0 = [] := by
  unfold nvL
  rw [List.take_zero]
  rfl
theorem nvL_no {x : Sg} {k : Nat} {p : Nat × List Int32} (h : (tkx (moG (sgC x)))[k]? = some p) (h0 : p.1 ≠ 0) : nvL x (k + 1) = nvL x k := by
  unfold nvL
  rw [List.take_add_one, h, List.filter_append]
  show (_ ++ List.filter isNX [p]).map _ = _
  rw [List.filter_cons_of_neg (by unfold isNX; rw [decide_eq_false h0]; decide), List.filter_nil, List.append_nil]
theorem nvL_yes {x : Sg} {k : Nat} {p : Nat × List Int32} (h : (tkx (moG (sgC x)))[k]? = some p) (h0 : p.1 = 0) : nvL x (k + 1) = nvL x k ++ [vlX x p] := by
  unfold nvL
  rw [List.take_add_one, h, List.filter_append]
  show (_ ++ List.filter isNX [p]).map _ = _
  rw [List.filter_cons_of_pos (by unfold isNX; rw [decide_eq_true h0]), List.filter_nil, List.map_append]
  rfl
theorem nvL_end {x : Sg} {k : Nat} (h : (tkx (moG (sgC x))).length ≤ k) : nvL x k = nvA x := by
  unfold nvL nvA
  rw [List.take_of_length_le h]
theorem nvL_le {x : Sg} {k : Nat} : (nvL x k).length ≤ k := by
  unfold nvL
  rw [List.length_map]
  exact Nat.le_trans (List.length_filter_le ..) (by rw [List.length_take]; omega)
theorem nvL_pre {x : Sg} {k : Nat} : nvL x k <+: nvA x := by
  unfold nvL nvA
  exact ((List.take_prefix k _).filter isNX).map (vlX x)
theorem nvA_at {x : Sg} {k : Nat} {v : Int32} (h : nvL x (k + 1) = nvL x k ++ [v]) : (nvL x k).length < (nvA x).length ∧ (nvA x).getD (nvL x k).length 0 = v := by
  obtain ⟨t, ht⟩ := nvL_pre (x := x) (k := k + 1)
  rw [← ht, h]
  refine ⟨by rw [List.length_append, List.length_append, List.length_singleton]; omega, ?_⟩
  rw [List.append_assoc, gd_r (Nat.le_refl _), Nat.sub_self]
  rfl
/-- a token of a TEXT that is good -/
theorem tk_good {x : Sg} (hv : Iv x) (hb : moB (sgC x) = true) {k : Nat} (hk : k < nG x) : (∃ p, (tkx (moG (sgC x)))[k]? = some p ∧ vToken x (zi k) 0 = zi p.1 ∧ p.1 < 2147483648) ∨ (k + 1 = nG x ∧ vToken x (zi k) 0 = 10 ∧ (tkx (moG (sgC x))).length = k) := by
  have eT : moT (sgC x) = moG (sgC x) := hv.2.2.2.2.2.2.2.1.2.2.1 hb
  have eG : nG x = (toks (moG (sgC x))).length + 1 := lex_len (l := moG (sgC x))
  have hX : (tkx (moG (sgC x))).length = (toks (moG (sgC x))).length := by
    unfold tkx
    rw [List.length_map]
  have hlx : k < (lexL (moT (sgC x))).length := by
    rw [eT]
    exact hk
  have hv0 := (vToken_at hv hlx).1
  have hkd := (lex_ok hv.2.2.2.2.2.2.2.1.1.2.1 _ (List.mem_of_getElem? (tkT_at hlx))).1.1
  by_cases hl : k < (toks (moG (sgC x))).length
  · have e : tkT x k = (toks (moG (sgC x))).getD k (10, 0, 0) := by
      unfold tkT
      rw [eT]
      exact toks_lex hl
    refine Or.inl ⟨_, tkx_ti hl, hv0.trans (congrArg (fun y : Nat × Nat × Nat => zi y.1) e), ?_⟩
    show ((toks (moG (sgC x))).getD k (10, 0, 0)).1 < 2147483648
    rw [← e]
    omega
  · refine Or.inr ⟨by omega, ?_, by omega⟩
    rw [hv0]
    unfold tkT
    rw [eT, lexL_toks, List.getD_eq_getElem?_getD, List.getElem?_append_right (by omega), show k - (toks (moG (sgC x))).length = 0 by omega]
    rfl
theorem vlX_is {x : Sg} (hv : Iv x) {k : Nat} {p : Nat × List Int32} (hp : (tkx (moG (sgC x)))[k]? = some p) (h0 : p.1 = 0) : vValue x (zi k) = vlX x p := by
  rw [(value_is hv hp).1, if_pos h0]
  rfl
set_option maxHeartbeats 1000000 in
theorem s_2220 {x : Sg} {S : List zC} {I : zI} {c0 u0 a b n : Nat} (hs : Lsv x) (hR : RX I x) (hz : zZ I S.length) (h491 : 491 ≤ S.length) (hT : sgT x = []) (hE : sgE x ≤ 32) (hA : AtL S I a (prR x)) (ha : 491 ≤ a) (hb : 491 ≤ b) (hB : zAt S b n) (hn : (nvA x).length ≤ n) (hn2 : n ≤ 1000) (hV : ∀ j, j < (nvA x).length → I.1 b j = (nvA x).getD j 0) (hc : c0 ≤ 90000) (hu : u0 ≤ 1300000) : w_law_2220 (zi (prR x).length) a (prR x).length (vRuns x) b n (zi (nvA x).length) c0 u0 S I := by
  have hv := hs.1
  have l498 := prR_len hv
  have hbS : b < S.length := (List.getElem?_eq_some_iff.mp hB).1
  refine k_17 hR (k_12 hR (k_13 hR (t_idle hv hR ⟨⟨by omega, by omega⟩, ?_⟩)))
  refine s_replaced hs hR hz h491 hT hE hA ha (by omega) (bt_prR hv) (au_prR hv) (fun S2 J => ?_) (fun S2 J x' hs' hR' eT' hb' hz' up' _ kp' => ?_)
  · intro P2270 h2270
    rw [if_neg (show ¬ (1 : Int32) ≤ -1 by decide)]
    refine h2270 1 ?_
    rw [if_neg (show ¬ (-1 : Int32) = 0 by decide)]
  · have hv' := hs'.1
    obtain ⟨g1, g2, g3, g4, g5, g6, g7⟩ := print_all hv hv' hb' eT'
    have g7 : nvA x' = nvA x := g7
    have hl2 : S.length ≤ S2.length := by
      obtain ⟨T, rfl⟩ := up'
      rw [List.length_append]
      omega
    have hB2 : zAt S2 b n := zAt_up hB up'
    have h300 : nG x' ≤ 100 := hv'.2.2.2.2.2.2.2.1.2.1.2.2
    intro P2270 h2270
    rw [if_neg (show ¬ (1 : Int32) ≤ 0 by decide)]
    refine h2270 1 ?_
    rw [if_pos rfl]
    refine k_0 hR' ?_
    rw [eT', if_pos rfl]
    intro P2358 h2358 P2357 _
    rw [if_neg (show ¬ (1 : Int32) = 0 by decide)]
    refine t_runs hR' ?_
    rw [if_pos (show vRuns x' = vRuns x from congrArg zi g1)]
    refine k_17 hR' ?_
    rw [g2, if_pos rfl]
    refine k_12 hR' ?_
    rw [g3, if_pos rfl]
    refine k_13 hR' ?_
    rw [g4, if_pos rfl]
    refine t_idle hv' hR' ?_
    rw [if_pos (show vIdle x' 0 = vIdle x 0 by unfold vIdle; rw [if_pos rfl, if_pos rfl, g5])]
    refine k_15 hR' ?_
    rw [if_neg (show ¬ zi (prt (sgN x') (moR (sgC x'))).length < zi (prR x).length by rw [show (prt (sgN x') (moR (sgC x'))).length = (prR x).length from g6]; exact fun w => Nat.lt_irrefl _ ((zi_lt (a := (prR x).length) (b := (prR x).length) (by omega) (by omega)).mp w))]
    refine h2358 1 ?_
    intro P2365 h2365
    have key : ∀ (d k : Nat), d + k = nG x' → P2365 1 (zi (nvL x' k).length) (zi k) := by
      intro d
      induction d with
      | zero =>
        intro k hk
        refine h2365 _ _ _ ?_
        refine k_3 hR' ?_
        rw [if_pos (show zi (nG x') ≤ zi k from (zi_le (by omega) (by omega)).mpr (by omega))]
        intro P2448 h2448 P2447 _
        rw [if_neg (show ¬ (1 : Int32) = 0 by decide)]
        have hX : (tkx (moG (sgC x'))).length ≤ k := by
          have eG : nG x' = (toks (moG (sgC x'))).length + 1 := lex_len (l := moG (sgC x'))
          unfold tkx
          rw [List.length_map]
          omega
        rw [nvL_end hX, g7, if_pos rfl]
        refine ⟨⟨by omega, by omega⟩, s_stands hs' hR' hz' (by omega) (fun S3 J3 n3 => ?_)⟩
        rw [if_neg (show ¬ (1 : Int32) = 0 by decide)]
        exact h2448 _ _ _ _ _ rfl
      | succ d ih =>
        intro k hk
        have hlk := nvL_le (x := x') (k := k)
        refine h2365 _ _ _ ?_
        refine k_3 hR' ?_
        rw [if_neg (show ¬ zi (nG x') ≤ zi k from nle_zi (by omega) (by omega))]
        refine t_token hv' hR' ?_
        have on : ∀ v19, v19 = zi (nvL x' (k + 1)).length → ∀ v20, v20 = zi k + 1 → P2365 1 v19 v20 := fun v19 e19 v20 e20 => by
          rw [e19, e20, zi_succ]
          exact ih (k + 1) (by omega)
        intro P2419 h2419
        rcases tk_good hv' hb' (show k < nG x' by omega) with ⟨p, hp, e0, hp2⟩ | ⟨-, e0, hX⟩
        · rw [e0]
          by_cases p0 : p.1 = 0
          · rw [if_pos (show zi p.1 = 0 by rw [p0]; rfl)]
            intro P2418 h2418 P2417 _
            rw [if_neg (show ¬ (1 : Int32) = 0 by decide)]
            have hy := nvL_yes hp p0
            obtain ⟨i1, i2⟩ := nvA_at hy
            rw [g7] at i1 i2
            rw [if_neg (show ¬ zi (nvA x).length ≤ zi (nvL x' k).length from nle_zi i1 (by omega))]
            refine t_value hv' hR' ?_
            intro v19 e19
            refine ⟨⟨hB2, (zin_iff (by omega)).mpr (by omega)⟩, ?_⟩
            have er : vValue x' (zi k) = J.1 b (Int32.toNatClampNeg (zi (nvL x' k).length)) := by
              rw [zi_tn (show (nvL x' k).length < 2147483648 by omega), kp' b hb hbS, hV _ i1, i2]
              exact vlX_is hv' hp p0
            rw [if_pos er]
            refine h2418 _ _ (h2419 _ _ (on _ ?_))
            rw [e19, zi_succ, hy, List.length_append]
            rfl
          · rw [if_neg (show ¬ zi p.1 = 0 from fun q => p0 ((zi_eq (b := 0) hp2 (by decide)).mp q))]
            refine h2419 _ _ (on _ ?_)
            rw [nvL_no hp p0]
        · rw [e0, if_neg (show ¬ (10 : Int32) = 0 by decide)]
          refine h2419 _ _ (on _ ?_)
          rw [nvL_end (show (tkx (moG (sgC x'))).length ≤ k + 1 by omega), nvL_end (show (tkx (moG (sgC x'))).length ≤ k by omega)]
    have h := key (nG x') 0 rfl
    rw [nvL_0] at h
    exact h
set_option maxHeartbeats 1000000 in
theorem s_2093 {x : Sg} {S : List zC} {I : zI} {c0 u0 : Nat} (hs : Lsv x) (hR : RX I x) (hz : zZ I S.length) (h491 : 491 ≤ S.length) (hT : sgT x = []) (hE : sgE x ≤ 31) (hS : S.length ≤ 80000) (hc : c0 ≤ 80000) (hu : u0 ≤ 1200000) : w_law_2093 1 c0 u0 S I := by
  have hv := hs.1
  have l498 := prR_len hv
  have h100 : nG x ≤ 100 := hv.2.2.2.2.2.2.2.1.2.1.2.2
  unfold w_law_2093
  rw [if_neg (show ¬ (1 : Int32) = 0 by decide)]
  refine k_2 hR ?_
  cases hb : moB (sgC x) with
  | false =>
    rw [if_neg (show ¬ b01 false = 1 by decide)]
  | true =>
    rw [if_pos b01_t]
    refine k_5 hR ?_
    split
    · rfl
    refine k_15 hR ?_
    rw [show (prt (sgN x) (moR (sgC x))).length = (prR x).length from rfl]
    refine ⟨⟨hz, zi_ge (by omega), by rw [zi_tn (by omega)]; omega, by omega, by rw [zi_tn (by omega)]; omega⟩, ?_⟩
    intro S36 k n eS eK eN
    rw [zi_tn (by omega)] at eN
    subst eN
    subst eK
    have l36 : S36.length = S.length + 1 := by rw [eS, List.length_append]; rfl
    have hA36 : zAt S36 S.length (prR x).length := by
      rw [eS]
      exact zAt_new
    intro P2134 h2134
    refine s_up (n := (prR x).length) (P := P2134) (Bd I S.length (prR x)) (fun i J hi hJ kk => ?_) (fun J hJ => ?_) _ 0 rfl I Bd.start
    · refine h2134 _ _ ?_
      rw [if_neg (show ¬ zi (prR x).length ≤ zi i from nle_zi hi (by omega))]
      have hR2 : RX J x := RX_fr hv hR hJ.2 (fun a j q => by omega)
      have ev : vPrint x (zi i) = (prR x).getD i 0 := by
        unfold vPrint
        rw [ixI_some (by omega) hi]
      refine t_print hv hR2 ⟨⟨hA36, (zin_iff (by omega)).mpr hi⟩, fun I124 e124 v10 e10 => ?_⟩
      subst e124
      subst e10
      rw [zi_succ, zi_tn (by omega)]
      exact kk _ (hJ.next ev)
    · obtain ⟨n1, a1⟩ := hJ.nw hz
      rw [← eS] at n1 a1
      have r1 := n1.rx h491 hv hR
      have z1 := n1.2.2.2
      refine h2134 _ _ ?_
      rw [if_pos (show zi (prR x).length ≤ zi (prR x).length from (zi_le (by omega) (by omega)).mpr (Nat.le_refl _))]
      refine k_3 r1 (t_runs r1 ?_)
      refine ⟨⟨z1, zi_ge (by omega), by rw [zi_tn (by omega)]; omega, by omega, by rw [zi_tn (by omega)]; omega⟩, ?_⟩
      intro S44 kb nb eS2 eK2 eN2
      rw [zi_tn (by omega)] at eN2
      subst eN2
      have l44 : S44.length = S36.length + 1 := by rw [eS2, List.length_append]; rfl
      have hB : zAt S44 kb (nG x) := by
        rw [eS2, eK2]
        exact zAt_new
      have up44 : ∃ T, S44 = S36 ++ T := ⟨_, eS2⟩
      intro P2183 h2183
      have key : ∀ (d k : Nat) (L : zI), d + k = nG x → eqQ (fun a _ => a = kb) J L → (∀ j, j < (nvL x k).length → L.1 kb j = (nvL x k).getD j 0) → P2183 (zi (nvL x k).length) (zi k) L := by
        intro d
        induction d with
        | zero =>
          intro k L hk q hj
          have hX : (tkx (moG (sgC x))).length ≤ k := by
            have eG : nG x = (toks (moG (sgC x))).length + 1 := lex_len (l := moG (sgC x))
            unfold tkx
            rw [List.length_map]
            omega
          have hle := nvL_le (x := x) (k := k)
          rw [nvL_end hX] at hj hle ⊢
          refine h2183 _ _ _ ?_
          rw [if_pos (show zi (nG x) ≤ zi k from (zi_le (by omega) (by omega)).mpr (by omega))]
          have rL : RX L x := RX_fr hv r1 q (fun a j w => by have w : a = kb := w; omega)
          have zL : zZ L S44.length := by
            rw [l44]
            exact (z1.up (Nat.le_succ _)).q q (fun a j w => by have w : a = kb := w; omega)
          have aL : AtL S44 L S.length (prR x) := a1.kp up44 (funext fun j => q.1 S.length j (fun w => by have w : S.length = kb := w; omega))
          exact s_2220 hs rL zL (by omega) hT (by omega) aL h491 (by omega) hB (by omega) (by omega) hj (by omega) (by omega)
        | succ d ih =>
          intro k L hk q hj
          have hle := nvL_le (x := x) (k := k)
          refine h2183 _ _ _ ?_
          rw [if_neg (show ¬ zi (nG x) ≤ zi k from nle_zi (by omega) (by omega))]
          have rL : RX L x := RX_fr hv r1 q (fun a j w => by have w : a = kb := w; omega)
          refine t_token hv rL ?_
          have on : ∀ v13 L2, v13 = zi (nvL x (k + 1)).length → eqQ (fun a _ => a = kb) J L2 → (∀ j, j < (nvL x (k + 1)).length → L2.1 kb j = (nvL x (k + 1)).getD j 0) → ∀ v14, v14 = zi k + 1 → P2183 v13 v14 L2 := fun v13 L2 e13 q2 h2 v14 e14 => by
            rw [e13, e14, zi_succ]
            exact ih (k + 1) L2 (by omega) q2 h2
          intro P2214 h2214
          rcases tk_good hv hb (show k < nG x by omega) with ⟨p, hp, e0, hp2⟩ | ⟨-, e0, hX⟩
          · rw [e0]
            by_cases p0 : p.1 = 0
            · rw [if_pos (show zi p.1 = 0 by rw [p0]; rfl)]
              intro v13 e13
              refine t_value hv rL ⟨⟨hB, (zin_iff (by omega)).mpr (by omega)⟩, fun I120 e120 => ?_⟩
              have hy := nvL_yes hp p0
              have hyl : (nvL x (k + 1)).length = (nvL x k).length + 1 := by rw [hy, List.length_append]; rfl
              rw [zi_tn (show (nvL x k).length < 2147483648 by omega), vlX_is hv hp p0] at e120
              refine h2214 _ _ (on _ _ (by rw [e13, zi_succ, hyl]) (by rw [e120]; exact q.zu rfl) (fun j hj2 => ?_))
              rw [e120]
              by_cases ej : j = (nvL x k).length
              · rw [ej, zu_self, hy, gd_r (Nat.le_refl _), Nat.sub_self]
                rfl
              · rw [zu_i ej, hj j (by omega), hy, gd_l (by omega)]
            · rw [if_neg (show ¬ zi p.1 = 0 from fun w => p0 ((zi_eq (b := 0) hp2 (by decide)).mp w))]
              refine h2214 _ _ (on _ _ (by rw [nvL_no hp p0]) q (fun j hj2 => ?_))
              rw [nvL_no hp p0] at hj2 ⊢
              exact hj j hj2
          · rw [e0, if_neg (show ¬ (10 : Int32) = 0 by decide)]
            have en : nvL x (k + 1) = nvL x k := by rw [nvL_end (show (tkx (moG (sgC x))).length ≤ k + 1 by omega), nvL_end (show (tkx (moG (sgC x))).length ≤ k by omega)]
            refine h2214 _ _ (on _ _ (by rw [en]) q (fun j hj2 => ?_))
            rw [en] at hj2 ⊢
            exact hj j hj2
      have h := key (nG x) 0 J (Nat.add_zero _) eqQ.rf (fun j hj => by rw [nvL_0] at hj; exact absurd hj (Nat.not_lt_zero _))
      rw [nvL_0] at h
      exact h
/-! ===== from the start to the end ===== -/
theorem w_law44_all : w_law44 := by
  refine start_X (fun I1 hR hz => ⟨hz, ?_⟩)
  have h0 : Pb x0 := Nat.zero_le _
  have l491 : zSx.length = 491 := zSx_len
  refine s_39 x0_ls hR (by rw [l491]; exact hz) (by omega) rfl h0 rfl (by omega) (by omega) (by omega) (fun x2 S2 c2 u2 J a1 a2 a3 a4 a5 a6 a7 a8 a9 b1 => ?_)
  refine s_1615 a1 a2 a6 a7 a4 (by omega) (by omega) (by omega) (fun S3 c3 u3 J3 d1 d2 d3 d4 d5 d6 => ?_)
  refine s_1692 a1 d1 d2 d3 a4 a3 a5 d4 d5 d6 (fun x4 S4 c4 u4 J4 e1 e2 e3 e4 e5 e6 e7 e8 e9 f1 => ?_)
  exact s_2064 e1 e2 e6 e7 e3 e4 e5 (fun x5 J5 g1 g2 g3 g4 g5 => s_2093 g1 g2 g5 e7 g3 g4 e8 e9 f1)
