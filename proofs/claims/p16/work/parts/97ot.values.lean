/-! ===== value, worth ===== -/
theorem u_isGoodName {x : Sg} {a : Int32} {I : zI} {K : Int32 → Prop} (hv : Iv x) (hR : RM I x) (h1 : ∀ i, i + 1 < nG x → a = zi i → gnI x a = some i → ndM (sgN x (moO (sgC x) i)) = 5 → I.2 507 i = nmV (sgN x) (moO (sgC x) i) → K 1) (h0 : gnI x a = none → K 0) : w_M_isGoodName a I K := by
  obtain ⟨k1, k2, k3, k4, k5⟩ := kd_ok hv.2.2.2.2.2.2.2.1.2.1
  obtain ⟨u1, u2⟩ := hR.2.2.2.2.2.2.2.1.2.2.2.2.2.2.1
  have l100 : nG x ≤ 100 := hv.2.2.2.2.2.2.2.1.2.1.2.2
  unfold gnI at h1 h0
  unfold w_M_isGoodName
  rw [u1]
  refine u_in (n := nG x) (by omega) (fun i hi e e2 => ?_) (fun e => ?_)
  · have h1' := h1 i
    rw [e2] at h1' h0
    dsimp only at h1' h0
    have hy := tkG_at hi
    obtain ⟨t1, t2⟩ := hv.2.2.2.2.2.2.2.1.2.2.2.2 i _ hy
    have hr := (hv.tr.2.2.2.2.1 i hi).2
    have hM : ndM (sgN x (moO (sgC x) i)) = 5 + (tkG x i).1 := by
      unfold ndM
      rw [hr, if_pos (by decide), t1]
    have h12 := (lex_ok hv.2.2.2.2.2.2.2.1.2.1.2.1 _ (List.mem_of_getElem? hy)).1
    have h12' := h12.1
    rw [if_neg (by decide), e]
    refine ⟨(zin_iff (by omega)).mpr (by omega), ?_⟩
    rw [zi_tn (show i < 2147483648 by omega), show I.1 504 i = zi (tkG x i).1 from (u2 i _ hy).1]
    by_cases u : (tkG x i).1 = 0
    · rw [if_pos (show zi (tkG x i).1 = 0 by rw [u]; rfl)]
      have h5 : ndM (sgN x (moO (sgC x) i)) = 5 := by omega
      rw [if_pos h5] at h1'
      refine h1' (gn_in hv hi h5) e rfl h5 ?_
      rw [show I.2 507 i = isV (txF (moG (sgC x))) (tkG x i) from (u2 i _ hy).2.2.2]
      unfold nmV
      rw [t1, t2]
      exact (isV_bs h12).symm
    · rw [if_neg (show ¬ zi (tkG x i).1 = 0 from fun w => u ((zi_eq (b := 0) (by omega) (by decide)).mp w))]
      rw [if_neg (by omega)] at h0
      exact h0 rfl
  · rw [if_pos rfl]
    rw [e] at h0
    exact h0 rfl
theorem gn_nm {x : Sg} (hv : Iv x) {i : Nat} (hi : i + 1 < nG x) (h5 : ndM (sgN x (moO (sgC x) i)) = 5) : nmV (sgN x) (moO (sgC x) i) ∈ nmL (sgN x) (moR (sgC x)) := by
  obtain ⟨p, f, f1, f2, -⟩ := tok_pl hv hi
  have hpo := fl_po hv.2.1 hv.tr.1 f1
  rw [f2] at hpo
  have hog := (hv.tr.2.2.2.2.1 i (by omega)).2
  refine List.mem_map.mpr ⟨moO (sgC x) i, List.mem_filter.mpr ⟨hpo, decide_eq_true ⟨hog, ?_⟩⟩, rfl⟩
  unfold ndM at h5
  rw [hog, if_pos (by decide)] at h5
  omega
theorem u_value {x : Sg} {a : Int32} {I : zI} {K : Int32 → zI → Prop} (hv : Iv x) (hR : RM I x) (hK : ∀ J, eqQ Qmo I J → RM J x → K (vValue x a) J) : w_M_value a I K := by
  have V := hR.view hv
  have done : ∀ J, eqQ Qal I J → K (vValue x a) J := fun J q => hK J (Qal_mo q) (hR.al hv q)
  have l100 : nG x ≤ 100 := hv.2.2.2.2.2.2.2.1.2.1.2.2
  have hm := V.2.2.1
  unfold vValue at done
  refine u_isGoodName hv hR (fun i hi e e2 h5 g7 => ?_) (fun e => ?_)
  · rw [e2] at done
    dsimp only at done
    rw [if_neg (by decide), e]
    refine u_runsAll V.1 V.2.1 (by omega) V.2.2.2.1 hv.fg.2.1 (tkz_R hv.2.1 hv.2.2.2.2.2.2.2.1).2 V.2.2.2.2.1 (fun v J q nJ => ?_)
    refine ⟨(zin_iff (by omega)).mpr (by omega), ?_⟩
    rw [zi_tn (show i < 2147483648 by omega), q.2 507 i (by unfold Qrk Qna; omega), g7]
    refine u_nameOf (nmL_len V.2.1 V.2.2.2.1) (gn_nm hv hi h5) nJ (fun r C hr qC nC hC _ => ⟨(zin_iff (by omega)).mpr (by omega), ?_⟩)
    rw [zi_tn (show r < 2147483648 by omega), hC]
    exact done C ((Qra_al q).tr (qC.mono (fun a j h => Or.inr (Or.inr (Or.inl h)))))
  · rw [e] at done
    rw [if_pos rfl]
    exact done I eqQ.rf
theorem u_worth {x : Sg} {a : Int32} {I : zI} {K : Int32 → zI → Prop} (hv : Iv x) (hR : RM I x) (hK : ∀ J, eqQ Qmo I J → RM J x → K (vWorth x a) J) : w_M_worth a I K := by
  have V := hR.view hv
  have hm := V.2.2.1
  have done : ∀ J, eqQ Qal I J → K (vWorth x a) J := fun J q => hK J (Qal_mo q) (hR.al hv q)
  have htz := (tkz_R hv.2.1 hv.2.2.2.2.2.2.2.1).2
  unfold vWorth at done
  refine u_isTerm hv hR (fun p f hp e hlt e2 h4 => ?_) (fun p f hp e2 h4 => ?_) (fun e => ?_)
  · rw [e2] at done
    dsimp only at done
    rw [ffA_at hp, if_pos h4] at done
    rw [if_neg (by decide), e]
    have hin : vp_in (zi f.1) 3700 := (zin_iff (by omega)).mpr (by omega)
    have hpos := sz_pos hv.2.1 hlt
    refine u_runsAll V.1 V.2.1 (by omega) V.2.2.2.1 hv.fg.2.1 htz V.2.2.2.2.1 (fun v J q nJ => ⟨hin, ?_⟩)
    have V1 := (hR.al hv (Qra_al q)).view hv
    rw [zi_tn (show f.1 < 2147483648 by omega), (V1.2.2.2.2.1.tv p f hp).2.1]
    refine u_reckons V1.1 V1.2.1 (by omega) V1.2.2.2.1 hv.fg.2.1 htz hp V1.2.2.2.2.1.tv nJ (fun B qB nB wB => ⟨hin, ?_⟩)
    rw [wB p f (Nat.le_refl _) (by omega) hp h4]
    exact done B ((Qra_al q).tr (Qra_al qB))
  · rw [e2] at done
    dsimp only at done
    rw [ffA_at hp, if_neg h4] at done
    rw [if_pos rfl]
    exact done I eqQ.rf
  · rw [e] at done
    rw [if_pos rfl]
    exact done I eqQ.rf
