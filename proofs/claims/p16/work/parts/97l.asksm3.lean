/-! ===== print, alike, value, worth: the model ===== -/
def Qal (a j : Nat) : Prop := Qpp a j ∨ a = 545 ∨ Qrk a j
theorem Qal_mo {I J : zI} (q : eqQ Qal I J) : eqQ Qmo I J := q.mono (fun a j h => by unfold Qal Qpp Qrk Qna at h; unfold Qmo; omega)
theorem RM.al {I J : zI} {x : Sg} (hv : Iv x) (h : RM I x) (q : eqQ Qal I J) : RM J x := RM.kp (tp := x.1) hv h (fun a j u => q.1 a j (by unfold Qal Qpp Qrk Qna; omega)) (fun a j u => q.2 a j (by unfold Qal Qpp Qrk Qna; omega))
theorem Qpp_al {I J : zI} (q : eqQ Qpp I J) : eqQ Qal I J := q.mono (fun a j h => Or.inl h)
theorem Qra_al {I J : zI} (q : eqQ Qrk I J) : eqQ Qal I J := q.mono (fun a j h => Or.inr (Or.inr h))
theorem Vw.root {m R n : Nat} {N : Nat → Nd} {og : Nat → Nat} {I : zI} (V : Vw I m R n N og) : InP N R R 0 1 := by
  obtain ⟨l1, l2, l3, l4, l5, l6, l7⟩ := V.len
  obtain ⟨c, d, hI⟩ := inp_at (N := N) (R := R) (p := 0) (by omega)
  obtain ⟨-, b, -⟩ := InP.pos V.2.1 l7 _ _ _ hI
  obtain ⟨rfl, rfl⟩ := b rfl
  exact hI
theorem m_print {x : Sg} {a : Int32} {I : zI} {K : Int32 → zI → Prop} (hv : Iv x) (hR : RM I x) (hK : ∀ v J, eqQ Qmo I J → RM J x → K v J) : w_M_print a I K := by
  have V := hR.view hv
  unfold w_M_print
  rw [show I.1 491 37 = zi (moR (sgC x)) from V.2.2.2.2.1.1]
  refine s_prints V (hR.gdw hv) V.root (fun J k q hk h80 => ?_)
  have done : ∀ v, K v J := fun v => hK v J (Qal_mo (Qpp_al q)) (hR.al hv (Qpp_al q))
  rw [h80]
  refine s_in (fun c => ?_) (fun _ => ?_)
  · obtain ⟨i, hi, rfl⟩ := in_idx (by omega) c
    rw [if_neg (by decide)]
    exact ⟨(zin_iff (by omega)).mpr (by omega), done _⟩
  · rw [if_pos rfl]
    exact done _
theorem m_alike {x : Sg} {a b : Int32} {I : zI} {K : Int32 → zI → Prop} (hv : Iv x) (hR : RM I x) (hK : ∀ v J, eqQ Qmo I J → RM J x → K v J) : w_M_alike a b I K := by
  have V := hR.view hv
  have done : ∀ v J, eqQ Qal I J → K v J := fun v J q => hK v J (Qal_mo q) (hR.al hv q)
  refine s_isTerm V (fun c p d e hI _ => ?_) ?_
  rotate_left
  · rw [if_pos rfl]
    exact done _ I eqQ.rf
  rw [if_neg (by decide)]
  refine s_isTerm V (fun c2 p2 d2 e2 hI2 _ => ?_) ?_
  rotate_left
  · rw [if_pos rfl]
    exact done _ I eqQ.rf
  rw [if_neg (by decide), e]
  refine s_prints V (hR.gdw hv) hI (fun J k q hk h80 => ?_)
  intro v3 ev3
  rw [ev3, h80]
  intro P31 h31
  have main : ∀ (f i : Nat) (A : zI), i + f = k → eqQ Qal I A → P31 (zi i) A := by
    intro f
    induction f with
    | zero =>
      intro i A hi qA
      refine h31 _ _ ?_
      rw [if_pos ((zi_le (by omega) (by omega)).mpr (by omega)), e2]
      have rA := hR.al hv qA
      refine s_prints (rA.view hv) (rA.gdw hv) hI2 (fun B k2 qB hk2 hB80 => ?_)
      have qB' := qA.tr (Qpp_al qB)
      split
      · intro P75 h75
        refine up_idx (n := k) (P := P75) (fun i hi ih => ?_) ?_ 0 (Nat.zero_le _)
        · refine h75 _ ?_
          have hin : vp_in (zi i) 1000 := (zin_iff (by omega)).mpr (by omega)
          rw [if_neg (fun u => by have := (zi_le (by omega) (by omega)).mp u; omega)]
          refine ⟨hin, hin, ?_⟩
          split
          · intro v ev
            rw [ev, zi_succ]
            exact ih
          · exact done _ B qB'
        · refine h75 _ ?_
          rw [if_pos (Int32.le_refl _)]
          exact done _ B qB'
      · exact done _ B qB'
    | succ f ih =>
      intro i A hi qA
      refine h31 _ _ ?_
      have hin : vp_in (zi i) 1000 := (zin_iff (by omega)).mpr (by omega)
      rw [if_neg (fun u => by have := (zi_le (by omega) (by omega)).mp u; omega)]
      refine ⟨hin, hin, fun I13 e13 v ev => ?_⟩
      rw [ev, zi_succ]
      exact ih (i + 1) I13 (by omega) (by rw [e13]; exact qA.zu (Or.inr (Or.inl rfl)))
  exact main k 0 J (by omega) (Qpp_al q)
