/-! ===== a token put on the stack: the model (two lines of its grows) ===== -/
def Qmt (c a j : Nat) : Prop := (a = 514 ∧ j = c) ∨ (a = 491 ∧ (j = 71 ∨ j = 72)) ∨ ((a = 539 ∨ a = 540) ∧ j < 400)
theorem s_Mshift {m s c y : Nat} {st : List (Nat × Nat)} {N : Nat → Nd} {I : zI} {K : zI → Prop} (rep : RepNM I m N) (hc : ∀ k, k < m → (ndC (N k)).length ≤ 4) (hm : m ≤ 3700) (hcm : c < m) (hS : StM I st) (hl : st.length < 400) (hst : ndS (N c) = -2 ∨ ∃ n : Nat, n < 21 ∧ ndS (N c) = n)
    (hK : ∀ J, eqQ (Qmt c) I J → RepNM J m (upN N c (stNd (N c) s)) → StM J (st ++ [(c, y)]) → J.1 491 72 = I.1 491 72 + 1 → K J) :
    vp_in (zi c) 3700 ∧ (∀ (P : zI → Prop), (∀ I18, w_M_laysOn (zi c) (zi y) I18 K → P I18) → (if I.1 514 (Int32.toNatClampNeg (zi c)) = (-2) then (vp_in (zi c) 3700 ∧ (∀ I21, I21 = (zu I 514 (Int32.toNatClampNeg (zi c)) (zi s)) → P I21)) else P I)) := by
  obtain ⟨h0, h1, h2⟩ := id hS
  have nd := rep.2 c hcm
  refine ⟨(zin_iff (by omega)).mpr (by omega), fun P hP => ?_⟩
  rw [zi_tn (show c < 2147483648 by omega), show I.1 514 c = Int32.ofInt (ndS (N c)) from nd.2.1]
  have fin : ∀ I5, eqQ (Qmt c) I I5 → RepNM I5 m (upN N c (stNd (N c) s)) → StM I5 st → I5.1 491 72 = I.1 491 72 → P I5 := by
    intro I5 q r S5 g5
    refine hP _ ?_
    refine s_laysOn S5 hl (fun J q6 S6 c6 => ?_)
    refine hK J (q.tr (q6.mono (fun a j h => by unfold Qlo at h; unfold Qmt; omega))) ⟨?_, fun k hk => ?_⟩ S6 (by rw [c6, g5])
    · rw [q6.1 _ _ (by unfold Qlo; omega)]
      exact r.1
    · refine (r.2 k hk).kept ?_ (fun a u1 u2 u3 => q6.1 a k (by unfold Qlo; omega)) (fun j hj => q6.1 513 _ (by unfold Qlo; omega)) (q6.2 511 k (by unfold Qlo; omega))
      by_cases u : k = c
      · subst u
        rw [upN_self, stNd_C]
        exact hc k hcm
      · rw [upN_o u]
        exact hc k hk
  rcases hst with hn | ⟨n, hn21, hn⟩
  · rw [hn, if_pos (show Int32.ofInt (-2) = -2 by decide)]
    refine ⟨(zin_iff (by omega)).mpr (by omega), fun I21 e21 => ?_⟩
    have o : ∀ a j, ¬ (a = 514 ∧ j = c) → I21.1 a j = I.1 a j := fun a j u => by rw [e21, zu_at, if_neg u]
    have o2 : ∀ a j, I21.2 a j = I.2 a j := fun a j => by rw [e21]; rfl
    have hd : stNd (N c) s = ((N c).1, (N c).2.1, (s : Int), (N c).2.2.2) := by
      unfold stNd
      rw [hn, if_neg (by decide)]
    refine fin _ (by rw [e21]; exact eqQ.rf.zu (Or.inl ⟨rfl, rfl⟩)) ⟨by rw [o _ _ (by omega)]; exact rep.1, fun k hk => ?_⟩ ⟨h0, by rw [o _ _ (by omega)]; exact h1, fun j p hj => by rw [o _ _ (by omega), o _ _ (by omega)]; exact h2 j p hj⟩ (o _ _ (by omega))
    by_cases u : k = c
    · subst u
      rw [upN_self, hd]
      obtain ⟨n1, n2, n3, n4, n5, n6, n7⟩ := nd
      refine ⟨by rw [o _ _ (by omega)]; exact n1, ?_, by rw [o _ _ (by omega)]; exact n3, by rw [o _ _ (by omega)]; exact n4, by rw [o _ _ (by omega)]; exact n5, fun i x hi => by rw [o _ _ (by omega)]; exact n6 i x hi, fun q => ?_⟩
      · rw [e21, zu_self]
        exact (zi_int s).symm
      · obtain ⟨w1, w2⟩ := n7 q
        exact ⟨by rw [o _ _ (by omega)]; exact w1, by rw [o2]; exact w2⟩
    · rw [upN_o u]
      exact (rep.2 k hk).kept (hc k hk) (fun a u1 u2 u3 => o a k (by omega)) (fun j hj => o _ _ (by omega)) (o2 _ _)
  · rw [hn, zi_int, if_neg (show ¬ zi n = -2 from fun u => by have := zi_pos (show n < 2147483648 by omega); rw [u] at this; exact this (by decide))]
    have hd : stNd (N c) s = N c := by
      unfold stNd
      rw [hn, if_pos (by omega)]
    have hN : upN N c (stNd (N c) s) = N := by
      funext k
      by_cases u : k = c
      · subst u
        rw [upN_self, hd]
      · rw [upN_o u]
    exact fin I eqQ.rf (by rw [hN]; exact rep) hS rfl
