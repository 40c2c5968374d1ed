/-! ===== a token put on the stack: the class ===== -/
/-- a node laid on the state s: it gets it, if it had none -/
def stNd (x : Nd) (s : Nat) : Nd := if 0 ≤ ndS x then x else (x.1, x.2.1, (s : Int), x.2.2.2)
theorem stNd_C {x : Nd} {s : Nat} : ndC (stNd x s) = ndC x := by
  unfold stNd
  by_cases h : 0 ≤ ndS x
  · rw [if_pos h]
  · rw [if_neg h]
    rfl
def Qpt (c a j : Nat) : Prop := (a = 30 ∧ j = c) ∨ (a = 64 ∧ j = 4) ∨ ((a = 66 ∨ a = 68) ∧ j < 300)
theorem s_putToken {m s c : Nat} {p0 : Nat × Nat} {st : List (Nat × Nat)} {N : Nat → Nd} {I : zI} {K : Int32 → zI → Prop} (rep : RepNX I m N) (hc : ∀ k, k < m → (ndC (N k)).length ≤ 4) (hm : m ≤ 3400) (hcm : c < m) (hS : StX I st) (ok : StOk m st) (hl : st.length < 300) (htop : st[st.length - 1]? = some p0) (hs : p0.2 = s) (hk : ndM (N c) < 17) (hst : ndS (N c) = -2 ∨ ∃ n : Nat, n < 21 ∧ ndS (N c) = n)
    (hK0 : ldN s (ndM (N c)) = 0 → K 0 I)
    (hK : ∀ J, ldN s (ndM (N c)) ≠ 0 → eqQ (Qpt c) I J → RepNX J m (upN N c (stNd (N c) s)) → StX J (st ++ [(c, ldN s (ndM (N c)))]) → K 1 J) : w_Grower_putToken (zi c) I K := by
  unfold w_Grower_putToken
  obtain ⟨h0, h1, h2⟩ := id hS
  have hs21 : s < 21 := hs ▸ (ok _ p0 htop).1
  have nd := rep.2 c hcm
  rw [h1]
  refine (w_get (by decide)).mpr ?_
  rw [rg_in (by decide) (show st.length - 1 < 300 by omega), show I.1 (65 + 1) (st.length - 1) = zi s from hs ▸ (h2 _ p0 htop).1]
  refine (w_get (by decide)).mpr ?_
  rw [rg_in (by decide) (show c < 3400 by omega), show I.1 (27 + 1) c = zi (ndM (N c)) from nd.2.1]
  refine s_leadsTo hs21 hk ?_
  by_cases hz : ldN s (ndM (N c)) = 0
  · rw [hz, if_pos (show zi 0 = 0 from rfl)]
    exact hK0 hz
  have hy : ldN s (ndM (N c)) < 21 := ldN_lt hs21 hk
  rw [if_neg (show ¬ zi (ldN s (ndM (N c))) = 0 from fun u => hz ((zi_eq (by omega) (by decide)).mp u))]
  refine (w_get (by decide)).mpr ?_
  rw [rg_in (by decide) (show c < 3400 by omega), show I.1 (29 + 1) c = Int32.ofInt (ndS (N c)) from nd.2.2.1]
  intro P hP
  have fin : ∀ I5, eqQ (Qpt c) I I5 → RepNX I5 m (upN N c (stNd (N c) s)) → StX I5 st → P I5 := by
    intro I5 q r S5
    refine hP _ ?_
    refine s_put S5 hl (fun J q6 S6 => ?_)
    refine hK J hz (q.tr (q6.mono (fun a j h => by unfold Qpt; omega))) ⟨?_, fun k hk => ?_⟩ S6
    · rw [q6.1 24 9 (by omega)]
      exact r.1
    · refine (r.2 k hk).kept ?_ (fun a u1 u2 => q6.1 a k (by omega)) (fun j hj => q6.1 42 _ (by omega))
      by_cases u : k = c
      · subst u
        rw [upN_self, stNd_C]
        exact hc k hcm
      · rw [upN_o u]
        exact hc k hk
  rcases hst with hn | ⟨n, hn21, hn⟩
  · rw [hn, if_neg (show ¬ (0 : Int32) ≤ Int32.ofInt (-2) by decide)]
    refine (w_set (by decide)).mpr ?_
    rw [rs_in (by decide) (show c < 3400 by omega)]
    have o : ∀ a j, ¬ (a = 30 ∧ j = c) → (zu I (29 + 1) c (zi s)).1 a j = I.1 a j := fun a j u => by rw [zu_at, if_neg (show ¬ (a = 29 + 1 ∧ j = c) from u)]
    have hd : stNd (N c) s = ((N c).1, (N c).2.1, (s : Int), (N c).2.2.2) := by
      unfold stNd
      rw [hn, if_neg (by decide)]
    refine fin _ (eqQ.rf.zu (Or.inl ⟨rfl, rfl⟩)) ⟨by rw [o _ _ (by omega)]; exact rep.1, fun k hk => ?_⟩ ⟨h0, by rw [o _ _ (by omega)]; exact h1, fun j p hj => by rw [o _ _ (by omega), o _ _ (by omega)]; exact h2 j p hj⟩
    by_cases u : k = c
    · subst u
      rw [upN_self, hd]
      obtain ⟨n1, n2, n3, n4, n5, n6, n7⟩ := nd
      refine ⟨by rw [o _ _ (by omega)]; exact n1, by rw [o _ _ (by omega)]; exact n2, ?_, by rw [o _ _ (by omega)]; exact n4, by rw [o _ _ (by omega)]; exact n5, fun i x hi => by rw [o _ _ (by omega)]; exact n6 i x hi, fun q => ?_⟩
      · rw [zu_self]
        exact (zi_int s).symm
      · obtain ⟨w1, w2, w3⟩ := n7 q
        exact ⟨by rw [o _ _ (by omega)]; exact w1, by rw [o _ _ (by omega)]; exact w2, by rw [o _ _ (by omega)]; exact w3⟩
    · rw [upN_o u]
      exact (rep.2 k hk).kept (hc k hk) (fun a u1 u2 => o a k (by omega)) (fun j hj => o _ _ (by omega))
  · rw [hn, zi_int, if_pos (zi_ge (by omega))]
    have hd : stNd (N c) s = N c := by
      unfold stNd
      rw [hn, if_pos (by omega)]
    have hN : upN N c (stNd (N c) s) = N := by
      funext k
      by_cases u : k = c
      · subst u
        rw [upN_self, hd]
      · rw [upN_o u]
    exact fin I eqQ.rf (by rw [hN]; exact rep) hS
