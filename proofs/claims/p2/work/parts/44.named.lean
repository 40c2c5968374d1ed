/-! ===== naming the new tokens' nodes: the class ===== -/
def Qnt (m k a j : Nat) : Prop := Qnx m a j ∨ (a = 64 ∧ j = 9) ∨ (a = k + 15 ∧ j < 100)
theorem s_nameTokens {a1 a2 m e A Bh n' : Nat} {t : Nat → Int32} {l : List (Nat × Nat × Nat)} {og g : Nat → Nat} {N : Nat → Nd} {I : zI} {K : zI → Prop} (h12 : a1 ≠ a2) (ha1 : a1 + 15 < 24 ∨ 113 ≤ a1) (ha2 : a2 + 15 < 24 ∨ 113 ≤ a2) (rep : RepNX I m N) (hc : ∀ k, k < m → (ndC (N k)).length ≤ 4) (hT : RepT I (a2 + 3) t l)
    (h5 : I.1 64 5 = zi n') (h6 : I.1 64 6 = zi l.length) (h7 : I.1 64 7 = zi A) (h8 : I.1 64 8 = zi Bh) (hA : A ≤ 100) (hAn : A ≤ n') (hB : Bh ≤ l.length) (hB' : Bh ≤ n') (hn : l.length ≤ 100) (hn' : n' ≤ 100) (hog : ∀ j, j < n' → I.1 (a1 + 15) j = zi (og j)) (hm : m + l.length ≤ 3400)
    (hK : ∀ m' g' N' J, namF t l A Bh n' og e l.length 0 m g N = (m', g', N') → eqQ (Qnt m a2) I J → RepNX J m' N' → (∀ k, k < m' → (ndC (N' k)).length ≤ 4) → m ≤ m' → J.1 64 9 = zi (m' - m) → (∀ k, k < l.length → J.1 (a2 + 15) k = zi (g' k)) → K J) : w_Grower_nameTokens a1 a2 (zi e) I K := by
  intro I1 e1 P hP
  have main : ∀ d i m1 g1 N1 J, i + d = l.length → eqQ (Qnt m a2) I J → RepNX J m1 N1 → (∀ k, k < m1 → (ndC (N1 k)).length ≤ 4) → m ≤ m1 → m1 + d ≤ 3400 → J.1 64 9 = zi (m1 - m) → (∀ k, k < i → J.1 (a2 + 15) k = zi (g1 k)) → (∀ m' g' N' J', namF t l A Bh n' og e d i m1 g1 N1 = (m', g', N') → eqQ (Qnt m a2) I J' → RepNX J' m' N' → (∀ k, k < m' → (ndC (N' k)).length ≤ 4) → m ≤ m' → J'.1 64 9 = zi (m' - m) → (∀ k, k < l.length → J'.1 (a2 + 15) k = zi (g' k)) → K J') → P (zi i) J := by
    intro d
    induction d with
    | zero =>
      intro i m1 g1 N1 J hi q r c hmm hd h9 hg hk
      refine hP _ _ ?_
      have g6 : J.1 64 6 = zi l.length := by rw [q.1 64 6 (by unfold Qnt Qnx; omega)]; exact h6
      rw [g6, if_pos ((zi_le (by omega) (by omega)).mpr (by omega))]
      exact hk m1 g1 N1 J rfl q r c hmm h9 (fun k hk => hg k (by omega))
    | succ d ih =>
      intro i m1 g1 N1 J hi q r c hmm hd h9 hg hk
      refine hP _ _ ?_
      have g5 : J.1 64 5 = zi n' := by rw [q.1 64 5 (by unfold Qnt Qnx; omega)]; exact h5
      have g6 : J.1 64 6 = zi l.length := by rw [q.1 64 6 (by unfold Qnt Qnx; omega)]; exact h6
      have g7 : J.1 64 7 = zi A := by rw [q.1 64 7 (by unfold Qnt Qnx; omega)]; exact h7
      have g8 : J.1 64 8 = zi Bh := by rw [q.1 64 8 (by unfold Qnt Qnx; omega)]; exact h8
      have hT' : RepT J (a2 + 3) t l := hT.kept (fun b b1 b2 => funext fun j => q.1 b j (by unfold Qnt Qnx; omega))
      have hx : ∃ x, l[i]? = some x := ⟨l[i]'(by omega), List.getElem?_eq_getElem (by omega)⟩
      obtain ⟨x, hx⟩ := hx
      have hxd : l.getD i (10, 0, 0) = x := by rw [List.getD_eq_getElem?_getD, hx]; rfl
      rw [g6, if_neg (fun r => by have := (zi_le (by omega) (by omega)).mp r; omega)]
      refine s_oldPlace g5 g6 g7 g8 hA hB hB' hn hn' (by omega) ?_
      cases hw : wasN A Bh l.length n' i with
      | none =>
        intro P2 hP2
        rw [if_pos (show (-2 : Int32) < 0 by decide)]
        obtain ⟨x1, x2, x3, x4, x5⟩ := hT'.2 i x hx
        refine (w_get (by decide)).mpr ((w_get (by decide)).mpr ((w_get (by decide)).mpr ((w_get (by decide)).mpr ?_)))
        rw [rg_in (by decide) (show i < 100 by omega), rg_in (by decide) (show i < 100 by omega), rg_in (by decide) (show i < 100 by omega), rg_in (by decide) (show i < 100 by omega)]
        rw [show J.1 (a2 + 3 + 1 + 1) i = zi x.1 from x1, show J.1 (a2 + 3 + 5 + 1) i = zi x.2.2 from x3, show J.1 (a2 + 3 + 7 + 1) i = hdT t x.2.1 x.2.2 from x4, show J.1 (a2 + 3 + 9 + 1) i = tlT t x.2.1 x.2.2 from x5]
        rw [← hdT_bs (t := t) (x := x), ← tlT_bs (t := t) (x := x), ← tkBs_len (t := t) (x := x)]
        refine s_makeToken (N := N1) r c (by omega) (fun J2 q2 r2 => ?_)
        refine (w_set (by decide)).mpr ?_
        rw [rs_in (by decide) (show i < 100 by omega)]
        intro J4 e4
        have f2 : eqQ (Qnt m a2) I J2 := q.tr (q2.mono (fun a j h => by unfold Qnx at h; unfold Qnt Qnx; omega))
        have f3 : eqQ (Qnt m a2) I (zu J2 (a2 + 14 + 1) i (zi m1)) := f2.zu (Or.inr (Or.inr ⟨rfl, by omega⟩))
        have f4 : eqQ (Qnt m a2) I J4 := by rw [e4]; exact f3.zu (Or.inr (Or.inl ⟨rfl, rfl⟩))
        refine hP2 J4 (fun v ev => ?_)
        rw [ev, zi_succ]
        have k9 : J2.1 64 9 = zi (m1 - m) := by rw [q2.1 64 9 (by unfold Qnx; omega)]; exact h9
        have o4 : ∀ a j, a ≠ 64 → a ≠ a2 + 15 → J4.1 a j = J2.1 a j := fun a j u1 u2 => by rw [e4, zu_oo (by omega), zu_oo (by omega)]
        refine ih (i + 1) (m1 + 1) (fun k => if k = i then m1 else g1 k) (upN N1 m1 (tkNd t x e)) J4 (by omega) f4 ?_ ?_ (by omega) (by omega) ?_ ?_ ?_
        · refine ⟨by rw [o4 _ _ (by decide) (by omega)]; exact r2.1, fun k hk => ?_⟩
          refine (r2.2 k hk).kept ?_ (fun a u1 u2 => o4 a k (by omega) (by omega)) (fun j hj => o4 _ _ (by decide) (by omega))
          by_cases u : k = m1
          · subst u; rw [upN_self]; exact Nat.zero_le _
          · rw [upN_o u]; exact c k (by omega)
        · intro k hk
          by_cases u : k = m1
          · subst u; rw [upN_self]; exact Nat.zero_le _
          · rw [upN_o u]; exact c k (by omega)
        · rw [e4, zu_self, zu_oo (by omega), k9, zi_succ, show m1 - m + 1 = m1 + 1 - m by omega]
        · intro k hk
          rw [e4, zu_oo (by omega)]
          by_cases u : k = i
          · subst u
            rw [if_pos rfl]
            exact zu_self
          · rw [if_neg u, zu_at, if_neg (show ¬ (a2 + 15 = a2 + 14 + 1 ∧ k = i) from fun r => u r.2), q2.1 (a2 + 15) k (by unfold Qnx; omega)]
            exact hg k (by omega)
        · intro m' g' N' J' hf
          refine hk m' g' N' J' ?_
          rw [← hf]
          show (match wasN A Bh l.length n' i with | some j => _ | none => _) = _
          rw [hw, hxd]
      | some j =>
        intro P2 hP2
        have hj : j < n' := by
          unfold wasN at hw
          by_cases u : i < A
          · rw [if_pos u] at hw; cases hw; omega
          · rw [if_neg u] at hw
            by_cases u2 : l.length - Bh ≤ i
            · rw [if_pos u2] at hw; cases hw; omega
            · rw [if_neg u2] at hw; cases hw
        rw [if_neg (zi_pos (show j < 2147483648 by omega))]
        refine (w_get (by decide)).mpr ?_
        rw [rg_in (by decide) (show j < 100 by omega)]
        have gj : J.1 (a1 + 14 + 1) j = zi (og j) := by rw [q.1 (a1 + 14 + 1) j (by unfold Qnt Qnx; omega)]; exact hog j hj
        rw [gj]
        refine (w_set (by decide)).mpr ?_
        rw [rs_in (by decide) (show i < 100 by omega)]
        refine hP2 _ (fun v ev => ?_)
        rw [ev, zi_succ]
        have o4 : ∀ a b, a ≠ a2 + 15 → (zu J (a2 + 14 + 1) i (zi (og j))).1 a b = J.1 a b := fun a b u => by rw [zu_oo (by omega)]
        refine ih (i + 1) m1 (fun k => if k = i then og j else g1 k) N1 _ (by omega) (q.zu (Or.inr (Or.inr ⟨rfl, by omega⟩))) ?_ c hmm (by omega) ?_ ?_ ?_
        · exact ⟨by rw [o4 _ _ (by omega)]; exact r.1, fun k hk => (r.2 k hk).kept (c k hk) (fun a u1 u2 => o4 a k (by omega)) (fun b hb => o4 _ _ (by omega))⟩
        · rw [o4 _ _ (by omega)]; exact h9
        · intro k hk
          by_cases u : k = i
          · subst u
            rw [if_pos rfl]
            exact zu_self
          · rw [if_neg u, zu_at, if_neg (show ¬ (a2 + 15 = a2 + 14 + 1 ∧ k = i) from fun r => u r.2)]
            exact hg k (by omega)
        · intro m' g' N' J' hf
          refine hk m' g' N' J' ?_
          rw [← hf]
          show (match wasN A Bh l.length n' i with | some j => _ | none => _) = _
          rw [hw]
  have o1 : ∀ a b, ¬ (a = 64 ∧ b = 9) → I1.1 a b = I.1 a b := fun a b u => by rw [e1, zu_at, if_neg u]
  exact main l.length 0 m g N I1 (by omega) (by rw [e1]; exact eqQ.rf.zu (Or.inr (Or.inl ⟨rfl, rfl⟩))) ⟨by rw [o1 _ _ (by omega)]; exact rep.1, fun k hk => (rep.2 k hk).kept (hc k hk) (fun a u1 u2 => o1 a k (by omega)) (fun b hb => o1 _ _ (by omega))⟩ hc (Nat.le_refl _) hm (by rw [e1, zu_self, Nat.sub_self]; rfl) (fun k hk => absurd hk (by omega)) hK
