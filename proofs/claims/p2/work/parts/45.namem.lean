/-! ===== naming the new tokens' nodes: the model ===== -/
def Qnu (m a j : Nat) : Prop := Qnm m a j ∨ (a = 500 ∧ j < 110)
theorem s_makesTokens {m e A Bh n' : Nat} {t : Nat → Int32} {l : List (Nat × Nat × Nat)} {og g : Nat → Nat} {N : Nat → Nd} {I : zI} {K : Int32 → zI → Prop} (rep : RepNM I m N) (hc : ∀ k, k < m → (ndC (N k)).length ≤ 4) (hT : RepU I t l) (ok : ∀ x ∈ l, tkOk t x) (he : I.1 491 36 = zi e)
    (h5 : I.1 491 19 = zi n') (h7 : I.1 491 66 = zi A) (h8 : I.1 491 67 = zi Bh) (hA : A ≤ 100) (hAn : A ≤ n') (hB : Bh ≤ l.length) (hB' : Bh ≤ n') (hn : l.length ≤ 100) (hn' : n' ≤ 100) (hog : ∀ j, j < n' → I.1 508 j = zi (og j)) (hm : m + l.length ≤ 3700)
    (hK : ∀ m' g' N' J, namF t l A Bh n' og e l.length 0 m g N = (m', g', N') → eqQ (Qnu m) I J → RepNM J m' N' → (∀ k, k < m' → (ndC (N' k)).length ≤ 4) → m ≤ m' → (∀ k, k < l.length → J.1 500 k = zi (g' k)) → K (zi (m' - m)) J) : w_M_makesTokens I K := by
  intro P hP
  have main : ∀ d i m1 g1 N1 J, i + d = l.length → eqQ (Qnu m) I J → RepNM J m1 N1 → (∀ k, k < m1 → (ndC (N1 k)).length ≤ 4) → m ≤ m1 → m1 + d ≤ 3700 → (∀ k, k < i → J.1 500 k = zi (g1 k)) → (∀ m' g' N' J', namF t l A Bh n' og e d i m1 g1 N1 = (m', g', N') → eqQ (Qnu m) I J' → RepNM J' m' N' → (∀ k, k < m' → (ndC (N' k)).length ≤ 4) → m ≤ m' → (∀ k, k < l.length → J'.1 500 k = zi (g' k)) → K (zi (m' - m)) J') → P (zi (m1 - m)) (zi i) J := by
    intro d
    induction d with
    | zero =>
      intro i m1 g1 N1 J hi q r c hmm hd hg hk
      refine hP _ _ _ ?_
      have g6 : J.1 491 9 = zi l.length := by rw [q.1 491 9 (by unfold Qnu Qnm; omega)]; exact hT.1
      rw [g6, if_pos ((zi_le (by omega) (by omega)).mpr (by omega))]
      exact hk m1 g1 N1 J rfl q r c hmm (fun k hk => hg k (by omega))
    | succ d ih =>
      intro i m1 g1 N1 J hi q r c hmm hd hg hk
      refine hP _ _ _ ?_
      have g5 : J.1 491 19 = zi n' := by rw [q.1 _ _ (by unfold Qnu Qnm; omega)]; exact h5
      have g6 : J.1 491 9 = zi l.length := by rw [q.1 _ _ (by unfold Qnu Qnm; omega)]; exact hT.1
      have g7 : J.1 491 66 = zi A := by rw [q.1 _ _ (by unfold Qnu Qnm; omega)]; exact h7
      have g8 : J.1 491 67 = zi Bh := by rw [q.1 _ _ (by unfold Qnu Qnm; omega)]; exact h8
      have hx : ∃ x, l[i]? = some x := ⟨l[i]'(by omega), List.getElem?_eq_getElem (by omega)⟩
      obtain ⟨x, hx⟩ := hx
      have hxd : l.getD i (10, 0, 0) = x := by rw [List.getD_eq_getElem?_getD, hx]; rfl
      have okx : tkOk t x := ok x (List.mem_of_getElem? hx)
      rw [g6, if_neg (fun r => by have := (zi_le (by omega) (by omega)).mp r; omega)]
      refine s_wasOf g6 g5 g7 g8 hA hB hB' hn hn' (by omega) ?_
      cases hw : wasN A Bh l.length n' i with
      | none =>
        intro P2 hP2
        rw [if_pos (show (-1 : Int32) < 0 by decide)]
        obtain ⟨x1, x2, x3, x4⟩ := hT.2 i x hx
        have e36 : J.1 491 36 = zi e := by rw [q.1 _ _ (by unfold Qnu Qnm; omega)]; exact he
        refine s_newNode (N := N1) (r := -2) (tk := 1) r c (by omega) e36 (fun J2 q2 m2 r2 n1 n2 n3 n4 n5 => ?_)
        refine ⟨(zin_iff (by omega)).mpr (by omega), (zin_iff (by omega)).mpr (by omega), fun J3 e3 => ⟨(zin_iff (by omega)).mpr (by omega), (zin_iff (by omega)).mpr (by omega), fun J4 e4 => ⟨(zin_iff (by omega)).mpr (by omega), fun J5 e5 v1 ev1 => ?_⟩⟩⟩
        rw [zi_tn (show i < 2147483648 by omega), zi_tn (show m1 < 2147483648 by omega)] at e3 e4
        rw [zi_tn (show i < 2147483648 by omega)] at e5
        have f2 : eqQ (Qnu m) I J2 := q.tr (q2.mono (fun a j h => by unfold Qnm at h; unfold Qnu Qnm; omega))
        have f3 : eqQ (Qnu m) I J3 := by rw [e3]; exact f2.zu (Or.inl (Or.inr (Or.inl (by omega))))
        have f4 : eqQ (Qnu m) I J4 := by rw [e4]; exact f3.zul (Or.inl (Or.inr (Or.inl (by omega))))
        have f5 : eqQ (Qnu m) I J5 := by rw [e5]; exact f4.zu (Or.inr ⟨rfl, by omega⟩)
        have kd : J2.1 496 i = zi x.1 := by rw [f2.1 496 i (by unfold Qnu Qnm; omega)]; exact x1
        have ks : J3.2 499 i = isV t x := by rw [f3.2 499 i (by unfold Qnu Qnm; omega)]; exact x4
        rw [kd] at e3
        rw [ks] at e4
        refine hP2 v1 J5 (fun v ev => ?_)
        rw [ev, zi_succ, ev1, zi_succ, show m1 - m + 1 = m1 + 1 - m by omega]
        have o5 : ∀ a j, a ≠ 510 → a ≠ 500 → J5.1 a j = J2.1 a j := fun a j u1 u2 => by rw [e5, zu_oo (by omega), e4, zul_1, e3, zu_oo (by omega)]
        have o5k : ∀ k, k < m1 → J5.1 510 k = J2.1 510 k := fun k hk => by rw [e5, zu_oo (by omega), e4, zul_1, e3, zu_at, if_neg (show ¬ (510 = 510 ∧ k = m1) by omega)]
        have o52 : ∀ k, k < m1 → J5.2 511 k = J2.2 511 k := fun k hk => by rw [e5]; show J4.2 511 k = _; rw [e4, zul_at, if_neg (show ¬ (511 = 511 ∧ k = m1) by omega), e3]; rfl
        refine ih (i + 1) (m1 + 1) (fun k => if k = i then m1 else g1 k) (upN N1 m1 (tkNd t x e)) J5 (by omega) f5 ⟨?_, fun k hk => ?_⟩ ?_ (by omega) (by omega) ?_ ?_
        · rw [o5 _ _ (by decide) (by decide)]; exact m2
        · by_cases u : k = m1
          · subst u
            rw [upN_self]
            refine ⟨?_, ?_, ?_, ?_, ?_, (fun j y hj => by cases hj), fun _ => ⟨?_, ?_⟩⟩
            · rw [o5 _ _ (by decide) (by decide)]; exact n1
            · rw [o5 _ _ (by decide) (by decide)]; exact n2
            · rw [o5 _ _ (by decide) (by decide)]; exact n3
            · rw [o5 _ _ (by decide) (by decide)]; exact n4
            · rw [o5 _ _ (by decide) (by decide)]; exact n5
            · rw [e5, zu_oo (by omega), e4, zul_1, e3, zu_self]
              rfl
            · rw [e5]
              show J4.2 511 k = _
              rw [e4, zul_at, if_pos ⟨rfl, rfl⟩]
              exact (isV_bs okx).symm
          · rw [upN_o u]
            refine (r2 k (by omega)).kept (c k (by omega)) (fun a u1 u2 u3 => ?_) (fun j hj => o5 _ _ (by decide) (by decide)) (o52 k (by omega))
            by_cases u4 : a = 510
            · rw [u4]; exact o5k k (by omega)
            · exact o5 a k u4 (by omega)
        · intro k hk
          by_cases u : k = m1
          · subst u; rw [upN_self]; exact Nat.zero_le _
          · rw [upN_o u]; exact c k (by omega)
        · intro k hk
          rw [e5]
          by_cases u : k = i
          · subst u
            rw [if_pos rfl]
            exact zu_self
          · rw [if_neg u, zu_at, if_neg (show ¬ (500 = 500 ∧ k = i) from fun r => u r.2), e4, zul_1, e3, zu_oo (by omega), q2.1 500 k (by unfold Qnm; omega)]
            exact hg k (by omega)
        · intro m' g' N' J' hf
          refine hk m' g' N' J' ?_
          rw [← hf]
          show (match wasN A Bh l.length n' i with | some j => _ | none => _) = _
          rw [hw, hxd]
      | some j =>
        intro P2 hP2
        have hj : j < n' := by
          unfold wasN at hw
          by_cases u : i < A
          · rw [if_pos u] at hw; cases hw; omega
          · rw [if_neg u] at hw
            by_cases u2 : l.length - Bh ≤ i
            · rw [if_pos u2] at hw; cases hw; omega
            · rw [if_neg u2] at hw; cases hw
        rw [if_neg (zi_pos (show j < 2147483648 by omega))]
        refine ⟨(zin_iff (by omega)).mpr (by omega), (zin_iff (by omega)).mpr (by omega), fun J3 e3 => ?_⟩
        rw [zi_tn (show i < 2147483648 by omega), zi_tn (show j < 2147483648 by omega)] at e3
        have gj : J.1 508 j = zi (og j) := by rw [q.1 508 j (by unfold Qnu Qnm; omega)]; exact hog j hj
        rw [gj] at e3
        refine hP2 _ J3 (fun v ev => ?_)
        rw [ev, zi_succ]
        have o4 : ∀ a b, a ≠ 500 → J3.1 a b = J.1 a b := fun a b u => by rw [e3, zu_oo (by omega)]
        have o42 : ∀ a b, J3.2 a b = J.2 a b := fun a b => by rw [e3]; rfl
        refine ih (i + 1) m1 (fun k => if k = i then og j else g1 k) N1 _ (by omega) (by rw [e3]; exact q.zu (Or.inr ⟨rfl, by omega⟩)) ?_ c hmm (by omega) ?_ ?_
        · exact ⟨by rw [o4 _ _ (by omega)]; exact r.1, fun k hk => (r.2 k hk).kept (c k hk) (fun a u1 u2 u3 => o4 a k (by omega)) (fun b hb => o4 _ _ (by omega)) (o42 _ _)⟩
        · intro k hk
          rw [e3]
          by_cases u : k = i
          · subst u
            rw [if_pos rfl]
            exact zu_self
          · rw [if_neg u, zu_at, if_neg (show ¬ (500 = 500 ∧ k = i) from fun r => u r.2)]
            exact hg k (by omega)
        · intro m' g' N' J' hf
          refine hk m' g' N' J' ?_
          rw [← hf]
          show (match wasN A Bh l.length n' i with | some j => _ | none => _) = _
          rw [hw]
  have h0 := main l.length 0 m g N I (by omega) eqQ.rf rep hc (Nat.le_refl _) hm (fun k hk => absurd hk (by omega)) hK
  rw [Nat.sub_self] at h0
  exact h0
