/-! ===== KINDS of tokens, the first that can not stand there, a RULE's symbols ===== -/
def TkB (S : List zC) (J : zI) (k : Nat) (ks : List Nat) : Prop := ∀ j, j < ks.length → ∃ r, r ≠ k ∧ 491 ≤ r ∧ r < S.length ∧ J.1 k j = zi (r + 1) ∧ zAt S r 3 ∧ J.1 r 0 = zi (ks.getD j 0)
def TkR (S : List zC) (J : zI) (k : Nat) (ks : List Nat) : Prop := zA2 S k ks.length ∧ TkB S J k ks
theorem TkB.kp {S S2 : List zC} {I J : zI} {k : Nat} {ks : List Nat} (h : TkB S I k ks) (hk : k < S.length) (e : ∃ T, S2 = S ++ T) (q : ∀ a, a < S.length → J.1 a = I.1 a) : TkB S2 J k ks := fun j hj => by
  obtain ⟨r, h1, h0, h2, h3, h4, h5⟩ := h j hj
  have hl : S.length ≤ S2.length := by
    obtain ⟨T, rfl⟩ := e
    rw [List.length_append]
    omega
  exact ⟨r, h1, h0, by omega, by rw [q k hk]; exact h3, zAt_up h4 e, by rw [q r h2]; exact h5⟩
theorem TkB.cl {S : List zC} {I J : zI} {k : Nat} {ks : List Nat} (h : TkB S I k ks) (hk : 491 ≤ k) (q : eqQ Qcl I J) : TkB S J k ks := fun j hj => by
  obtain ⟨r, h1, h0, h2, h3, h4, h5⟩ := h j hj
  exact ⟨r, h1, h0, h2, by rw [q.1 k j (fun u => by unfold Qcl at u; omega)]; exact h3, h4, by rw [q.1 r 0 (fun u => by unfold Qcl at u; omega)]; exact h5⟩
theorem gd_map {ks : List Nat} {j : Nat} (h : j < ks.length) : (ks.map zi).getD j 0 = zi (ks.getD j 0) := by
  rw [List.getD_eq_getElem?_getD, List.getElem?_map, List.getD_eq_getElem?_getD, List.getElem?_eq_getElem h]
  rfl
theorem s_kinds {S : List zC} {I : zI} {a : Nat} {ks : List Nat} {K : Nat → Nat → List zC → zI → Prop} (hT : TkR S I a ks) (hS : S.length ≤ 900000) (hl : ks.length ≤ 400) (hz : zZ I S.length) (hK : ∀ S2 J, Nw S I S2 J 1 → AtL S2 J S.length (ks.map zi) → K S.length ks.length S2 J) : w_Law_kinds a ks.length S I K := by
  have hln : (ks.map zi).length = ks.length := List.length_map ..
  have ha : a < S.length := (List.getElem?_eq_some_iff.mp hT.1).1
  refine ⟨hT.1, ?_, ?_⟩
  · rw [zi_tn (by omega)]
    exact ⟨hz, zi_ge (by omega), by omega, by omega, by omega⟩
  intro S1 k n eS eK eN
  rw [zi_tn (by omega), ← hln] at eN
  subst eN
  subst eS
  subst eK
  have up : ∃ T, S ++ [(.inr (.inl (0, (ks.map zi).length)) : zC)] = S ++ T := ⟨_, rfl⟩
  intro P hP
  refine s_up (n := (ks.map zi).length) (P := P) (Bd I S.length (ks.map zi)) (fun i J hi hJ kk => ?_) (fun J hJ => ?_) _ 0 rfl I Bd.start
  · refine hP _ _ ⟨zAt_new, ?_⟩
    rw [if_neg (show ¬ zi (ks.map zi).length ≤ zi i from nle_zi hi (by omega))]
    obtain ⟨r, h1, -, h2, h3, h4, h5⟩ := hT.2 i (by omega)
    have hc : J.1 a (zi i).toNatClampNeg = zi (r + 1) := by rw [zi_tn (by omega), hJ.o (show a ≠ S.length by omega)]; exact h3
    refine ⟨⟨zA2_up hT.1 up, (zin_iff (by omega)).mpr (by omega), by rw [hc]; exact zi_ne (b := 0) (by omega) (by decide) (by omega)⟩, fun r' er => ?_⟩
    rw [hc, zi_tn (by omega), Nat.add_sub_cancel] at er
    subst er
    refine ⟨⟨zAt_up h4 up, (zin_iff (i := 0) (by decide)).mpr (by decide)⟩, ⟨zAt_new, (zin_iff (by omega)).mpr hi⟩, fun I8 e8 v2 e2 => ?_⟩
    subst e8
    subst e2
    rw [zi_succ, zi_tn (by omega)]
    refine kk _ (hJ.next ?_)
    rw [hJ.o (show r' ≠ S.length by omega), gd_map (by omega)]
    exact h5
  · refine hP _ _ ⟨zAt_new, ?_⟩
    rw [if_pos (show zi (ks.map zi).length ≤ zi (ks.map zi).length from (zi_le (by omega) (by omega)).mpr (Nat.le_refl _))]
    obtain ⟨n1, n2⟩ := hJ.nw hz
    have h := hK _ _ n1 n2
    rw [← hln] at h
    exact h
theorem dr_cs {ks : List Nat} {i y : Nat} {l : List Nat} (h : ks.drop i = y :: l) : i < ks.length ∧ ks.getD i 0 = y ∧ ks.drop (i + 1) = l := by
  have h1 : i < ks.length := by
    rcases Nat.lt_or_ge i ks.length with u | u
    · exact u
    · rw [List.drop_of_length_le u] at h
      cases h
  have h2 : (ks.drop i)[0]? = some y := by rw [h]; rfl
  rw [List.getElem?_drop, Nat.add_zero] at h2
  refine ⟨h1, by rw [List.getD_eq_getElem?_getD, h2]; rfl, ?_⟩
  have h3 : (ks.drop i).drop 1 = l := by rw [h]; rfl
  rw [List.drop_drop] at h3
  exact h3
theorem s_wrong {S : List zC} {I : zI} {a : Nat} {ks : List Nat} {K : Int32 → Prop} (hA : AtL S I a (ks.map zi)) (hk : ∀ y ∈ ks, y < 12) (hl : ks.length ≤ 1000) (h : K (wrG ks (0, 0, 0) 0)) : w_Law_wrong a ks.length S I K := by
  intro P hP
  have hln : (ks.map zi).length = ks.length := List.length_map ..
  have hat : zAt S a ks.length := hln ▸ hA.1
  have key : ∀ (l : List Nat) (i p b o : Nat), ks.drop i = l → i ≤ ks.length → p ≤ 3 → b ≤ i → o ≤ i → K (wrG l (p, b, o) i) → P (zi p) (zi b) (zi o) (zi i) := by
    intro l
    induction l with
    | nil =>
      intro i p b o hd hi h1 h2 h3 hK
      have hi2 : ks.length ≤ i := by
        have := congrArg List.length hd
        rw [List.length_drop] at this
        have e : ([] : List Nat).length = 0 := rfl
        omega
      have e : i = ks.length := by omega
      subst e
      refine hP _ _ _ _ ⟨hat, ?_⟩
      rw [if_pos (show zi ks.length ≤ zi ks.length from (zi_le (by omega) (by omega)).mpr (Nat.le_refl _))]
      exact ⟨hat, hK⟩
    | cons y l ih =>
      intro i p b o hd hi h1 h2 h3 hK
      obtain ⟨hi2, hy, hd2⟩ := dr_cs hd
      have y12 : y < 12 := hk y (by
        have : y ∈ ks.drop i := by rw [hd]; exact List.mem_cons_self ..
        exact List.mem_of_mem_drop this)
      refine hP _ _ _ _ ⟨hat, ?_⟩
      rw [if_neg (show ¬ zi ks.length ≤ zi i from nle_zi hi2 (by omega))]
      refine ⟨⟨hat, (zin_iff (by omega)).mpr hi2⟩, fun v5 e5 => ?_⟩
      rw [zi_tn (by omega), hA.2 i (by omega), gd_map hi2, hy] at e5
      subst e5
      intro P187 h187
      have nx : ∀ p' b' o' : Nat, auN (p, b, o) y = some (p', b', o') → p' ≤ 3 → b' ≤ i + 1 → o' ≤ i + 1 → P187 (zi p') (zi b') (zi o') := fun p' b' o' e a1 a2 a3 => h187 _ _ _ (fun v4 e4 => by
        subst e4
        rw [zi_succ]
        refine ih (i + 1) p' b' o' hd2 (by omega) a1 a2 a3 ?_
        have hK2 := hK
        rw [wrG, e] at hK2
        exact hK2)
      have no : auN (p, b, o) y = none → ¬ (p = 0 ∧ y = 10 ∧ b = 0) → K (zi i) := fun e u => by
        have hK2 := hK
        rw [wrG, e] at hK2
        dsimp only at hK2
        rw [if_neg u] at hK2
        exact hK2
      have nb : p = 0 → y = 10 → b = 0 → K (-1) := fun e1 e2 e3 => by
        have hK2 := hK
        rw [wrG, show auN (p, b, o) y = none by rw [e2]; exact auN_10] at hK2
        dsimp only at hK2
        rw [if_pos ⟨e1, e2, e3⟩] at hK2
        exact hK2
      have zy : ∀ c : Nat, c < 12 → (zi y = zi c ↔ y = c) := fun c hc => zi_eq (by omega) (by omega)
      rcases (by omega : p = 0 ∨ p = 1 ∨ p = 2 ∨ p = 3) with rfl | rfl | rfl | rfl
      · rw [if_pos (show zi 0 = 0 from rfl)]
        by_cases y0 : y = 0
        · rw [if_pos (show zi y = 0 from (zy 0 (by decide)).mpr y0)]
          exact nx 1 b o (by simp [auN, y0]) (by decide) (by omega) (by omega)
        rw [if_neg (show ¬ zi y = 0 from fun q => y0 ((zy 0 (by decide)).mp q))]
        by_cases y8 : y = 8
        · rw [if_pos (show zi y = 8 from (zy 8 (by decide)).mpr y8)]
          intro v2 e2
          subst e2
          rw [zi_succ]
          exact nx 0 (b + 1) o (by simp [auN, y8]) (by decide) (by omega) (by omega)
        rw [if_neg (show ¬ zi y = 8 from fun q => y8 ((zy 8 (by decide)).mp q))]
        intro P66 h66
        have h66' : ¬ (y = 9 ∧ 0 < b) → P66 := fun u => h66 (by
          by_cases y10 : y = 10
          · rw [if_pos (show zi y = 10 from (zy 10 (by decide)).mpr y10)]
            by_cases b0 : b = 0
            · rw [if_pos (show zi b = 0 by rw [b0]; rfl)]
              exact nb rfl y10 b0
            · rw [if_neg (show ¬ zi b = 0 from zi_ne (b := 0) (by omega) (by decide) b0)]
              exact no (by rw [y10]; exact auN_10) (fun q => b0 q.2.2)
          · rw [if_neg (show ¬ zi y = 10 from fun q => y10 ((zy 10 (by decide)).mp q))]
            exact no (by simp [auN, y0, y8, u]) (fun q => y10 q.2.1))
        by_cases y9 : y = 9
        · rw [if_pos (show zi y = 9 from (zy 9 (by decide)).mpr y9)]
          by_cases b0 : b = 0
          · rw [if_pos (show zi b ≤ 0 from (zi_le (b := 0) (by omega) (by decide)).mpr (by omega))]
            exact h66' (fun q => by omega)
          · rw [if_neg (show ¬ zi b ≤ 0 from fun q => by have := (zi_le (b := 0) (by omega) (by decide)).mp q; omega)]
            intro v2 e2
            subst e2
            rw [zi_pred (by omega)]
            exact nx 0 (b - 1) o (by simp [auN, y9, Nat.pos_of_ne_zero b0]) (by decide) (by omega) (by omega)
        · rw [if_neg (show ¬ zi y = 9 from fun q => y9 ((zy 9 (by decide)).mp q))]
          exact h66' (fun q => y9 q.1)
      · rw [if_neg (show ¬ zi 1 = 0 by decide), if_pos (show zi 1 = 1 from rfl)]
        by_cases y2 : y = 2
        · rw [if_pos (show zi y = 2 from (zy 2 (by decide)).mpr y2)]
          exact nx 2 b o (by simp [auN, y2]) (by decide) (by omega) (by omega)
        · rw [if_neg (show ¬ zi y = 2 from fun q => y2 ((zy 2 (by decide)).mp q))]
          exact no (by simp [auN, y2]) (fun q => absurd q.1 (by decide))
      · rw [if_neg (show ¬ zi 2 = 0 by decide), if_neg (show ¬ zi 2 = 1 by decide), if_pos (show zi 2 = 2 from rfl)]
        by_cases y6 : y = 6
        · rw [if_pos (show zi y = 6 from (zy 6 (by decide)).mpr y6)]
          intro v3 e3
          subst e3
          rw [zi_succ]
          exact nx 2 b (o + 1) (by simp [auN, y6]) (by decide) (by omega) (by omega)
        rw [if_neg (show ¬ zi y = 6 from fun q => y6 ((zy 6 (by decide)).mp q))]
        by_cases y2 : y < 2
        · rw [if_neg (show ¬ (2 : Int32) ≤ zi y from fun q => by have := (zi_le (a := 2) (by decide) (by omega)).mp q; omega)]
          exact nx 3 b o (by simp [auN, y6, y2]) (by decide) (by omega) (by omega)
        · rw [if_pos (show (2 : Int32) ≤ zi y from (zi_le (a := 2) (by decide) (by omega)).mpr (by omega))]
          exact no (by simp [auN, y6, y2]) (fun q => absurd q.1 (by decide))
      · rw [if_neg (show ¬ zi 3 = 0 by decide), if_neg (show ¬ zi 3 = 1 by decide), if_neg (show ¬ zi 3 = 2 by decide)]
        intro P147 h147
        by_cases y4 : y = 4
        · rw [if_pos (show zi y = 4 from (zy 4 (by decide)).mpr y4)]
          exact h147 (nx 2 b o (by simp [auN, y4]) (by decide) (by omega) (by omega))
        rw [if_neg (show ¬ zi y = 4 from fun q => y4 ((zy 4 (by decide)).mp q))]
        by_cases y5 : y = 5
        · rw [if_pos (show zi y = 5 from (zy 5 (by decide)).mpr y5)]
          exact h147 (nx 2 b o (by simp [auN, y5]) (by decide) (by omega) (by omega))
        rw [if_neg (show ¬ zi y = 5 from fun q => y5 ((zy 5 (by decide)).mp q))]
        intro P169 h169
        have h169' : ¬ (y = 7 ∧ 0 < o) → P169 := fun u => h169 (by
          by_cases y3 : y = 3
          · rw [if_pos (show zi y = 3 from (zy 3 (by decide)).mpr y3)]
            by_cases o0 : o = 0
            · rw [if_pos (show zi o = 0 by rw [o0]; rfl)]
              have := nx 0 b 0 (by simp [auN, y3, o0]) (by decide) (by omega) (by omega)
              rw [o0]
              exact this
            · rw [if_neg (show ¬ zi o = 0 from zi_ne (b := 0) (by omega) (by decide) o0)]
              exact no (by simp [auN, y3, o0]) (fun q => absurd q.1 (by decide))
          · rw [if_neg (show ¬ zi y = 3 from fun q => y3 ((zy 3 (by decide)).mp q))]
            exact no (by simp [auN, y3, y4, y5, u]) (fun q => absurd q.1 (by decide)))
        by_cases y7 : y = 7
        · rw [if_pos (show zi y = 7 from (zy 7 (by decide)).mpr y7)]
          by_cases o0 : o = 0
          · rw [if_pos (show zi o ≤ 0 from (zi_le (b := 0) (by omega) (by decide)).mpr (by omega))]
            exact h169' (fun q => by omega)
          · rw [if_neg (show ¬ zi o ≤ 0 from fun q => by have := (zi_le (b := 0) (by omega) (by decide)).mp q; omega)]
            intro v3 e3
            subst e3
            rw [zi_pred (by omega)]
            exact nx 3 b (o - 1) (by simp [auN, y7, Nat.pos_of_ne_zero o0]) (by decide) (by omega) (by omega)
        · rw [if_neg (show ¬ zi y = 7 from fun q => y7 ((zy 7 (by decide)).mp q))]
          exact h169' (fun q => y7 q.1)
  exact key ks 0 0 0 0 rfl (Nat.zero_le _) (by decide) (Nat.le_refl _) (Nat.le_refl _) h
theorem s_symbols {S : List zC} {I : zI} {r : Nat} {K : Nat → Nat → List zC → zI → Prop} (hr : r < 11) (hz : zZ I S.length) (hK : ∀ S2 J, Nw S I S2 J 1 → AtL S2 J S.length ((rhS r).map zi) → K S.length (rhS r).length S2 J) : w_Law_symbols (zi r) S I K := by
  unfold w_Law_symbols
  have cz : ∀ n : Nat, n ≤ 4 → zZ I S.length ∧ (0 : Int32) ≤ zi n ∧ Int32.toNatClampNeg (zi n) ≤ 100000 ∧ 0 + 1 ≤ 1 ∧ 0 + Int32.toNatClampNeg (zi n) ≤ 4 := fun n hn => by
    rw [zi_tn (by omega)]
    exact ⟨hz, zi_ge (by omega), by omega, by omega, by omega⟩
  have tn : ∀ n : Nat, n ≤ 4 → Int32.toNatClampNeg (zi n) = n := fun n hn => zi_tn (by omega)
  have zin : ∀ i n : Nat, i < 4 → i < n → vp_in (zi i) n := fun i n hi h => (zin_iff (by omega)).mpr h
  rcases (by omega : r = 0 ∨ r = 1 ∨ r = 2 ∨ r = 3 ∨ r = 4 ∨ r = 5 ∨ r = 6 ∨ r = 7 ∨ r = 8 ∨ r = 9 ∨ r = 10) with rfl | rfl | rfl | rfl | rfl | rfl | rfl | rfl | rfl | rfl | rfl
  · rw [if_pos (show zi 0 = 0 from rfl)]
    refine ⟨cz 0 (by decide), fun S2 k n eS eK eN => ?_⟩
    have eN2 : n = ((rhS 0).map zi).length := eN.trans (tn 0 (by decide))
    subst eN2
    subst eS
    subst eK
    obtain ⟨n1, n2⟩ := Bd.nw (l := (rhS 0).map zi) (Bd.start : Bd I S.length ((rhS 0).map zi) 0 I) hz
    exact hK _ _ n1 n2
  · rw [if_neg (show ¬ zi 1 = 0 by decide), if_pos (show zi 1 = 1 from rfl)]
    refine ⟨cz 2 (by decide), fun S2 k n eS eK eN => ?_⟩
    have eN2 : n = ((rhS 1).map zi).length := eN.trans (tn 2 (by decide))
    subst eN2
    subst eS
    subst eK
    refine ⟨⟨zAt_new, zin 0 2 (by decide) (by decide)⟩, fun I0 e0 => ?_⟩
    subst e0
    refine ⟨⟨zAt_new, zin 1 2 (by decide) (by decide)⟩, fun I1 e1 => ?_⟩
    subst e1
    obtain ⟨n1, n2⟩ := Bd.nw (l := (rhS 1).map zi) (((Bd.start : Bd I S.length ((rhS 1).map zi) 0 I).next rfl).next rfl) hz
    exact hK _ _ n1 n2
  · rw [if_neg (show ¬ zi 2 = 0 by decide), if_neg (show ¬ zi 2 = 1 by decide), if_pos (show zi 2 = 2 from rfl)]
    refine ⟨cz 4 (by decide), fun S2 k n eS eK eN => ?_⟩
    have eN2 : n = ((rhS 2).map zi).length := eN.trans (tn 4 (by decide))
    subst eN2
    subst eS
    subst eK
    refine ⟨⟨zAt_new, zin 0 4 (by decide) (by decide)⟩, fun I0 e0 => ?_⟩
    subst e0
    refine ⟨⟨zAt_new, zin 1 4 (by decide) (by decide)⟩, fun I1 e1 => ?_⟩
    subst e1
    refine ⟨⟨zAt_new, zin 2 4 (by decide) (by decide)⟩, fun I2 e2 => ?_⟩
    subst e2
    refine ⟨⟨zAt_new, zin 3 4 (by decide) (by decide)⟩, fun I3 e3 => ?_⟩
    subst e3
    obtain ⟨n1, n2⟩ := Bd.nw (l := (rhS 2).map zi) (((((Bd.start : Bd I S.length ((rhS 2).map zi) 0 I).next rfl).next rfl).next rfl).next rfl) hz
    exact hK _ _ n1 n2
  · rw [if_neg (show ¬ zi 3 = 0 by decide), if_neg (show ¬ zi 3 = 1 by decide), if_neg (show ¬ zi 3 = 2 by decide), if_pos (show zi 3 = 3 from rfl)]
    refine ⟨cz 3 (by decide), fun S2 k n eS eK eN => ?_⟩
    have eN2 : n = ((rhS 3).map zi).length := eN.trans (tn 3 (by decide))
    subst eN2
    subst eS
    subst eK
    refine ⟨⟨zAt_new, zin 0 3 (by decide) (by decide)⟩, fun I0 e0 => ?_⟩
    subst e0
    refine ⟨⟨zAt_new, zin 1 3 (by decide) (by decide)⟩, fun I1 e1 => ?_⟩
    subst e1
    refine ⟨⟨zAt_new, zin 2 3 (by decide) (by decide)⟩, fun I2 e2 => ?_⟩
    subst e2
    obtain ⟨n1, n2⟩ := Bd.nw (l := (rhS 3).map zi) ((((Bd.start : Bd I S.length ((rhS 3).map zi) 0 I).next rfl).next rfl).next rfl) hz
    exact hK _ _ n1 n2
  · rw [if_neg (show ¬ zi 4 = 0 by decide), if_neg (show ¬ zi 4 = 1 by decide), if_neg (show ¬ zi 4 = 2 by decide), if_neg (show ¬ zi 4 = 3 by decide), if_pos (show zi 4 = 4 from rfl)]
    refine ⟨cz 3 (by decide), fun S2 k n eS eK eN => ?_⟩
    have eN2 : n = ((rhS 4).map zi).length := eN.trans (tn 3 (by decide))
    subst eN2
    subst eS
    subst eK
    refine ⟨⟨zAt_new, zin 0 3 (by decide) (by decide)⟩, fun I0 e0 => ?_⟩
    subst e0
    refine ⟨⟨zAt_new, zin 1 3 (by decide) (by decide)⟩, fun I1 e1 => ?_⟩
    subst e1
    refine ⟨⟨zAt_new, zin 2 3 (by decide) (by decide)⟩, fun I2 e2 => ?_⟩
    subst e2
    obtain ⟨n1, n2⟩ := Bd.nw (l := (rhS 4).map zi) ((((Bd.start : Bd I S.length ((rhS 4).map zi) 0 I).next rfl).next rfl).next rfl) hz
    exact hK _ _ n1 n2
  · rw [if_neg (show ¬ zi 5 = 0 by decide), if_neg (show ¬ zi 5 = 1 by decide), if_neg (show ¬ zi 5 = 2 by decide), if_neg (show ¬ zi 5 = 3 by decide), if_neg (show ¬ zi 5 = 4 by decide), if_pos (show zi 5 = 5 from rfl)]
    refine ⟨cz 1 (by decide), fun S2 k n eS eK eN => ?_⟩
    have eN2 : n = ((rhS 5).map zi).length := eN.trans (tn 1 (by decide))
    subst eN2
    subst eS
    subst eK
    refine ⟨⟨zAt_new, zin 0 1 (by decide) (by decide)⟩, fun I0 e0 => ?_⟩
    subst e0
    obtain ⟨n1, n2⟩ := Bd.nw (l := (rhS 5).map zi) ((Bd.start : Bd I S.length ((rhS 5).map zi) 0 I).next rfl) hz
    exact hK _ _ n1 n2
  · rw [if_neg (show ¬ zi 6 = 0 by decide), if_neg (show ¬ zi 6 = 1 by decide), if_neg (show ¬ zi 6 = 2 by decide), if_neg (show ¬ zi 6 = 3 by decide), if_neg (show ¬ zi 6 = 4 by decide), if_neg (show ¬ zi 6 = 5 by decide), if_pos (show zi 6 = 6 from rfl)]
    refine ⟨cz 3 (by decide), fun S2 k n eS eK eN => ?_⟩
    have eN2 : n = ((rhS 6).map zi).length := eN.trans (tn 3 (by decide))
    subst eN2
    subst eS
    subst eK
    refine ⟨⟨zAt_new, zin 0 3 (by decide) (by decide)⟩, fun I0 e0 => ?_⟩
    subst e0
    refine ⟨⟨zAt_new, zin 1 3 (by decide) (by decide)⟩, fun I1 e1 => ?_⟩
    subst e1
    refine ⟨⟨zAt_new, zin 2 3 (by decide) (by decide)⟩, fun I2 e2 => ?_⟩
    subst e2
    obtain ⟨n1, n2⟩ := Bd.nw (l := (rhS 6).map zi) ((((Bd.start : Bd I S.length ((rhS 6).map zi) 0 I).next rfl).next rfl).next rfl) hz
    exact hK _ _ n1 n2
  · rw [if_neg (show ¬ zi 7 = 0 by decide), if_neg (show ¬ zi 7 = 1 by decide), if_neg (show ¬ zi 7 = 2 by decide), if_neg (show ¬ zi 7 = 3 by decide), if_neg (show ¬ zi 7 = 4 by decide), if_neg (show ¬ zi 7 = 5 by decide), if_neg (show ¬ zi 7 = 6 by decide), if_pos (show zi 7 = 7 from rfl)]
    refine ⟨cz 1 (by decide), fun S2 k n eS eK eN => ?_⟩
    have eN2 : n = ((rhS 7).map zi).length := eN.trans (tn 1 (by decide))
    subst eN2
    subst eS
    subst eK
    refine ⟨⟨zAt_new, zin 0 1 (by decide) (by decide)⟩, fun I0 e0 => ?_⟩
    subst e0
    obtain ⟨n1, n2⟩ := Bd.nw (l := (rhS 7).map zi) ((Bd.start : Bd I S.length ((rhS 7).map zi) 0 I).next rfl) hz
    exact hK _ _ n1 n2
  · rw [if_neg (show ¬ zi 8 = 0 by decide), if_neg (show ¬ zi 8 = 1 by decide), if_neg (show ¬ zi 8 = 2 by decide), if_neg (show ¬ zi 8 = 3 by decide), if_neg (show ¬ zi 8 = 4 by decide), if_neg (show ¬ zi 8 = 5 by decide), if_neg (show ¬ zi 8 = 6 by decide), if_neg (show ¬ zi 8 = 7 by decide), if_pos (show zi 8 = 8 from rfl)]
    refine ⟨cz 1 (by decide), fun S2 k n eS eK eN => ?_⟩
    have eN2 : n = ((rhS 8).map zi).length := eN.trans (tn 1 (by decide))
    subst eN2
    subst eS
    subst eK
    refine ⟨⟨zAt_new, zin 0 1 (by decide) (by decide)⟩, fun I0 e0 => ?_⟩
    subst e0
    obtain ⟨n1, n2⟩ := Bd.nw (l := (rhS 8).map zi) ((Bd.start : Bd I S.length ((rhS 8).map zi) 0 I).next rfl) hz
    exact hK _ _ n1 n2
  · rw [if_neg (show ¬ zi 9 = 0 by decide), if_neg (show ¬ zi 9 = 1 by decide), if_neg (show ¬ zi 9 = 2 by decide), if_neg (show ¬ zi 9 = 3 by decide), if_neg (show ¬ zi 9 = 4 by decide), if_neg (show ¬ zi 9 = 5 by decide), if_neg (show ¬ zi 9 = 6 by decide), if_neg (show ¬ zi 9 = 7 by decide), if_neg (show ¬ zi 9 = 8 by decide), if_pos (show zi 9 = 9 from rfl)]
    refine ⟨cz 1 (by decide), fun S2 k n eS eK eN => ?_⟩
    have eN2 : n = ((rhS 9).map zi).length := eN.trans (tn 1 (by decide))
    subst eN2
    subst eS
    subst eK
    refine ⟨⟨zAt_new, zin 0 1 (by decide) (by decide)⟩, fun I0 e0 => ?_⟩
    subst e0
    obtain ⟨n1, n2⟩ := Bd.nw (l := (rhS 9).map zi) ((Bd.start : Bd I S.length ((rhS 9).map zi) 0 I).next rfl) hz
    exact hK _ _ n1 n2
  · rw [if_neg (show ¬ zi 10 = 0 by decide), if_neg (show ¬ zi 10 = 1 by decide), if_neg (show ¬ zi 10 = 2 by decide), if_neg (show ¬ zi 10 = 3 by decide), if_neg (show ¬ zi 10 = 4 by decide), if_neg (show ¬ zi 10 = 5 by decide), if_neg (show ¬ zi 10 = 6 by decide), if_neg (show ¬ zi 10 = 7 by decide), if_neg (show ¬ zi 10 = 8 by decide), if_neg (show ¬ zi 10 = 9 by decide)]
    refine ⟨cz 3 (by decide), fun S2 k n eS eK eN => ?_⟩
    have eN2 : n = ((rhS 10).map zi).length := eN.trans (tn 3 (by decide))
    subst eN2
    subst eS
    subst eK
    refine ⟨⟨zAt_new, zin 0 3 (by decide) (by decide)⟩, fun I0 e0 => ?_⟩
    subst e0
    refine ⟨⟨zAt_new, zin 1 3 (by decide) (by decide)⟩, fun I1 e1 => ?_⟩
    subst e1
    refine ⟨⟨zAt_new, zin 2 3 (by decide) (by decide)⟩, fun I2 e2 => ?_⟩
    subst e2
    obtain ⟨n1, n2⟩ := Bd.nw (l := (rhS 10).map zi) ((((Bd.start : Bd I S.length ((rhS 10).map zi) 0 I).next rfl).next rfl).next rfl) hz
    exact hK _ _ n1 n2
