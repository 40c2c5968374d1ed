/-! ===== growing: what is on the stack are trees over the TOKENS passed ===== -/
def GJ (m0 : Nat) (N0 : Nat → Nd) (g : Nat → Nat) (i m : Nat) (N : Nat → Nd) (st : List (Nat × Nat)) : Prop :=
  (st.drop 1).flatMap (fun p => yl N p.1) = (List.range i).map g ∧ (∀ p ∈ st.drop 1, ∀ z ∈ yl N p.1, 0 ≤ ndS (N z)) ∧ UqE m N ∧
  (∀ (j : Nat) (p : Nat × Nat), 1 ≤ j → st[j]? = some p → ndT (N p.1) = 0 → ∀ y k : Nat, y < m → (ndC (N y))[k]? ≠ some p.1) ∧
  (∀ (j1 j2 : Nat) (p1 p2 : Nat × Nat), 1 ≤ j1 → 1 ≤ j2 → st[j1]? = some p1 → st[j2]? = some p2 → p1.1 = p2.1 → ndT (N p1.1) = 0 → j1 = j2) ∧
  ∀ k, k < m0 → N k = N0 k
/-- a sound node's TOKENS were TOKENS one behind the other -/
theorem snd_was {A B n n' i j f k : Nat} (hAn : A + B ≤ n) (hAn' : A + B ≤ n') (hw : wasN A B n n' i = some j) (hs : sndP A B n' n j f) (hk : k < f) (hin : i + f < n) : wasN A B n n' (i + k) = some (j + k) := by
  unfold wasN at hw ⊢
  have a0 : sndP A B n' n j f = (j + f < A ∨ n' - B ≤ j ∨ (A + B = n' ∧ n' = n)) := rfl
  rw [a0] at hs
  by_cases c1 : i < A
  · rw [if_pos c1] at hw
    cases hw
    by_cases c3 : i + k < A
    · rw [if_pos c3]
    · rw [if_neg c3, if_pos (by omega)]
      congr 1
      omega
  · rw [if_neg c1] at hw
    by_cases c2 : n - B ≤ i
    · rw [if_pos c2] at hw
      cases hw
      rw [if_neg (by omega), if_pos (by omega)]
      congr 1
      omega
    · rw [if_neg c2] at hw
      cases hw
theorem drop1_snoc {α : Type} {l : List α} {a : α} (h : 1 ≤ l.length) : (l ++ [a]).drop 1 = l.drop 1 ++ [a] := List.drop_append_of_le_length h
theorem snoc_at {α : Type} {l : List α} {a x : α} {j : Nat} (h : (l ++ [a])[j]? = some x) : l[j]? = some x ∨ (j = l.length ∧ x = a) := by
  by_cases u : j < l.length
  · rw [List.getElem?_append_left u] at h
    exact Or.inl h
  · have hq := (List.getElem?_eq_some_iff.mp h).1
    rw [List.length_append] at hq
    have hj : j = l.length := by
      have : [a].length = 1 := rfl
      omega
    rw [hj, List.getElem?_append_right (Nat.le_refl _), Nat.sub_self] at h
    cases h
    exact Or.inr ⟨hj, rfl⟩
theorem take_at {α : Type} {l : List α} {x : α} {j n : Nat} (h : (l.take n)[j]? = some x) : j < n ∧ l[j]? = some x := by
  by_cases u : j < n
  · rw [List.getElem?_take, if_pos u] at h
    exact ⟨u, h⟩
  · rw [List.getElem?_take, if_neg u] at h
    cases h
theorem mem_drop1 {α : Type} {l : List α} {x : α} (h : x ∈ l.drop 1) : ∃ j, 1 ≤ j ∧ l[j]? = some x := by
  obtain ⟨k, hk⟩ := List.mem_iff_getElem?.mp h
  rw [List.getElem?_drop] at hk
  exact ⟨1 + k, by omega, hk⟩
theorem GJ.nx {A B n n' e m0 m1 R i m k tk : Nat} {g kd og : Nat → Nat} {N0 N : Nat → Nd} {st : List (Nat × Nat)} {y : Gs} (h0 : NdOk m0 N0) (t0 : TreeI m0 N0 R n' og) (hog : ∀ i, i < n → ∀ j, wasN A B n n' i = some j → g i = og j) (hnew : ∀ i, i < n → wasN A B n n' i = none → m0 ≤ g i) (h01 : m0 ≤ m1) (ge : GE (flR N0 R) A B n n' g kd) (h : GI (flR N0 R) n n' g kd m1 i m N st k) (hj : GJ m0 N0 g i m N st) (e1 : gNx (flR N0 R) A B n n' g e i m N st tk = some y) : GJ m0 N0 g y.1 y.2.1 y.2.2.1 y.2.2.2.1 := by
  have hnx := h.nx ge e1
  have hT := fun b hb => GI.taken (b := b) ge h hb
  have hcw := ge.cw h.2.2.2.2.2.1 h.1
  obtain ⟨g1, g2, g3, g4, g5, g6, g7⟩ := id ge
  obtain ⟨hi, ⟨s1, s2, s3, s4⟩, hf, ⟨hm1, hmk⟩, hN, hF, hg⟩ := id h
  obtain ⟨p0, q1, q2⟩ := top_at s1
  have hs21 : topS st < 21 := q2 ▸ (s3 _ p0 q1).1
  obtain ⟨j1, j2, j3, j4, j5, j6⟩ := hj
  unfold gNx at e1
  cases hb : bestOf (flR N0 R) N A B n n' i (topS st) (g i) with
  | some b =>
    rw [hb] at e1
    cases e1
    obtain ⟨hbm, r, b4, b5, hsy, hld, hf1, hin⟩ := hT b hb
    obtain ⟨j, hjw, p, x, r', c1, c2, c3, c4, c5, c6, c7⟩ := bestOf_ok hF hcw hb
    have ht := t0.tk h0
    obtain ⟨t1, t2, t3, t4, t5, t6, t7, t8⟩ := id t0
    obtain ⟨a1, -, o, a3, a4, a5, -⟩ := fl_in h0 R t1 _ _ _ _ _ _ c1
    rw [c2] at a1 a3 a4 a5
    have hb0 : b < m0 := by omega
    have hbN : N b = N0 b := j6 b hb0
    rw [hbN] at hf1 hin c7
    have hoj : o = j := by
      have : x.2.2.1 = if ndT (N0 b) = 0 then (-2 : Int) else ((0 + o : Nat) : Int) := by rw [a4]; rfl
      rw [if_neg (by omega), c3] at this
      omega
    subst hoj
    have hyl : yl N b = (List.range (ndT (N0 b))).map (fun k => g (i + k)) := by
      have e2 : yl N b = yl N0 b := yl_cg h0 (fun c hc => by rw [j6 c hc]; exact NdE.rf) hb0
      rw [e2, a5, t3]
      refine List.ext_getElem? (fun k => ?_)
      rw [List.getElem?_take, List.getElem?_map]
      by_cases hk : k < ndT (N0 b)
      · rw [if_pos hk, List.getElem?_drop, List.getElem?_map, List.getElem?_range (by omega), List.getElem?_range hk]
        have := hog (i + k) (by omega) (o + k) (snd_was g3 g4 hjw c7 hk hin)
        show some (og (o + k)) = some (g (i + k))
        rw [this]
      · rw [if_neg hk, List.getElem?_eq_none (by rw [List.length_range]; omega)]
        rfl
    have hbT : ndT (N b) ≠ 0 := by
      rw [hbN]
      omega
    refine ⟨?_, fun p hp z hz => ?_, j3, fun j p hj1 hp hz => ?_, fun k1 k2 p1 p2 hk1 hk2 hp1 hp2 he hz => ?_, j6⟩
    · dsimp only
      rw [drop1_snoc s1, List.flatMap_append, j1, hbN, List.range_add, List.map_append, List.map_map, List.flatMap_cons, List.flatMap_nil, List.append_nil, hyl]
      rfl
    · dsimp only at hp hz
      rw [drop1_snoc s1] at hp
      rcases List.mem_append.mp hp with hp | hp
      · exact j2 p hp z hz
      · cases List.mem_singleton.mp hp
        rw [yl_cg h0 (fun c hc => by rw [j6 c hc]; exact NdE.rf) hb0] at hz
        have hz2 : z ∈ yl N0 R := by
          rw [a5] at hz
          exact List.mem_of_mem_drop (List.mem_of_mem_take hz)
        have hz3 := (yl_mem h0 R t1 z hz2).1
        dsimp only
        rw [show N z = N0 z from j6 z (by omega)]
        exact t6 z hz2
    · rcases snoc_at hp with hp | ⟨-, rfl⟩
      · exact j4 j p hj1 hp hz
      · exact absurd hz hbT
    · rcases snoc_at hp1 with hp1 | ⟨u1, rfl⟩
      · rcases snoc_at hp2 with hp2 | ⟨u2, rfl⟩
        · exact j5 k1 k2 p1 p2 hk1 hk2 hp1 hp2 he hz
        · change p1.1 = b at he
          rw [he] at hz
          exact absurd hz hbT
      · exact absurd hz hbT
  | none =>
    rw [hb] at e1
    obtain ⟨hgm, hgR, hgK⟩ := hg i hi
    by_cases hz : ldN (topS st) (ndM (N (g i))) = 0
    · rw [if_pos hz] at e1
      cases hr : rlN (topS st) with
      | none =>
        rw [hr] at e1
        cases e1
      | some r =>
        rw [hr] at e1
        cases e1
        have hr11 := rlN_lt hs21 hr
        obtain ⟨f1, f2⟩ := st_fits s2 s3 s1 q1 q2 hr
        have hN' : NdOk (m + 1) (upN N m (byN N st r e)) := hnx.2.2.2.2.1
        have hE : ∀ c, c < m → NdE (N c) (upN N m (byN N st r e) c) := fun c hc => by
          rw [upN_o (by omega)]
          exact NdE.rf
        have hyc : ∀ c, c < m → yl (upN N m (byN N st r e)) c = yl N c := fun c hc => yl_cg hN hE hc
        have hCat : ∀ (k z : Nat), (byC st r)[k]? = some z → ∃ p : Nat × Nat, st[st.length - lnN r + k]? = some p ∧ p.1 = z := by
          intro k z hk
          unfold byC at hk
          rw [List.getElem?_map, List.getElem?_drop] at hk
          cases hp : st[st.length - lnN r + k]? with
          | none => rw [hp] at hk; cases hk
          | some p =>
            rw [hp] at hk
            cases hk
            exact ⟨p, rfl, rfl⟩
        have hlt : ∀ (c z k : Nat), c < m + 1 → (ndC (upN N m (byN N st r e) c))[k]? = some z → z < c := fun c z k hc hk => hN'.lt hc (List.mem_of_getElem? hk)
        have hCm : ndC (upN N m (byN N st r e) m) = byC st r := by
          rw [upN_self]
          rfl
        have hylm : yl (upN N m (byN N st r e)) m = (byC st r).flatMap (yl N) := by
          rw [yl_eq hN' (Nat.lt_succ_self m), if_neg (by rw [upN_self]; show ¬ ((r : Nat) : Int) < 0; omega), hCm]
          refine flatMap_cg (fun z hz => hyc z ?_)
          obtain ⟨k, hk⟩ := List.mem_iff_getElem?.mp hz
          exact hlt m z k (Nat.lt_succ_self m) (by rw [hCm]; exact hk)
        have hq1 : 1 ≤ st.length - lnN r := by omega
        have hdt : (byT m st r).drop 1 = (st.take (st.length - lnN r)).drop 1 ++ [(m, ldN (byS st r) (syN r))] := by
          unfold byT
          exact drop1_snoc (by rw [List.length_take]; omega)
        have hds : st.drop 1 = (st.take (st.length - lnN r)).drop 1 ++ st.drop (st.length - lnN r) := by
          rw [← List.drop_append_of_le_length (by rw [List.length_take]; omega), List.take_append_drop]
        have hmem : ∀ p ∈ st.drop 1, p.1 < m := fun p hp => by
          obtain ⟨j, hj1, hj2⟩ := mem_drop1 hp
          exact (s3 j p hj2).2 hj1
        refine ⟨?_, fun p hp z hz => ?_, fun p1 p2 i1 i2 z hp1 hp2 hz1 hz2 hz0 => ?_, fun j p hj1 hp hz0 y k hy hk => ?_, fun k1 k2 p1 p2 hk1 hk2 hp1 hp2 he hz0 => ?_, fun k hk => ?_⟩
        · dsimp only
          rw [hdt, List.flatMap_append, ← j1, hds, List.flatMap_append]
          congr 1
          · refine flatMap_cg (fun p hp => hyc p.1 (hmem p ?_))
            rw [hds]
            exact List.mem_append_left _ hp
          · rw [List.flatMap_cons, List.flatMap_nil, List.append_nil]
            show yl (upN N m (byN N st r e)) m = _
            rw [hylm]
            unfold byC
            rw [List.flatMap_map]
        · dsimp only at hp hz
          have key : ∀ p ∈ st.drop 1, ∀ z ∈ yl N p.1, 0 ≤ ndS (upN N m (byN N st r e) z) := fun p hp z hz => by
            have h1 := (yl_mem hN p.1 (hmem p hp) z hz).1
            have h2 := hmem p hp
            rw [upN_o (by omega)]
            exact j2 p hp z hz
          rw [hdt] at hp
          rcases List.mem_append.mp hp with hp | hp
          · have hp' : p ∈ st.drop 1 := by
              rw [hds]
              exact List.mem_append_left _ hp
            rw [hyc p.1 (hmem p hp')] at hz
            exact key p hp' z hz
          · cases List.mem_singleton.mp hp
            change z ∈ yl (upN N m (byN N st r e)) m at hz
            rw [hylm] at hz
            obtain ⟨c, hc, hzc⟩ := List.mem_flatMap.mp hz
            unfold byC at hc
            obtain ⟨p, hp, rfl⟩ := List.mem_map.mp hc
            exact key p (by rw [hds]; exact List.mem_append_right _ hp) z hzc
        · dsimp only at hp1 hp2 hz1 hz2 hz0
          have hzm : z < m := by
            have := hlt p1 z i1 hp1 hz1
            omega
          rw [upN_o (by omega)] at hz0
          by_cases u1 : p1 = m
          · subst u1
            rw [hCm] at hz1
            obtain ⟨w1, v1, v2⟩ := hCat i1 z hz1
            by_cases u2 : p2 = p1
            · subst u2
              rw [hCm] at hz2
              obtain ⟨w2, v3, v4⟩ := hCat i2 z hz2
              have := j5 _ _ w1 w2 (by omega) (by omega) v1 v3 (v2.trans v4.symm) (by rw [v2]; exact hz0)
              exact ⟨rfl, by omega⟩
            · rw [upN_o u2] at hz2
              exact absurd (by rw [v2]; exact hz2) (j4 _ w1 (by omega) v1 (by rw [v2]; exact hz0) p2 i2 (by omega))
          · rw [upN_o u1] at hz1
            by_cases u2 : p2 = m
            · subst u2
              rw [hCm] at hz2
              obtain ⟨w2, v3, v4⟩ := hCat i2 z hz2
              exact absurd (by rw [v4]; exact hz1) (j4 _ w2 (by omega) v3 (by rw [v4]; exact hz0) p1 i1 (by omega))
            · rw [upN_o u2] at hz2
              exact j3 p1 p2 i1 i2 z (by omega) (by omega) hz1 hz2 hz0
        · dsimp only at hp hz0 hy hk
          have hlt2 := hlt y p.1 k hy hk
          unfold byT at hp
          rcases snoc_at hp with hp | ⟨-, rfl⟩
          · obtain ⟨u, hp9⟩ := take_at hp
            have hpm := (s3 j p hp9).2 hj1
            rw [upN_o (by omega)] at hz0
            by_cases u1 : y = m
            · subst u1
              rw [hCm] at hk
              obtain ⟨w1, v1, v2⟩ := hCat k p.1 hk
              have := j5 _ _ p w1 hj1 (by omega) hp9 v1 v2.symm hz0
              omega
            · rw [upN_o u1] at hk
              exact j4 j p hj1 hp9 hz0 y k (by omega) hk
          · change m < y at hlt2
            omega
        · dsimp only at hp1 hp2 hz0
          unfold byT at hp1 hp2
          rcases snoc_at hp1 with hp1 | ⟨w1, rfl⟩
          · obtain ⟨u, hp1⟩ := take_at hp1
            have hpm := (s3 k1 p1 hp1).2 hk1
            rcases snoc_at hp2 with hp2 | ⟨w2, rfl⟩
            · obtain ⟨u2, hp2⟩ := take_at hp2
              rw [upN_o (by omega)] at hz0
              exact j5 k1 k2 p1 p2 hk1 hk2 hp1 hp2 he hz0
            · change p1.1 = m at he
              omega
          · rcases snoc_at hp2 with hp2 | ⟨w2, rfl⟩
            · obtain ⟨u2, hp2⟩ := take_at hp2
              have hpm := (s3 k2 p2 hp2).2 hk2
              change m = p2.1 at he
              omega
            · omega
        · dsimp only
          rw [upN_o (by omega)]
          exact j6 k hk
    · rw [if_neg hz] at e1
      cases e1
      have hN' : NdOk m (upN N (g i) (stNd (N (g i)) (topS st))) := hnx.2.2.2.2.1
      have hin : i + 1 < n := hnx.1
      have hE : ∀ c, c < m → NdE (N c) (upN N (g i) (stNd (N (g i)) (topS st)) c) := fun c _ => upN_stE c
      have hyc : ∀ c, c < m → yl (upN N (g i) (stNd (N (g i)) (topS st))) c = yl N c := fun c hc => yl_cg hN hE hc
      have hCe : ∀ c, ndC (upN N (g i) (stNd (N (g i)) (topS st)) c) = ndC (N c) := fun c => (upN_stE c).2.2.2.2.1
      have hTe : ∀ c, ndT (upN N (g i) (stNd (N (g i)) (topS st)) c) = ndT (N c) := fun c => (upN_stE c).2.2.1
      have hmem : ∀ p ∈ st.drop 1, p.1 < m := fun p hp => by
        obtain ⟨j, hj1, hj2⟩ := mem_drop1 hp
        exact (s3 j p hj2).2 hj1
      have hgT : ndT (N (g i)) = 1 := by
        rcases hN (g i) hgm with ⟨-, -, -, u, -⟩ | ⟨r, s, -, -, u, -⟩
        · exact u
        · omega
      have hgy : yl N (g i) = [g i] := yl_tok hN hgm hgR
      refine ⟨?_, fun p hp z hz => ?_, fun p1 p2 i1 i2 z hp1 hp2 hz1 hz2 hz0 => ?_, fun j p hj1 hp hz0 y k hy hk => ?_, fun k1 k2 p1 p2 hk1 hk2 hp1 hp2 he hz0 => ?_, fun k hk => ?_⟩
      · dsimp only
        rw [drop1_snoc s1, List.flatMap_append, flatMap_cg (fun p hp => hyc p.1 (hmem p hp)), j1, List.range_succ, List.map_append, List.flatMap_cons, List.flatMap_nil, List.append_nil]
        congr 1
        show yl (upN N (g i) (stNd (N (g i)) (topS st))) (g i) = _
        rw [hyc _ hgm, hgy]
        rfl
      · dsimp only at hp hz ⊢
        rw [drop1_snoc s1] at hp
        rcases List.mem_append.mp hp with hp | hp
        · rw [hyc p.1 (hmem p hp)] at hz
          have := j2 p hp z hz
          rcases upN_stS (N := N) (c := g i) (s := topS st) z with u | ⟨u, -⟩
          · rw [u]
            exact this
          · omega
        · cases List.mem_singleton.mp hp
          change z ∈ yl (upN N (g i) (stNd (N (g i)) (topS st))) (g i) at hz
          rw [hyc _ hgm, hgy] at hz
          cases List.mem_singleton.mp hz
          rw [upN_self]
          unfold stNd
          by_cases u : 0 ≤ ndS (N (g i))
          · rw [if_pos u]
            exact u
          · rw [if_neg u]
            show (0 : Int) ≤ ((topS st : Nat) : Int)
            omega
      · rw [hCe] at hz1 hz2
        rw [hTe] at hz0
        exact j3 p1 p2 i1 i2 z hp1 hp2 hz1 hz2 hz0
      · dsimp only at hz0 hk
        rw [hCe] at hk
        rw [hTe] at hz0
        rcases snoc_at hp with hp | ⟨-, rfl⟩
        · exact j4 j p hj1 hp hz0 y k hy hk
        · change ndT (N (g i)) = 0 at hz0
          omega
      · dsimp only at hz0
        rw [hTe] at hz0
        rcases snoc_at hp1 with hp1 | ⟨u1, rfl⟩
        · rcases snoc_at hp2 with hp2 | ⟨u2, rfl⟩
          · exact j5 k1 k2 p1 p2 hk1 hk2 hp1 hp2 he hz0
          · change p1.1 = g i at he
            rw [he] at hz0
            omega
        · change ndT (N (g i)) = 0 at hz0
          omega
      · dsimp only
        by_cases u : k = g i
        · subst u
          have hst : 0 ≤ ndS (N (g i)) := by
            cases hw : wasN A B n n' i with
            | none =>
              have := hnew i hi hw
              omega
            | some j =>
              have hjn := wasN_lt hi (by omega) (by omega) (by omega) hw
              have hj1 : j + 1 < n' := by
                unfold wasN at hw
                by_cases c1 : i < A
                · rw [if_pos c1] at hw
                  cases hw
                  omega
                · rw [if_neg c1] at hw
                  by_cases c2 : n - B ≤ i
                  · rw [if_pos c2] at hw
                    cases hw
                    omega
                  · rw [if_neg c2] at hw
                    cases hw
              rw [j6 _ hk, hog i hi j hw]
              refine t0.2.2.2.2.2.1 _ ?_
              rw [t0.2.2.1]
              exact List.mem_map.mpr ⟨j, List.mem_range.mpr (by omega), rfl⟩
          rw [upN_self]
          unfold stNd
          rw [if_pos hst]
          exact j6 _ hk
        · rw [upN_o u]
          exact j6 k hk
