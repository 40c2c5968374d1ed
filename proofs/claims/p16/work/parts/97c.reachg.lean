/-! ===== a TREE that grows again stands where one grown from nothing passes ===== -/
def SG (N : Nat → Nd) (kd : Nat → Nat) (i : Nat) (st : List (Nat × Nat)) : Prop := ∃ l, st = (0, 0) :: l ∧ SL N kd 0 0 l ∧ i = tkL N l
theorem SG.st0 {N : Nat → Nd} {kd : Nat → Nat} : SG N kd 0 [(0, 0)] := ⟨[], rfl, trivial, rfl⟩
theorem snd_was2 {A B n n' i j f k : Nat} (hAn : A + B ≤ n) (hAn' : A + B ≤ n') (hw : wasN A B n n' i = some j) (hs : sndP A B n' n j f) (hk : k ≤ f) (hin : i + f < n) : wasN A B n n' (i + k) = some (j + k) := by
  unfold wasN at hw ⊢
  have a0 : sndP A B n' n j f = (j + f < A ∨ n' - B ≤ j ∨ (A + B = n' ∧ n' = n)) := rfl
  rw [a0] at hs
  by_cases c1 : i < A
  · rw [if_pos c1] at hw
    cases hw
    by_cases c3 : i + k < A
    · rw [if_pos c3]
    · rw [if_neg c3, if_pos (by omega)]
      congr 1
      omega
  · rw [if_neg c1] at hw
    by_cases c2 : n - B ≤ i
    · rw [if_pos c2] at hw
      cases hw
      rw [if_neg (by omega), if_pos (by omega)]
      congr 1
      omega
    · rw [if_neg c2] at hw
      cases hw
theorem byT_app {r : Nat} {st l : List (Nat × Nat)} (h1 : 1 ≤ st.length) (hl : l.length = lnN r) : byT 0 (st ++ l) r = st ++ [(0, ldN (topS st) (syN r))] := by
  have hs : byS (st ++ l) r = topS st := by
    unfold byS topS
    rw [List.length_append, hl, Nat.add_sub_cancel, List.getD_eq_getElem?_getD, List.getD_eq_getElem?_getD, List.getElem?_append_left (by omega)]
  unfold byT
  rw [hs, List.length_append, hl, Nat.add_sub_cancel, List.take_left]
theorem SG.nx {A B n n' e m0 m1 R i m k tk : Nat} {g kd og kdO : Nat → Nat} {N0 N : Nat → Nd} {st : List (Nat × Nat)} {y : Gs} (h0 : NdOk m0 N0) (u0 : UqE m0 N0) (t0 : TreeI m0 N0 R n' og) (hog : ∀ i, i < n → ∀ j, wasN A B n n' i = some j → g i = og j) (ge : GE (flR N0 R) A B n n' g kd) (h : GI (flR N0 R) n n' g kd m1 i m N st k) (hj : GJ m0 N0 g i m N st) (hL : TL N0 kdO R 0) (hkO : ∀ j, j < n' → ndK (N0 (og j)) = kdO j) (hs : SG N kd i st) (e1 : gNx (flR N0 R) A B n n' g e i m N st tk = some y) : SG y.2.2.1 kd y.1 y.2.2.2.1 := by
  have hT := fun b hb => GI.taken (b := b) ge h hb
  have hcw := ge.cw h.2.2.2.2.2.1 h.1
  have hN2 := (h.nx ge e1).2.2.2.2.1
  obtain ⟨g1, g2, g3, g4, g5, g6, g7⟩ := id ge
  obtain ⟨hi, ⟨s1, s2, s3, s4⟩, hf, ⟨hm1, hmk⟩, hN, hF, hg⟩ := id h
  obtain ⟨p0, q1, q2⟩ := top_at s1
  have hs21 : topS st < 21 := q2 ▸ (s3 _ p0 q1).1
  have j6 := hj.2.2.2.2.2
  obtain ⟨l, hst, a1, a2⟩ := hs
  have htop : topS st = lstS 0 l := by rw [hst]; exact topS_cons
  have hlm : ∀ p ∈ l, p.1 < m := fun p hp => by
    obtain ⟨j, hj⟩ := List.mem_iff_getElem?.mp hp
    exact (s3 (j + 1) p (by rw [hst, List.getElem?_cons_succ]; exact hj)).2 (by omega)
  unfold gNx at e1
  cases hb : bestOf (flR N0 R) N A B n n' i (topS st) (g i) with
  | some b =>
    rw [hb] at e1
    cases e1
    obtain ⟨hbm, r', b4', b5', hsy, hld, hf1, hin⟩ := hT b hb
    obtain ⟨j, hw, p, x, r, b1, b2, b3, b4, b5, b6, b7⟩ := bestOf_ok hF hcw hb
    have hb0 : b < m0 := b2 ▸ ((t0.flG h0 u0).1.2 p x b1).1
    have T0 : TL N0 kdO b j := by
      have := hL.fl h0 R t0.1 0 0 0 1 x (List.mem_of_getElem? b1) j b3
      rw [b2] at this
      exact this
    have T1 : TL N kdO b j := T0.cg h0 (fun c hc => ⟨by rw [j6 c hc]; exact NdE.rf, fun _ => by rw [j6 c hc]⟩) b hb0 j
    have T2 : TL N kd b i := T1.sh hN b hbm j i (fun q hq => by
      have w := snd_was2 g3 g4 hw b7 hq hin
      have hin2 : i + q < n := by omega
      have hjn := wasN_lt hin2 (by omega) (by omega) (by omega) w
      have hgo := hog _ hin2 _ w
      rw [← (hg _ hin2).2.2, hgo, j6 _ (t0.2.2.2.2.1 _ hjn).1]
      exact hkO _ hjn)
    refine ⟨l ++ [(b, ldN (topS st) (ndM (N b)))], by dsimp only; rw [hst]; rfl, SL_app.mpr ⟨a1, ?_⟩, ?_⟩
    · rw [Nat.zero_add, ← a2]
      refine ⟨fun w l1 l2 => ?_, T2, trivial⟩
      have er : r' = r := by omega
      dsimp only
      rw [hsy, htop, er]
      exact (TL_eq.mp T2).1 r (lstS 0 l) b4 b5 (by rw [← htop]; exact b6) w l1 l2
    · dsimp only
      rw [tkL_app, ← a2]
      rfl
  | none =>
    rw [hb] at e1
    obtain ⟨hgm, hgR, hgK⟩ := hg i hi
    have hM : ndM (N (g i)) = 5 + kd i := by
      unfold ndM
      rw [hgR, if_pos (by decide), hgK]
    by_cases hz : ldN (topS st) (ndM (N (g i))) = 0
    · rw [if_pos hz] at e1
      cases hr : rlN (topS st) with
      | none =>
        rw [hr] at e1
        cases e1
      | some r =>
        rw [hr] at e1
        cases e1
        have hr11 := rlN_lt hs21 hr
        obtain ⟨f1, f2⟩ := st_fits s2 s3 s1 q1 q2 hr
        have f1' : lnN r < st.length := f1
        have hlen : st.length = l.length + 1 := by rw [hst]; rfl
        have hl12 : l = l.take (l.length - lnN r) ++ l.drop (l.length - lnN r) := (List.take_append_drop _ _).symm
        have et : st.take (st.length - lnN r) = (0, 0) :: l.take (l.length - lnN r) := by
          rw [hst, show ((0, 0) :: l).length - lnN r = (l.length - lnN r) + 1 by show l.length + 1 - lnN r = _; omega, List.take_succ_cons]
        have ed : st.drop (st.length - lnN r) = l.drop (l.length - lnN r) := by
          rw [hst, show ((0, 0) :: l).length - lnN r = (l.length - lnN r) + 1 by show l.length + 1 - lnN r = _; omega, List.drop_succ_cons]
        have ebS : byS st r = lstS 0 (l.take (l.length - lnN r)) := by
          have h1 : byS st r = topS (st.take (st.length - lnN r)) := by
            unfold byS topS
            rw [List.length_take, Nat.min_eq_left (by omega), List.getD_eq_getElem?_getD, List.getD_eq_getElem?_getD, List.getElem?_take, if_pos (by omega)]
          rw [h1, et]
          exact topS_cons
        have ebC : byC st r = (l.drop (l.length - lnN r)).map (fun p => p.1) := by
          unfold byC
          rw [ed]
        rw [hM] at hz
        rw [hl12] at a1
        obtain ⟨c1, c2⟩ := SL_app.mp a1
        have hd : (l.drop (l.length - lnN r)).length = lnN r := by rw [List.length_drop]; omega
        have eF : ∀ c, c < m → NdF N (upN N m (byN N st r e)) c := fun c hc => by
          have : upN N m (byN N st r e) c = N c := upN_o (by omega)
          exact ⟨by rw [this]; exact NdE.rf, fun _ => by rw [this]⟩
        have h1m : ∀ p ∈ l.take (l.length - lnN r), p.1 < m := fun p hp => hlm p (List.mem_of_mem_take hp)
        have h2m : ∀ p ∈ l.drop (l.length - lnN r), p.1 < m := fun p hp => hlm p (List.mem_of_mem_drop hp)
        have eN : upN N m (byN N st r e) m = byN N st r e := upN_self
        have eT : ndT (byN N st r e) = tkL N (l.drop (l.length - lnN r)) := by
          show tkS N (byC st r) = _
          rw [ebC]
          rfl
        have hszm : sz (upN N m (byN N st r e)) m = szL N (l.drop (l.length - lnN r)) + 1 := by
          rw [sz_eq (show NdOk (m + 1) (upN N m (byN N st r e)) from hN2) (Nat.lt_succ_self m), eN]
          show 1 + szS (upN N m (byN N st r e)) (byC st r) = _
          rw [ebC, Nat.add_comm]
          unfold szL szS
          rw [List.map_congr_left (fun c hc => by
            obtain ⟨p, hp, rfl⟩ := List.mem_map.mp hc
            exact sz_cg hN (fun c hc => (eF c hc).1) (h2m p hp))]
        have own : ∀ w : List (Nat × Nat), 1 ≤ w.length → topS w = lstS 0 (l.take (l.length - lnN r)) → lIt kd (sz (upN N m (byN N st r e)) m) (0 + tkL N (l.take (l.length - lnN r)), w) = some (0 + tkL N (l.take (l.length - lnN r)) + ndT (byN N st r e), w ++ [(0, ldN (byS st r) (syN r))]) := by
          intro w w1 w2
          rw [hszm]
          have a := c2.run w w1 w2
          have ei : 0 + tkL N (l.take (l.length - lnN r)) + tkL N (l.drop (l.length - lnN r)) = i := by
            rw [Nat.zero_add, ← tkL_app, List.take_append_drop]
            exact a2.symm
          rw [eT]
          rw [ei] at a ⊢
          refine RC.tr a (RC.one ?_)
          unfold lNx
          have et2 : topS (w ++ z0 (l.drop (l.length - lnN r))) = topS st := by
            rw [top_z0 w1, w2, ← lstS_app, List.take_append_drop, htop]
          rw [et2, if_pos hz, hr]
          dsimp only
          rw [byT_app w1 (by unfold z0; rw [List.length_map]; exact hd), w2, ebS]
        refine ⟨l.take (l.length - lnN r) ++ [(m, ldN (byS st r) (syN r))], ?_, SL_app.mpr ⟨c1.cg hN eF h1m, ?_⟩, ?_⟩
        · show byT m st r = _
          unfold byT
          rw [et]
          rfl
        · dsimp only
          rw [tkL_cg (fun p hp => (eF _ (h1m p hp)).1.2.2.1)]
          refine ⟨fun w w1 w2 => ?_, TL_eq.mpr ⟨?_, ?_⟩, trivial⟩
          · dsimp only
            rw [eN]
            exact own w w1 w2
          · intro r' s' hr' x1 x2 w w1 w2
            rw [eN] at x1 x2 ⊢
            have x1' : (r : Int) = r' := x1
            have x2' : ((byS st r : Nat) : Int) = s' := x2
            have y1 : r' = r := by omega
            have y2 : s' = byS st r := by omega
            rw [y1, y2]
            exact own w w1 (by rw [w2, y2, ebS])
          · rw [eN]
            show TLs _ _ (byC st r) _
            rw [ebC]
            exact (c2.cg hN eF h2m).tl
        · dsimp only
          rw [tkL_app, tkL_cg (fun p hp => (eF _ (h1m p hp)).1.2.2.1)]
          show i = _ + (ndT (upN N m (byN N st r e) m) + 0)
          rw [eN, eT, Nat.add_zero, ← tkL_app, List.take_append_drop]
          exact a2
    · rw [if_neg hz] at e1
      cases e1
      have eF : ∀ c, c < m → NdF N (upN N (g i) (stNd (N (g i)) (topS st))) c := fun c hc => ⟨upN_stE c, fun hr0 => by
        rw [upN_o (fun u => by rw [u, hgR] at hr0; exact absurd hr0 (by decide))]⟩
      have eT : ndT (N (g i)) = 1 := by
        rcases hN _ hgm with ⟨-, -, -, x, -⟩ | ⟨r, s, -, -, x, -⟩
        · exact x
        · omega
      have eT' : ndT (upN N (g i) (stNd (N (g i)) (topS st)) (g i)) = 1 := by
        rw [(eF _ hgm).1.2.2.1]
        exact eT
      have eC : ndC (upN N (g i) (stNd (N (g i)) (topS st)) (g i)) = [] := by
        rw [(eF _ hgm).1.2.2.2.2.1]
        rcases hN _ hgm with ⟨-, x, -⟩ | ⟨r, s, -, -, x, -⟩
        · exact x
        · omega
      have eR : ndR (upN N (g i) (stNd (N (g i)) (topS st)) (g i)) = -2 := by
        rw [(eF _ hgm).1.1]
        exact hgR
      have hsz1 : sz (upN N (g i) (stNd (N (g i)) (topS st))) (g i) = 1 := by
        rw [sz_eq (show NdOk m (upN N (g i) (stNd (N (g i)) (topS st))) from hN2) hgm, eC]
        rfl
      refine ⟨l ++ [(g i, ldN (topS st) (ndM (N (g i))))], by dsimp only; rw [hst]; rfl, SL_app.mpr ⟨a1.cg hN eF hlm, ?_⟩, ?_⟩
      · dsimp only
        rw [tkL_cg (fun p hp => (eF _ (hlm p hp)).1.2.2.1), Nat.zero_add, ← a2]
        refine ⟨fun w w1 w2 => ?_, TL_eq.mpr ⟨fun r s hr x1 => ?_, ?_⟩, trivial⟩
        · dsimp only
          rw [eT', hsz1, hM, htop]
          refine RC.one ?_
          unfold lNx
          rw [hM, htop] at hz
          rw [w2, if_neg hz]
        · rw [eR] at x1
          omega
        · rw [eC]
          trivial
      · dsimp only
        rw [tkL_app, tkL_cg (fun p hp => (eF _ (hlm p hp)).1.2.2.1), ← a2]
        show i + 1 = i + (ndT _ + 0)
        rw [eT']
/-- where growing ends, growing from nothing ends -/
theorem SG.stop {F : List Fl} {A B n n' e m1 i m k tk : Nat} {g kd : Nat → Nat} {N : Nat → Nd} {st : List (Nat × Nat)} (h : GI F n n' g kd m1 i m N st k) (hs : SG N kd i st) (e1 : gNx F A B n n' g e i m N st tk = none) : ∃ w, Rch kd (0, [(0, 0)]) (i, w) ∧ lNx kd i w = none ∧ topS w = topS st := by
  obtain ⟨hi, ⟨s1, s2, s3, s4⟩, hf, ⟨hm1, hmk⟩, hN, hF, hg⟩ := id h
  obtain ⟨l, hst, a1, a2⟩ := hs
  have htop : topS st = lstS 0 l := by rw [hst]; exact topS_cons
  have ht2 : topS ([(0, 0)] ++ z0 l) = topS st := by
    rw [top_z0 (st := [(0, 0)]) (Nat.le_refl 1), htop]
    rfl
  refine ⟨[(0, 0)] ++ z0 l, ?_, ?_, ht2⟩
  · have := a1.run [(0, 0)] (Nat.le_refl 1) rfl
    rw [Nat.zero_add, ← a2] at this
    exact ⟨_, this⟩
  · obtain ⟨hgm, hgR, hgK⟩ := hg i hi
    have hM : ndM (N (g i)) = 5 + kd i := by
      unfold ndM
      rw [hgR, if_pos (by decide), hgK]
    unfold gNx at e1
    cases hb : bestOf F N A B n n' i (topS st) (g i) with
    | some b =>
      rw [hb] at e1
      cases e1
    | none =>
      rw [hb, hM] at e1
      unfold lNx
      rw [ht2]
      by_cases hz : ldN (topS st) (5 + kd i) = 0
      · dsimp only at e1
        rw [if_pos hz] at e1 ⊢
        cases hr : rlN (topS st) with
        | none => rfl
        | some r =>
          rw [hr] at e1
          cases e1
      · dsimp only at e1
        rw [if_neg hz] at e1
        cases e1
