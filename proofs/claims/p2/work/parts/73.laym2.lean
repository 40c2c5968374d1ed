/-- a tree laid flat, the model: what fillsTree does ahead of fillsRuns -/
theorem s_fillsTree {m R n : Nat} {og : Nat → Nat} {N : Nat → Nd} {I : zI} {K : zI → Prop} (rep : RepNM I m N) (hN : NdOk m N) (hu : UqE m N) (hm : m ≤ 3700) (t : TreeI m N R n og) (hT : I.1 491 37 = zi R)
    (hK : ∀ J, eqQ Qft I J → LdM J (flR N R) (n - 1) (flR N R).length → (∀ (i : Nat) (x : Fl), (flR N R)[i]? = some x → J.1 522 i = zi (i + x.2.2.2.2) ∧ PaM J N (flR N R) i x) → w_M_fillsRuns J K) : w_M_fillsTree I K := by
  have fg := t.flG hN hu
  have hR := t.1
  have htk := t.tk hN
  have hn100 := t.2.2.2.2.2.2.2
  have hlen : (flR N R).length ≤ 399 := by
    have h1 := t.few hN
    have h2 : (flR N R).length = sz N R := fl_len hN R hR _ _ _ _
    omega
  have ch := hN.ch
  have hxm : ∀ (p : Nat) (x : Fl), (flR N R)[p]? = some x → x.1 < m := fun p x hx => (fg.1.2 p x hx).1
  intro P2 h2
  have fill : ∀ (d v : Nat) (J : zI), v + d = 3700 → eqQ Qft I J → (∀ c, c < v → J.1 523 c = -1) → (∀ J', eqQ Qft I J' → (∀ c, c < 3700 → J'.1 523 c = -1) → P2 (zi 3700) J') → P2 (zi v) J := by
    intro d
    induction d with
    | zero =>
      intro v J hv q h hk
      rw [show v = 3700 by omega] at h ⊢
      exact hk J q h
    | succ d ih =>
      intro v J hv q h hk
      refine h2 _ _ ?_
      rw [if_neg (show ¬ (3700 : Int32) ≤ zi v from fun u => by have := (zi_le (a := 3700) (by decide) (by omega)).mp u; omega), zi_tn (show v < 2147483648 by omega)]
      refine ⟨(zin_iff (by omega)).mpr (by omega), fun I42 e42 v43 e43 => ?_⟩
      rw [e43, zi_succ]
      refine ih (v + 1) I42 (by omega) (by rw [e42]; exact q.zu (Or.inr (by omega))) (fun c hc => ?_) hk
      rw [e42, zu_at]
      by_cases u : c = v
      · rw [if_pos ⟨rfl, u⟩]
      · rw [if_neg (fun w => u w.2)]
        exact h c (by omega)
  refine fill 3700 0 I (by omega) eqQ.rf (fun c hc => by omega) (fun J qJ hJ => ?_)
  refine h2 _ _ ?_
  rw [if_pos (show (3700 : Int32) ≤ zi 3700 by decide)]
  intro I3 e3
  have g3 : I3.1 491 37 = zi R := by rw [e3, zu_at, if_neg (by decide), qJ.1 _ _ (by unfold Qft; omega)]; exact hT
  rw [g3]
  refine ⟨(zin_iff (i := 0) (by decide)).mpr (by decide), fun I4 e4 => ?_⟩
  have g4 : I4.1 491 37 = zi R := by rw [e4, zu_oo (by decide)]; exact g3
  rw [g4, zi_tn (show R < 2147483648 by omega)]
  refine ⟨(zin_iff (by omega)).mpr (by omega), fun I5 e5 => ?_⟩
  have g5 : I5.1 491 37 = zi R := by rw [e5, zu_oo (by decide)]; exact g4
  rw [g5, zi_tn (show R < 2147483648 by omega)]
  refine ⟨(zin_iff (by omega)).mpr (by omega), fun I6 e6 => ?_⟩
  have q6 : eqQ Qft I I6 := by
    rw [e6, e5, e4, e3]
    exact (((qJ.zu (Or.inl ⟨rfl, Or.inl rfl⟩)).zu (Or.inr (by omega))).zu (Or.inr (by omega))).zu (Or.inr (by omega))
  intro P62 h62
  have kp1 : ∀ (A : zI), eqQ Qft I A → RepNM A m N := fun A q => rep.kp ch (q.1 _ _ (by unfold Qft; omega)) (fun a j h1 h2 => q.1 a j (by unfold Qft; omega)) (fun j => q.2 511 j (by unfold Qft; omega))
  have main : ∀ (d p tt : Nat) (w : List (Nat × Nat × Nat)) (A : zI), p + d = (flR N R).length → (flR N R).drop p = flS N w p tt → StkO m p (flR N R) w → tt + tkW N w = n - 1 → StkM A w → LdM A (flR N R) (n - 1) p → (∀ (i : Nat) (x : Fl), (flR N R)[i]? = some x → (i = 0 ∨ x.2.1 < p) → PaM A N (flR N R) i x) → eqQ Qft I A → P62 (zi tt) (zi w.length) A := by
    intro d
    induction d with
    | zero =>
      intro p tt w A hp hdr hso htw hsx hld hpa q
      refine h62 _ _ _ ?_
      have hw : w = [] := by
        have h1 := flS_len hN (p := p) (t := tt) (fun x hx => (hso x hx).1)
        rw [← hdr, List.length_drop] at h1
        exact List.eq_nil_of_length_eq_zero (by omega)
      subst hw
      rw [if_pos (show zi (List.length ([] : List (Nat × Nat × Nat))) ≤ 0 by decide)]
      intro v3 ev3
      rw [hld.1, show p = (flR N R).length by omega] at ev3
      subst ev3
      intro P197 h197
      have hp' : p = (flR N R).length := by omega
      subst hp'
      refine s_ends (P := P197) (K := fun I12 => w_M_fillsRuns I12 (fun I13 => K I13)) (kp1 A q) hN hm hR hlen hxm (fun i x hx => ?_) h197 (fun B qB h522 => ?_)
      · obtain ⟨b1, b2, -⟩ := hld.2.1 i x (List.getElem?_eq_some_iff.mp hx).1 hx
        exact ⟨b1, b2⟩
      · refine hK B (q.tr (qB.mono (fun a j h => Or.inr (by omega)))) ⟨by rw [qB.1 _ _ (by omega)]; exact hld.1, fun i x hi hx => ?_, fun c hc hno => by rw [qB.1 _ _ (by omega)]; exact hld.2.2 c hc hno⟩ (fun i x hx => ⟨h522 i x hx, ?_⟩)
        · obtain ⟨b1, b2, o, b3, b4, b5⟩ := hld.2.1 i x hi hx
          rw [qB.1 521 _ (by omega), qB.1 523 _ (by omega)]
          exact ⟨b1, b2, o, b3, by rw [qB.1 526 _ (by omega)]; exact b4, b5⟩
        · obtain ⟨b1, b2⟩ := hpa i x hx (by
            by_cases u : i = 0
            · exact Or.inl u
            · right
              have := (fg.1.2 i x hx).2 (by omega)
              have := (List.getElem?_eq_some_iff.mp hx).1
              omega)
          refine ⟨fun u => by rw [qB.1 524 _ (by omega)]; exact b1 u, fun u => ?_⟩
          obtain ⟨y, j, c1, c2, c3, c4⟩ := b2 u
          exact ⟨y, j, c1, c2, by rw [qB.1 524 _ (by omega)]; exact c3, by rw [qB.1 525 _ (by omega)]; exact c4⟩
    | succ d ih =>
      intro p tt w A hp hdr hso htw hsx hld hpa q
      refine h62 _ _ _ ?_
      have hx : (flR N R)[p]? = some ((flR N R)[p]'(by omega)) := List.getElem?_eq_getElem (by omega)
      generalize (flR N R)[p]'(by omega) = x at hx
      obtain ⟨c, qq, dd, w', hw, hc, hxe, hdr2, -⟩ := flS_hd hN (fun y hy => (hso y hy).1) hdr hx
      subst hw
      have hwl := flS_len hN (w := (c, qq, dd) :: w') (p := p) (t := tt) (fun x hx => (hso x hx).1)
      rw [← hdr, List.length_drop, List.length_cons] at hwl
      rw [tkW_cons] at htw
      dsimp only at htw
      rw [if_neg (show ¬ zi (List.length ((c, qq, dd) :: w')) ≤ 0 from fun u => by have := (zi_le (b := 0) (by rw [List.length_cons]; omega) (by decide)).mp u; rw [List.length_cons] at this; omega)]
      intro v2 ev2
      rw [List.length_cons, zi_pred (by omega), Nat.add_sub_cancel] at ev2
      subst ev2
      obtain ⟨k1, k2⟩ := hsx
      refine ⟨(zin_iff (by omega)).mpr (by omega), fun v3 ev3 => ?_⟩
      rw [zi_tn (show w'.length < 2147483648 by omega), show A.1 527 w'.length = zi c from k1] at ev3
      subst ev3
      have hcin : vp_in (zi c) 3700 := (zin_iff (by omega)).mpr (by omega)
      rw [zi_tn (show c < 2147483648 by omega)]
      refine ⟨hcin, fun I23 e23 => ?_⟩
      rw [hld.1] at e23
      have g23 : I23.1 491 43 = zi p := by rw [e23, zu_oo (by decide)]; exact hld.1
      rw [g23, zi_tn (show p < 2147483648 by omega)]
      refine ⟨(zin_iff (by omega)).mpr (by omega), fun I24 e24 I25 e25 => ?_⟩
      rw [show I24.1 491 43 = zi p by rw [e24, zu_oo (by decide)]; exact g23, zi_succ] at e25
      refine ⟨hcin, fun I26 e26 => ⟨hcin, ?_⟩⟩
      have o26 : ∀ a j, ¬ (a = 523 ∧ j = c) → ¬ (a = 521 ∧ j = p) → ¬ (a = 491 ∧ j = 43) → ¬ (a = 526 ∧ j = c) → I26.1 a j = A.1 a j := fun a j u1 u2 u3 u4 => by
        rw [e26, zu_at, if_neg u4, e25, zu_at, if_neg u3, e24, zu_at, if_neg u2, e23, zu_at, if_neg u1]
      have q26 : eqQ Qft I I26 := by
        rw [e26, e25, e24, e23]
        exact (((q.zu (Or.inr (by omega))).zu (Or.inr (by omega))).zu (Or.inl ⟨rfl, Or.inl rfl⟩)).zu (Or.inr (by omega))
      have w523 : I26.1 523 c = zi p := by rw [e26, zu_oo (by decide), e25, zu_oo (by decide), e24, zu_oo (by decide), e23, zu_self]
      have w521 : I26.1 521 p = zi c := by rw [e26, zu_oo (by decide), e25, zu_oo (by decide), e24, zu_self]
      have w526 : I26.1 526 c = zi tt := by rw [e26, zu_self]
      have w43 : I26.1 491 43 = zi (p + 1) := by rw [e26, zu_oo (by decide), e25, zu_self]
      have hx1 : x.1 = c := by rw [hxe]; rfl
      have hne : ∀ (i : Nat) (y : Fl), i < p → (flR N R)[i]? = some y → y.1 ≠ c := fun i y hi hy e => by
        have := fg.2.1 i p y x hy hx (e.trans hx1.symm)
        omega
      have ld26 : LdM I26 (flR N R) (n - 1) (p + 1) := by
        refine ⟨w43, fun i y hi hy => ?_, fun c' hc' hno => ?_⟩
        · by_cases u : i = p
          · subst u
            rw [hx] at hy
            cases hy
            refine ⟨by rw [w521, hx1], by rw [hx1, w523], tt, by omega, by rw [hx1]; exact w526, fun h0 => ?_⟩
            rw [hxe] at h0 ⊢
            change 0 ≤ (if ndT (N c) = 0 then (-2 : Int) else (tt : Int)) at h0
            show (if ndT (N c) = 0 then (-2 : Int) else (tt : Int)) = _
            by_cases u0 : ndT (N c) = 0
            · rw [if_pos u0] at h0
              omega
            · rw [if_neg u0]
          · obtain ⟨b1, b2, o, b3, b4, b5⟩ := hld.2.1 i y (by omega) hy
            have hn := hne i y (by omega) hy
            rw [o26 521 i (by omega) (by omega) (by omega) (by omega), o26 523 y.1 (fun v => hn v.2) (by omega) (by omega) (by omega)]
            exact ⟨b1, b2, o, b3, by rw [o26 526 y.1 (by omega) (by omega) (by omega) (fun v => hn v.2)]; exact b4, b5⟩
        · have hcc : c' ≠ c := fun e => hno p x (by omega) hx (hx1.trans e.symm)
          rw [o26 523 c' (fun v => hcc v.2) (by omega) (by omega) (by omega)]
          exact hld.2.2 c' hc' (fun i y hi hy => hno i y (by omega) hy)
      have rep26 := kp1 _ q26
      have nd := rep26.2 c hc
      have hnc : (ndC (N c)).length ≤ 4 := ch c hc
      have hso2 : StkO m (p + 1) (flR N R) ((ndC (N c)).map (fun c' => (c', p, dd + 1)) ++ w') := by
        intro y hy
        rcases List.mem_append.mp hy with hy | hy
        · obtain ⟨z, hz, rfl⟩ := List.mem_map.mp hy
          exact ⟨(show z < m by have := hN.lt hc hz; omega), (show 1 ≤ dd + 1 by omega), fun _ => ⟨(show p < p + 1 by omega), x, hx, by rw [hxe]; rfl⟩⟩
        · obtain ⟨b1, b2, b3⟩ := hso y (List.mem_cons_of_mem _ hy)
          refine ⟨b1, b2, fun u => ?_⟩
          obtain ⟨c1, c2⟩ := b3 u
          exact ⟨by omega, c2⟩
      have htw2 : tt + (if ndR (N c) < 0 then 1 else 0) + tkW N ((ndC (N c)).map (fun c' => (c', p, dd + 1)) ++ w') = n - 1 := by
        rw [tkW_ch]
        rcases hN c hc with ⟨e1, e2, -, e4, -⟩ | ⟨r, s, -, -, e3, -, -, -, -, e8⟩
        · rw [if_pos (by omega), e2]
          have : tkS N [] = 0 := rfl
          omega
        · rw [if_neg (by omega)]
          omega
      intro P125 h125
      have rest : P125 (zi (tt + if ndR (N c) < 0 then 1 else 0)) := by
        refine h125 _ ⟨hcin, fun v4 ev4 => ?_⟩
        rw [show I26.1 512 c = zi (ndL (N c)) from nd.2.2.2.2.1, ndL_len hN hc] at ev4
        subst ev4
        intro P135 h135
        have hwl2 := flS_len hN (p := p + 1) (t := tt + if ndR (N c) < 0 then 1 else 0) (fun x hx => (hso2 x hx).1)
        rw [← hdr2, List.length_drop, List.length_append, List.length_map] at hwl2
        have inner : ∀ (k : Nat) (B : zI), k ≤ (ndC (N c)).length → eqQ Qft I B → LdM B (flR N R) (n - 1) (p + 1) → StkM B (((ndC (N c)).drop k).map (fun c' => (c', p, dd + 1)) ++ w') → (∀ (i : Nat) (y : Fl), (flR N R)[i]? = some y → ((i = 0 ∨ y.2.1 < p) ∨ (1 ≤ i ∧ y.2.1 = p ∧ ∃ j, k ≤ j ∧ (ndC (N c))[j]? = some y.1)) → PaM B N (flR N R) i y) → P135 (zi (((ndC (N c)).drop k).map (fun c' => (c', p, dd + 1)) ++ w').length) (zi k - 1) B := by
          intro k
          induction k with
          | zero =>
            intro B hk qB ldB sxB paB
            refine h135 _ _ _ ?_
            rw [if_pos (show zi 0 - 1 < 0 by decide), List.drop_zero]
            rw [List.drop_zero] at sxB
            refine ih (p + 1) _ _ B (by omega) hdr2 hso2 htw2 sxB ldB (fun i y hy hi => ?_) qB
            by_cases u : i = 0 ∨ y.2.1 < p
            · exact paB i y hy (Or.inl u)
            · have hi1 : 1 ≤ i := by omega
              obtain ⟨y', i', b1, b2, b3, b4, -⟩ := (fl_in hN R hR _ _ _ _ _ _ hy).2.1 hi1
              have hip : i' = p := by omega
              subst hip
              have b3' : (flR N R)[i']? = some y' := b3
              rw [hx] at b3'
              cases b3'
              rw [hx1] at b4
              obtain ⟨j, hj⟩ := List.mem_iff_getElem?.mp b4
              exact paB i y hy (Or.inr ⟨hi1, by omega, j, Nat.zero_le j, hj⟩)
          | succ k ihk =>
            intro B hk qB ldB sxB paB
            refine h135 _ _ _ ?_
            rw [show zi (k + 1) - 1 = zi k from zi_sub (b := 1) (by omega), if_neg (zi_pos (by omega))]
            have hz : (ndC (N c))[k]? = some ((ndC (N c))[k]'(by omega)) := List.getElem?_eq_getElem (by omega)
            have hdk : (ndC (N c)).drop k = ((ndC (N c))[k]'(by omega)) :: (ndC (N c)).drop (k + 1) := List.drop_eq_getElem_cons (by omega)
            generalize (ndC (N c))[k]'(by omega) = z at hz hdk
            have hzm := hN.lt hc (List.mem_of_getElem? hz)
            obtain ⟨i', yz, y1, y2, y3, y4, -⟩ := fl_ch hN hR hx (by rw [hx1]; exact hz)
            rw [show 4 * zi c + zi k = zi (4 * c + k) by rw [show (4 : Int32) = zi 4 from rfl, zi_mul, zi_add]]
            refine ⟨(zin_iff (by omega)).mpr (by omega), fun v5 ev5 => ?_⟩
            rw [zi_tn (show 4 * c + k < 2147483648 by omega), show B.1 513 (4 * c + k) = zi z from ((kp1 _ qB).2 c hc).2.2.2.2.2.1 k z hz] at ev5
            subst ev5
            have hzin : vp_in (zi z) 3700 := (zin_iff (by omega)).mpr (by omega)
            rw [zi_tn (show z < 2147483648 by omega)]
            have hcl : (((ndC (N c)).drop (k + 1)).map (fun c' => (c', p, dd + 1)) ++ w').length = (ndC (N c)).length - (k + 1) + w'.length := by
              rw [List.length_append, List.length_map, List.length_drop]
            rw [hcl]
            refine ⟨hzin, fun I33 e33 => ⟨hzin, fun I34 e34 => ⟨(zin_iff (by omega)).mpr (by omega), fun I35 e35 v2' ev2' v4' ev4' => ?_⟩⟩⟩
            rw [zi_tn (show (ndC (N c)).length - (k + 1) + w'.length < 2147483648 by omega)] at e35
            rw [zi_succ] at ev2'
            subst ev2'
            have e5 : v4' = zi k - 1 := by
              rw [ev4', Int32.sub_eq_add_neg]
            subst e5
            have oB : ∀ a j, ¬ (a = 524 ∧ j = z) → ¬ (a = 525 ∧ j = z) → ¬ (a = 527 ∧ j = (ndC (N c)).length - (k + 1) + w'.length) → I35.1 a j = B.1 a j := fun a j u1 u2 u3 => by
              rw [e35, zu_at, if_neg u3, e34, zu_at, if_neg u2, e33, zu_at, if_neg u1]
            have hcl2 : (((ndC (N c)).drop k).map (fun c' => (c', p, dd + 1)) ++ w').length = (ndC (N c)).length - (k + 1) + w'.length + 1 := by
              rw [List.length_append, List.length_map, List.length_drop]
              omega
            have key := ihk I35 (by omega) (by
              rw [e35, e34, e33]
              exact ((qB.zu (Or.inr (by omega))).zu (Or.inr (by omega))).zu (Or.inr (by omega))) ⟨by rw [oB _ _ (by omega) (by omega) (by omega)]; exact ldB.1, fun i y hi hy => by
                obtain ⟨b1, b2, o, b3, b4, b5⟩ := ldB.2.1 i y hi hy
                rw [oB 521 _ (by omega) (by omega) (by omega), oB 523 _ (by omega) (by omega) (by omega)]
                exact ⟨b1, b2, o, b3, by rw [oB 526 _ (by omega) (by omega) (by omega)]; exact b4, b5⟩, fun c' hc' hno => by
                rw [oB 523 _ (by omega) (by omega) (by omega)]
                exact ldB.2.2 c' hc' hno⟩ (by
              rw [hdk]
              refine ⟨?_, ?_⟩
              · show I35.1 527 (((ndC (N c)).drop (k + 1)).map (fun c' => (c', p, dd + 1)) ++ w').length = _
                rw [hcl, e35, zu_self]
              · refine StkM.kp sxB (fun j hj => ?_)
                change j < (((ndC (N c)).drop (k + 1)).map (fun c' => (c', p, dd + 1)) ++ w').length at hj
                rw [hcl] at hj
                exact oB _ _ (by omega) (by omega) (by omega)) (fun i y hy hor => by
              by_cases uz : y.1 = z
              · have hii := fg.2.1 i i' y yz hy y2 (uz.trans y3.symm)
                subst hii
                have y2' : (flR N R)[i]? = some yz := y2
                rw [hy] at y2'
                cases y2'
                refine ⟨fun u => by omega, fun _ => ⟨x, k, by rw [y4, Nat.zero_add]; exact hx, by rw [hx1, uz]; exact hz, ?_, ?_⟩⟩
                · rw [hx1, uz, e35, zu_oo (by decide), e34, zu_oo (by decide), e33, zu_self]
                · rw [uz, e35, zu_oo (by decide), e34, zu_self]
              · have hb : PaM B N (flR N R) i y := by
                  refine paB i y hy ?_
                  rcases hor with u | ⟨u1, u2, j, u3, u4⟩
                  · exact Or.inl u
                  · by_cases uj : j = k
                    · subst uj
                      rw [hz] at u4
                      exact absurd (Option.some.inj u4).symm uz
                    · exact Or.inr ⟨u1, u2, j, by omega, u4⟩
                obtain ⟨b1, b2⟩ := hb
                refine ⟨fun u => by rw [oB 524 _ (fun v => uz v.2) (by omega) (by omega)]; exact b1 u, fun u => ?_⟩
                obtain ⟨y', j, c1, c2, c3, c4⟩ := b2 u
                exact ⟨y', j, c1, c2, by rw [oB 524 _ (fun v => uz v.2) (by omega) (by omega)]; exact c3, by rw [oB 525 _ (by omega) (fun v => uz v.2) (by omega)]; exact c4⟩)
            rw [hcl2] at key
            exact key
        have hin := inner (ndC (N c)).length I26 (Nat.le_refl _) q26 ld26 (by
          rw [List.drop_length]
          exact StkM.kp k2 (fun j _ => o26 _ _ (by omega) (by omega) (by omega) (by omega))) (fun i y hy hor => by
          rcases hor with u | ⟨-, -, j, u3, u4⟩
          · obtain ⟨b1, b2⟩ := hpa i y hy u
            refine ⟨fun u => by rw [o26 524 _ (by omega) (by omega) (by omega) (by omega)]; exact b1 u, fun u => ?_⟩
            obtain ⟨y', j, c1, c2, c3, c4⟩ := b2 u
            exact ⟨y', j, c1, c2, by rw [o26 524 _ (by omega) (by omega) (by omega) (by omega)]; exact c3, by rw [o26 525 _ (by omega) (by omega) (by omega) (by omega)]; exact c4⟩
          · have := (List.getElem?_eq_some_iff.mp u4).1
            omega)
        rw [List.drop_length] at hin
        exact hin
      rw [show I26.1 509 c = Int32.ofInt (ndR (N c)) from nd.1]
      rcases hN c hc with ⟨e1, -⟩ | ⟨r, s, hr, -, e3', -⟩
      · rw [e1] at rest ⊢
        rw [if_pos (by decide)] at rest
        rw [if_neg (show ¬ (0 : Int32) ≤ Int32.ofInt (-2) by decide)]
        intro v ev
        rw [ev, zi_succ]
        exact rest
      · rw [e3'] at rest ⊢
        rw [if_neg (by omega), Nat.add_zero] at rest
        rw [zi_int r, if_pos (zi_ge (by omega))]
        exact rest
  refine main (flR N R).length 0 0 [(R, 0, 1)] I6 (by omega) ?_ ?_ ?_ ⟨?_, trivial⟩ ⟨?_, fun i x hi _ => by omega, fun c hc hno => ?_⟩ (fun i x hx hi => ?_) q6
  · rw [List.drop_zero]
    show fl N R 0 0 0 1 = fl N R 0 0 0 1 ++ []
    rw [List.append_nil]
  · intro x hx
    cases List.mem_singleton.mp hx
    exact ⟨hR, Nat.le_refl 1, fun u => absurd rfl u⟩
  · rw [tkW_cons]
    show 0 + (ndT (N R) + 0) = n - 1
    omega
  · show I6.1 527 0 = zi R
    rw [e6, zu_oo (by decide), e5, zu_oo (by decide), e4]
    exact zu_self
  · rw [e6, zu_oo (by decide), e5, zu_oo (by decide), e4, zu_oo (by decide), e3, zu_self]
    rfl
  · rw [e6, zu_oo (by decide), e5, zu_oo (by decide), e4, zu_oo (by decide), e3, zu_oo (by decide)]
    exact hJ c hc
  · have hi0 : i = 0 := by omega
    subst hi0
    have h0 : (flR N R)[0]? = some (flH N R 0 0 1) := fl_0 hN hR
    rw [hx] at h0
    cases h0
    refine ⟨fun _ => ?_, fun u => by omega⟩
    show I6.1 524 R = -2
    rw [e6, zu_oo (by decide), e5, zu_self]
