/-! ===== a TREE grown ===== -/
theorem NdE.tr {x y z : Nd} (h1 : NdE x y) (h2 : NdE y z) : NdE x z := by
  obtain ⟨a1, a2, a3, a4, a5, a6⟩ := h1
  obtain ⟨b1, b2, b3, b4, b5, b6⟩ := h2
  exact ⟨b1.trans a1, b2.trans a2, b3.trans a3, b4.trans a4, b5.trans a5, b6.trans a6⟩
/-- what holds of each step holds at the end -/
theorem gRun_inv {F : List Fl} {A B n n' e m1 : Nat} {g kd : Nat → Nat} (ge : GE F A B n n' g kd) {P : Gs → Prop} (hP : ∀ (x y : Gs) (k : Nat), GI F n n' g kd m1 x.1 x.2.1 x.2.2.1 x.2.2.2.1 k → P x → gNx F A B n n' g e x.1 x.2.1 x.2.2.1 x.2.2.2.1 x.2.2.2.2 = some y → P y) : ∀ (d k : Nat) (x : Gs), GI F n n' g kd m1 x.1 x.2.1 x.2.2.1 x.2.2.2.1 k → P x → P (gRun F A B n n' g e d k x).2
  | 0, k, x, h, p => p
  | d + 1, k, x, h, p => by
    rw [gRun_at]
    cases e1 : gNx F A B n n' g e x.1 x.2.1 x.2.2.1 x.2.2.2.1 x.2.2.2.2 with
    | none => exact p
    | some y => exact gRun_inv ge hP d (k + 1) y (h.nx ge e1) (hP x y k h p e1)
theorem gNx_E {F : List Fl} {A B n n' e i m tk : Nat} {g : Nat → Nat} {N : Nat → Nd} {st : List (Nat × Nat)} {y : Gs} (e1 : gNx F A B n n' g e i m N st tk = some y) : m ≤ y.2.1 ∧ ∀ c, c < m → NdE (N c) (y.2.2.1 c) := by
  unfold gNx at e1
  cases hb : bestOf F N A B n n' i (topS st) (g i) with
  | some b =>
    rw [hb] at e1
    cases e1
    exact ⟨Nat.le_refl _, fun c _ => NdE.rf⟩
  | none =>
    rw [hb] at e1
    by_cases hz : ldN (topS st) (ndM (N (g i))) = 0
    · rw [if_pos hz] at e1
      cases hr : rlN (topS st) with
      | none =>
        rw [hr] at e1
        cases e1
      | some r =>
        rw [hr] at e1
        cases e1
        exact ⟨Nat.le_succ _, fun c hc => by dsimp only; rw [upN_o (by omega)]; exact NdE.rf⟩
    · rw [if_neg hz] at e1
      cases e1
      exact ⟨Nat.le_refl _, fun c _ => upN_stE c⟩
theorem tb1 : tbP.getD 1 [] = [0] := by decide +kernel
/-- in STATE 1 there is one node on the stack -/
theorem st_one {m : Nat} {st : List (Nat × Nat)} (hP : StP st) (ok : StOk m st) (h1 : 1 ≤ st.length) (ht : topS st = 1) : ∃ p q : Nat × Nat, st = [p, q] ∧ q.2 = 1 := by
  obtain ⟨p0, t1, t2⟩ := top_at h1
  have hl : st.length ≠ 1 := fun u => by
    rw [u] at t1
    have := hP.1 p0 t1
    omega
  have hq : st[st.length - 2]? = some (st[st.length - 2]'(by omega)) := List.getElem?_eq_getElem (by omega)
  obtain ⟨y, hy, e, e0⟩ := hP.2 (st.length - 2) _ p0 hq (by rw [show st.length - 2 + 1 = st.length - 1 by omega]; exact t1)
  have hm := tbP_fin _ (ok _ _ hq).1 y hy (by rw [e]; exact e0)
  rw [e, t2, ht, tb1] at hm
  have h0 := List.mem_singleton.mp hm
  have hl2 : st.length = 2 := by
    refine Nat.le_antisymm (Nat.le_of_not_lt (fun u => ?_)) (by omega)
    have hr : st[st.length - 3]? = some (st[st.length - 3]'(by omega)) := List.getElem?_eq_getElem (by omega)
    obtain ⟨y2, -, -, e2⟩ := hP.2 (st.length - 3) _ _ hr (by rw [show st.length - 3 + 1 = st.length - 2 by omega]; exact hq)
    exact e2 h0
  have hpq : ∃ p q : Nat × Nat, st = [p, q] := by
    match st, hl2 with
    | [p, q], _ => exact ⟨p, q, rfl⟩
  obtain ⟨p, q, hst⟩ := hpq
  refine ⟨p, q, hst, ?_⟩
  rw [hst] at t1
  have e2 : q = p0 := Option.some.inj t1
  rw [e2, t2, ht]
/-- the TREE that is grown, if the text is good -/
theorem grown_ok {t t' : Nat → Int32} {l l' : List (Nat × Nat × Nat)} {og g : Nat → Nat} {e m0 m1 R k : Nat} {N0 N1 : Nat → Nd} {y : Gs} (h0 : NdOk m0 N0) (hu : UqE m0 N0) (t0 : TreeI m0 N0 R l'.length og) (tk0 : TkI N0 t' l' og) (hl : LxO t l) (hl' : LxO t' l') (hn : namF t l (kAhead t' l' t l) (kBehind t' l' t l) l'.length og e l.length 0 m0 (fun _ => 0) N0 = (m1, g, N1))
    (hr : gRun (flR N0 R) (kAhead t' l' t l) (kBehind t' l' t l) l.length l'.length g e 2000 0 (0, m1, N1, [(0, 0)], 0) = (k, y)) :
    (∀ k, k < m0 → y.2.2.1 k = N0 k) ∧ m1 ≤ y.2.1 ∧ y.2.1 ≤ m1 + 149 ∧ NdOk y.2.1 y.2.2.1 ∧ UqE y.2.1 y.2.2.1 ∧ TkI y.2.2.1 t l g ∧ (y.1 + 1 = l.length → topS y.2.2.2.1 = 1 → ∃ (b : Nat × Nat) (R' : Nat), y.2.2.2.1 = [b, (R', 1)] ∧ TreeI y.2.1 y.2.2.1 R' l.length g) := by
  obtain ⟨ge, gi, gj, hog, hnew, hm0, hm1, htk, hinj⟩ := naming_ok (g := g) h0 hu t0 tk0 hl hl' hn
  obtain ⟨k', y', e1, gi', hnone⟩ := gRun_end (e := e) ge 2000 0 (0, m1, N1, [(0, 0)], 0) gi (by omega)
  rw [hr] at e1
  cases e1
  have hJ := gRun_inv (e := e) ge (P := fun x => GJ m0 N0 g x.1 x.2.1 x.2.2.1 x.2.2.2.1) (fun x y k hx hp he => hp.nx h0 t0 hog hnew hm0 ge hx he) 2000 0 (0, m1, N1, [(0, 0)], 0) gi gj
  have hE := gRun_inv (e := e) ge (P := fun x => m1 ≤ x.2.1 ∧ ∀ c, c < m1 → NdE (N1 c) (x.2.2.1 c)) (fun x y k hx hp he => by
    obtain ⟨p1, p2⟩ := hp
    obtain ⟨q1, q2⟩ := gNx_E he
    exact ⟨by omega, fun c hc => (p2 c hc).tr (q2 c (by omega))⟩) 2000 0 (0, m1, N1, [(0, 0)], 0) gi ⟨Nat.le_refl _, fun c _ => NdE.rf⟩
  rw [hr] at hJ hE
  dsimp only at hJ hE
  obtain ⟨b1, b2, b3, b4⟩ := gi'.bd ge.1
  obtain ⟨v1, ⟨s1, s2, s3, s4⟩, v3, v4, v5, v6, v7⟩ := id gi'
  obtain ⟨j1, j2, j3, j4, j5, j6⟩ := hJ
  refine ⟨j6, b2, b3, v5, j3, fun i x hx => ?_, fun hi ht => ?_⟩
  · obtain ⟨c1, c2⟩ := htk i x hx
    have hil := (List.getElem?_eq_some_iff.mp hx).1
    have hgm := (gi.2.2.2.2.2.2 i hil).1
    obtain ⟨-, d2, -, -, -, d6⟩ := hE.2 (g i) hgm
    exact ⟨by rw [d2, c1], by rw [d6, c2]⟩
  · obtain ⟨b, q, hst, hq⟩ := st_one s2 s3 s1 ht
    obtain ⟨R', s⟩ := q
    change s = 1 at hq
    subst hq
    refine ⟨b, R', hst, ?_⟩
    have hin : y.2.2.2.1[1]? = some (R', 1) := by
      rw [hst]
      rfl
    have hd1 : y.2.2.2.1.drop 1 = [(R', 1)] := by
      rw [hst]
      rfl
    rw [hd1] at j1 j2
    rw [List.flatMap_cons, List.flatMap_nil, List.append_nil] at j1
    refine ⟨(s3 1 _ hin).2 (Nat.le_refl 1), ?_, ?_, hinj, fun i hi' => ?_, fun z hz => j2 _ (List.mem_singleton.mpr rfl) z hz, hl.2.1, hl.2.2.1⟩
    · rw [s4 1 _ (Nat.le_refl 1) hin]
      rfl
    · rw [show l.length - 1 = y.1 by omega]
      exact j1
    · obtain ⟨w1, w2, w3⟩ := v7 i hi'
      exact ⟨w1, w2⟩
