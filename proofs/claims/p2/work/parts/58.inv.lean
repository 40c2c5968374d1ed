/-! ===== what nodes are; what holds as a tree grows ===== -/
def NdO (N : Nat → Nd) (k : Nat) : Prop :=
  (ndR (N k) = -2 ∧ ndC (N k) = [] ∧ ndK (N k) < 12 ∧ ndT (N k) = 1 ∧ (ndS (N k) = -2 ∨ ∃ s : Nat, s < 21 ∧ ndS (N k) = s)) ∨
  (∃ r s : Nat, r < 11 ∧ s < 21 ∧ ndR (N k) = r ∧ ndS (N k) = s ∧ ldN s (syN r) ≠ 0 ∧ (ndC (N k)).map (fun c => ndM (N c)) = rhS r ∧ (∀ c ∈ ndC (N k), c < k) ∧ ndT (N k) = tkS N (ndC (N k)))
def NdOk (m : Nat) (N : Nat → Nd) : Prop := ∀ k, k < m → NdO N k
theorem NdOk.ch {m : Nat} {N : Nat → Nd} (h : NdOk m N) : ∀ k, k < m → (ndC (N k)).length ≤ 4 := fun k hk => by
  rcases h k hk with ⟨-, e, -⟩ | ⟨r, s, hr, -, -, -, -, e, -⟩
  · rw [e]
    exact Nat.zero_le 4
  · have h1 := congrArg List.length e
    rw [List.length_map, (rh_fin r hr).1] at h1
    have := (ln_fin r hr).2
    change lnN r ≤ 4 at this
    omega
theorem NdOk.sta {m : Nat} {N : Nat → Nd} (h : NdOk m N) : ∀ k, k < m → ndS (N k) = -2 ∨ ∃ s : Nat, s < 21 ∧ ndS (N k) = s := fun k hk => by
  rcases h k hk with ⟨-, -, -, -, e⟩ | ⟨r, s, -, hs, -, e, -⟩
  · exact e
  · exact Or.inr ⟨s, hs, e⟩
theorem NdOk.sym {m : Nat} {N : Nat → Nd} (h : NdOk m N) : ∀ k, k < m → ndM (N k) < 17 := fun k hk => by
  unfold ndM
  rcases h k hk with ⟨e, -, e2, -⟩ | ⟨r, s, hr, -, e, -⟩
  · rw [e, if_pos (by decide)]
    omega
  · rw [e, if_neg (by omega)]
    have := (sy_fin r hr).2
    change syN r < 5 at this
    show syN r < 17
    omega
/-- alike but for STATES -/
def NdE (x y : Nd) : Prop := ndR y = ndR x ∧ ndK y = ndK x ∧ ndT y = ndT x ∧ ndB y = ndB x ∧ ndC y = ndC x ∧ ndY y = ndY x
theorem stNd_E {x : Nd} {s : Nat} : NdE x (stNd x s) := by
  unfold stNd
  by_cases h : 0 ≤ ndS x
  · rw [if_pos h]
    exact ⟨rfl, rfl, rfl, rfl, rfl, rfl⟩
  · rw [if_neg h]
    exact ⟨rfl, rfl, rfl, rfl, rfl, rfl⟩
theorem NdE.M {x y : Nd} (h : NdE x y) : ndM y = ndM x := by
  unfold ndM
  rw [h.1, h.2.1]
theorem tkS_cg {N N' : Nat → Nd} {l : List Nat} (h : ∀ c ∈ l, ndT (N' c) = ndT (N c)) : tkS N' l = tkS N l := by
  unfold tkS
  rw [List.map_congr_left h]
/-- nodes of a TREE alike but for STATES; STATES, if any, stay -/
theorem NdO.cg {k : Nat} {N N' : Nat → Nd} (h : NdO N k) (e : ∀ c, c ≤ k → NdE (N c) (N' c)) (hs : ndS (N' k) = ndS (N k) ∨ (ndS (N k) < 0 ∧ ∃ s : Nat, s < 21 ∧ ndS (N' k) = s)) : NdO N' k := by
  obtain ⟨e1, e2, e3, e4, e5, e6⟩ := e k (Nat.le_refl k)
  unfold NdO
  rw [e1, e2, e3, e5]
  rcases h with ⟨q1, q2, q3, q4, q5⟩ | ⟨r, s, q1, q2, q3, q4, q5, q6, q7, q8⟩
  · refine Or.inl ⟨q1, q2, q3, q4, ?_⟩
    rcases hs with u | ⟨-, u⟩
    · rw [u]
      exact q5
    · exact Or.inr u
  · refine Or.inr ⟨r, s, q1, q2, q3, ?_, q5, ?_, q7, ?_⟩
    · rcases hs with u | ⟨u, -⟩
      · rw [u]
        exact q4
      · omega
    · rw [← q6]
      exact List.map_congr_left (fun c hc => (e c (by have := q7 c hc; omega)).M)
    · rw [q8]
      exact (tkS_cg (fun c hc => (e c (by have := q7 c hc; omega)).2.2.1)).symm
theorem upN_stE {N : Nat → Nd} {c s : Nat} (k : Nat) : NdE (N k) (upN N c (stNd (N c) s) k) := by
  by_cases u : k = c
  · subst u
    rw [upN_self]
    exact stNd_E
  · rw [upN_o u]
    exact ⟨rfl, rfl, rfl, rfl, rfl, rfl⟩
theorem upN_stS {N : Nat → Nd} {c s : Nat} (k : Nat) : ndS (upN N c (stNd (N c) s) k) = ndS (N k) ∨ (ndS (N k) < 0 ∧ ndS (upN N c (stNd (N c) s) k) = (s : Int)) := by
  by_cases u : k = c
  · subst u
    rw [upN_self]
    unfold stNd
    by_cases h : 0 ≤ ndS (N k)
    · rw [if_pos h]
      exact Or.inl rfl
    · rw [if_neg h]
      exact Or.inr ⟨by omega, rfl⟩
  · rw [upN_o u]
    exact Or.inl rfl
theorem NdOk.st {m c s : Nat} {N : Nat → Nd} (h : NdOk m N) (hs : s < 21) : NdOk m (upN N c (stNd (N c) s)) := fun k hk =>
  (h k hk).cg (fun c _ => upN_stE c) ((upN_stS k).imp id (fun q => ⟨q.1, s, hs, q.2⟩))
/-- what is on the stack has the symbols by which its STATES are come to -/
def StA (N : Nat → Nd) (st : List (Nat × Nat)) : Prop := ∀ (j : Nat) (p : Nat × Nat), 1 ≤ j → st[j]? = some p → ndM (N p.1) = acS p.2
theorem StA.cg {m : Nat} {N N' : Nat → Nd} {st : List (Nat × Nat)} (h : StA N st) (ok : StOk m st) (e : ∀ c, c < m → ndM (N' c) = ndM (N c)) : StA N' st := fun j p hj hp => by
  rw [e p.1 ((ok j p hp).2 hj)]
  exact h j p hj hp
theorem StA.take {N : Nat → Nd} {st : List (Nat × Nat)} {n : Nat} (h : StA N st) : StA N (st.take n) := fun j p hj hp => by
  by_cases u : j < n
  · rw [List.getElem?_take, if_pos u] at hp
    exact h j p hj hp
  · rw [List.getElem?_take, if_neg u] at hp
    cases hp
theorem StA.snoc {N : Nat → Nd} {st : List (Nat × Nat)} {c s : Nat} (h : StA N st) (e : ndM (N c) = acS s) : StA N (st ++ [(c, s)]) := fun j p hj hp => by
  by_cases u : j < st.length
  · rw [List.getElem?_append_left u] at hp
    exact h j p hj hp
  · have hq2 := (List.getElem?_eq_some_iff.mp hp).1
    rw [List.length_append] at hq2
    have hj : j = st.length := by
      have : [(c, s)].length = 1 := rfl
      omega
    rw [hj, List.getElem?_append_right (Nat.le_refl _), Nat.sub_self] at hp
    cases hp
    exact e
theorem FlG.cg {m m' n' : Nat} {F : List Fl} {N N' : Nat → Nd} (h : FlG m F N n') (hm : m ≤ m') (e : ∀ c, c < m → NdE (N c) (N' c)) (e2 : ∀ c, c < m → 0 ≤ ndS (N c) → ndS (N' c) = ndS (N c)) : FlG m' F N' n' := by
  obtain ⟨h1, h2, h3⟩ := h
  refine ⟨⟨h1.1, fun p x hp => ⟨Nat.lt_of_lt_of_le (h1.2 p x hp).1 hm, (h1.2 p x hp).2⟩⟩, h2, fun p x hp => ?_⟩
  obtain ⟨a1, ⟨k, k1, k2⟩, a3⟩ := h3 p x hp
  have hx := (h1.2 p x hp).1
  rw [(e _ hx).2.2.1]
  refine ⟨a1, ⟨k, k1, ?_⟩, fun q => ?_⟩
  · rw [e2 _ hx (by omega)]
    exact k2
  · obtain ⟨y, r, y1, y2, y3, y4⟩ := a3 q
    refine ⟨y, r, y1, y2, ?_, y4⟩
    rw [(e _ (h1.2 _ y y1).1).1]
    exact y3
/-- the new tokens and the flat TREE: what does not change as it grows -/
def GE (F : List Fl) (A B n n' : Nat) (g kd : Nat → Nat) : Prop :=
  n ≤ 100 ∧ n' ≤ 100 ∧ A + B ≤ n ∧ A + B ≤ n' ∧ 1 ≤ B ∧ (∀ i, i < n → kd i < 12 ∧ (kd i = 10 ↔ i + 1 = n)) ∧
  ∀ i, i < n → ∀ j, wasN A B n n' i = some j → (j + 1 = n' → ∀ (p : Nat) (x : Fl), F[p]? = some x → x.1 ≠ g i) ∧ (j + 1 < n' → ∃ (p : Nat) (x : Fl), F[p]? = some x ∧ x.1 = g i ∧ 1 ≤ p ∧ x.2.2.1 = (j : Int))
/-- k steps done, m1 nodes ahead of the first -/
def GI (F : List Fl) (n n' : Nat) (g kd : Nat → Nat) (m1 i m : Nat) (N : Nat → Nd) (st : List (Nat × Nat)) (k : Nat) : Prop :=
  i < n ∧ (1 ≤ st.length ∧ StP st ∧ StOk m st ∧ StA N st) ∧ 8 * st.length + rkS (topS st) + 18 * (n - 1 - i) + k ≤ 1900 ∧ (m1 ≤ m ∧ (2 : Int) * ((m : Int) - m1) ≤ 3 * i + wSum st) ∧ NdOk m N ∧ FlG m F N n' ∧ ∀ i, i < n → g i < m ∧ ndR (N (g i)) = -2 ∧ ndK (N (g i)) = kd i
theorem wasN_lt {A B n n' i j : Nat} (hi : i < n) (hA : A ≤ n') (hB : B ≤ n') (hBn : B ≤ n) (hw : wasN A B n n' i = some j) : j < n' := by
  unfold wasN at hw
  by_cases c1 : i < A
  · rw [if_pos c1] at hw
    cases hw
    omega
  · rw [if_neg c1] at hw
    by_cases c2 : n - B ≤ i
    · rw [if_pos c2] at hw
      cases hw
      omega
    · rw [if_neg c2] at hw
      cases hw
/-- a sound node's tokens lie ahead of END -/
theorem snd_in {A B n n' i j f : Nat} (hAn : A + B ≤ n) (hAn' : A + B ≤ n') (hB : 1 ≤ B) (hw : wasN A B n n' i = some j) (hs : sndP A B n' n j f) (hf : j + f < n') (hf1 : 1 ≤ f) : i + f < n := by
  unfold wasN at hw
  have a0 : sndP A B n' n j f = (j + f < A ∨ n' - B ≤ j ∨ (A + B = n' ∧ n' = n)) := rfl
  rw [a0] at hs
  by_cases c1 : i < A
  · rw [if_pos c1] at hw
    cases hw
    omega
  · rw [if_neg c1] at hw
    by_cases c2 : n - B ≤ i
    · rw [if_pos c2] at hw
      cases hw
      omega
    · rw [if_neg c2] at hw
      cases hw
theorem GE.cw {F : List Fl} {A B n n' m i : Nat} {g kd : Nat → Nat} {N : Nat → Nd} (ge : GE F A B n n' g kd) (hF : FlG m F N n') (hi : i < n) : ∀ j, wasN A B n n' i = some j → ∀ (p : Nat) (x : Fl), F[p]? = some x → x.1 = g i → 1 ≤ p ∧ 0 ≤ x.2.2.1 := by
  intro j hw p x hp hx
  obtain ⟨g1, g2, g3, g4, g5, g6, g7⟩ := ge
  have hj := wasN_lt hi (by omega) (by omega) (by omega) hw
  obtain ⟨w1, w2⟩ := g7 i hi j hw
  by_cases c : j + 1 = n'
  · exact absurd hx (w1 c p x hp)
  · obtain ⟨p', x', a1, a2, a3, a4⟩ := w2 (by omega)
    have : p = p' := hF.2.1 p p' x x' hp a1 (hx.trans a2.symm)
    subst this
    rw [hp] at a1
    cases a1
    exact ⟨a3, by omega⟩
/-- what is taken is a node by a RULE, begun in the STATE, with TOKENS that lie ahead of END -/
theorem GI.taken {F : List Fl} {A B n n' m1 i m k b : Nat} {g kd : Nat → Nat} {N : Nat → Nd} {st : List (Nat × Nat)} (ge : GE F A B n n' g kd) (h : GI F n n' g kd m1 i m N st k) (hb : bestOf F N A B n n' i (topS st) (g i) = some b) : b < m ∧ ∃ r : Nat, r < 11 ∧ ndR (N b) = (r : Int) ∧ ndM (N b) = syN r ∧ ldN (topS st) (syN r) ≠ 0 ∧ 1 ≤ ndT (N b) ∧ i + ndT (N b) < n := by
  obtain ⟨hi, ⟨s1, s2, s3, s4⟩, hf, ⟨hm1, hmk⟩, hN, hF, hg⟩ := h
  obtain ⟨j, hj, p, x, r, b1, b2, b3, b4, b5, b6, b7⟩ := bestOf_ok hF (ge.cw hF hi) hb
  obtain ⟨g1, g2, g3, g4, g5, g6, g7⟩ := ge
  have hbm : b < m := b2 ▸ (hF.1.2 p x b1).1
  have hsy : ndM (N b) = syN r := by
    unfold ndM
    rw [b5, if_neg (by omega)]
    rfl
  have hjn := wasN_lt hi (by omega) (by omega) (by omega) hj
  rcases (hF.2.2 p x b1).1 with hf | ⟨f, hf, hf1, hf2⟩
  · omega
  rw [b2] at hf1 hf2
  have hfj : f = j := by omega
  subst hfj
  refine ⟨hbm, r, b4, b5, hsy, ?_, hf1, snd_in (by omega) (by omega) (by omega) hj b7 hf2 hf1⟩
  rcases hN b hbm with ⟨q1, -⟩ | ⟨r', s', q1, q2, q3, q4, q5, -⟩
  · omega
  · have e1 : r' = r := by omega
    have e2 : s' = topS st := by omega
    rw [← e1, ← e2]
    exact q5
theorem GI.nx {F : List Fl} {A B n n' e m1 i m k tk : Nat} {g kd : Nat → Nat} {N : Nat → Nd} {st : List (Nat × Nat)} {y : Gs} (ge : GE F A B n n' g kd) (h : GI F n n' g kd m1 i m N st k) (e1 : gNx F A B n n' g e i m N st tk = some y) : GI F n n' g kd m1 y.1 y.2.1 y.2.2.1 y.2.2.2.1 (k + 1) := by
  have hT := fun b hb => GI.taken (b := b) ge h hb
  obtain ⟨g1, g2, g3, g4, g5, g6, g7⟩ := ge
  obtain ⟨hi, ⟨s1, s2, s3, s4⟩, hf, ⟨hm1, hmk⟩, hN, hF, hg⟩ := h
  obtain ⟨p0, t1, t2⟩ := top_at s1
  have hs21 : topS st < 21 := t2 ▸ (s3 _ p0 t1).1
  have hrk := rk_le _ hs21
  unfold gNx at e1
  cases hb : bestOf F N A B n n' i (topS st) (g i) with
  | some b =>
    rw [hb] at e1
    cases e1
    obtain ⟨hbm, r, b4, b5, hsy, hld, hf1, hin⟩ := hT b hb
    have hsy5 := (sy_fin r b4).2
    change syN r < 5 at hsy5
    rw [hsy]
    have hac := ac_fin _ hs21 (syN r) (by omega) hld
    have hcs : -2 ≤ cS (syN r) := by
      unfold cS
      repeat' split
      all_goals omega
    have hrk2 := rk_le _ (ldN_lt (s := topS st) (y := syN r) hs21 (by omega))
    have hlen : (st ++ [(b, ldN (topS st) (syN r))]).length = st.length + 1 := List.length_append
    dsimp only
    refine ⟨hin, ⟨by rw [hlen]; omega, s2.snoc t1 s1 (y := syN r) (by omega) (by rw [t2]) hld, s3.snoc hbm (ldN_lt hs21 (by omega)), s4.snoc (by rw [hsy, hac])⟩, ?_, ⟨hm1, ?_⟩, hN, hF, hg⟩
    · skip
      rw [hlen, topS_snoc]
      dsimp only
      omega
    · skip
      rw [wSum_snoc]
      dsimp only
      rw [hac]
      omega
  | none =>
    rw [hb] at e1
    obtain ⟨hgm, hgR, hgK⟩ := hg i hi
    by_cases hz : ldN (topS st) (ndM (N (g i))) = 0
    · rw [if_pos hz] at e1
      cases hr : rlN (topS st) with
      | none =>
        rw [hr] at e1
        cases e1
      | some r =>
        rw [hr] at e1
        cases e1
        have hr11 := rlN_lt hs21 hr
        obtain ⟨f1, f2⟩ := st_fits s2 s3 s1 t1 t2 hr
        obtain ⟨o1, o2⟩ := byT_ok s2 s3 s1 t1 t2 hr
        have hrh := st_rhs s2 s3 s1 t1 t2 hr
        obtain ⟨rh1, rh2⟩ := rh_fin r hr11
        have hsy5 := (sy_fin r hr11).2
        change syN r < 5 at hsy5
        have hbs : byS st r ∈ bkT (lnN r) (topS st) := by
          have := bk_mem s2 s3 t1 (lnN r) (st.getD (st.length - lnN r - 1) (0, 0)) (by omega) (by
            rw [show st.length - 1 - lnN r = st.length - lnN r - 1 by omega, List.getD_eq_getElem?_getD, List.getElem?_eq_getElem (by omega)]
            rfl)
          rw [t2] at this
          exact this
        have hb21 : byS st r < 21 := (s3 (st.length - lnN r - 1) (st.getD (st.length - lnN r - 1) (0, 0)) (by
            rw [List.getD_eq_getElem?_getD, List.getElem?_eq_getElem (by omega)]
            rfl)).1
        have hrk3 := (ru_fin2 hs21 hr).2 _ hbs
        have hac := ac_fin _ hb21 (syN r) (by omega) f2
        have hM : ndM (byN N st r e) = syN r := ndM_rl
        have hlen : (byT m st r).length = st.length - lnN r + 1 := by
          unfold byT
          rw [List.length_append, List.length_take, Nat.min_eq_left (by omega)]
          rfl
        have hE : ∀ c, c < m → NdE (N c) (upN N m (byN N st r e) c) := fun c hc => by
          rw [upN_o (by omega)]
          exact ⟨rfl, rfl, rfl, rfl, rfl, rfl⟩
        have hCm : ∀ c ∈ byC st r, c < m := fun c hc => by
          unfold byC at hc
          obtain ⟨p, hp, rfl⟩ := List.mem_map.mp hc
          obtain ⟨j, hj⟩ := List.mem_iff_getElem?.mp hp
          rw [List.getElem?_drop] at hj
          exact (s3 _ p hj).2 (by omega)
        dsimp only
        refine ⟨hi, ⟨by rw [hlen]; omega, o1, o2, ?_⟩, ?_, ⟨by omega, ?_⟩, fun k hk => ?_, hF.cg (Nat.le_succ m) hE (fun c hc _ => by rw [upN_o (by omega)]), fun i' hi' => ?_⟩
        · unfold byT
          exact ((s4.cg s3 (fun c hc => (hE c hc).M)).take).snoc (by rw [upN_self, hM, hac])
        · skip
          rw [hlen]
          unfold byT
          rw [topS_snoc]
          dsimp only
          omega
        · skip
          have hsp := wSum_split (st := st) (st.length - lnN r)
          have hdr : wSum (st.drop (st.length - lnN r)) = ((rhS r).map cS).sum := by
            unfold wSum
            rw [← hrh, List.map_map]
            rfl
          unfold byT
          rw [wSum_snoc]
          dsimp only
          rw [hac]
          omega
        · by_cases u : k = m
          · subst u
            refine Or.inr ⟨r, byS st r, hr11, hb21, ?_, ?_, f2, ?_, ?_, ?_⟩
            · rw [upN_self]
              rfl
            · rw [upN_self]
              rfl
            · rw [upN_self]
              show (byC st r).map _ = _
              rw [← hrh]
              unfold byC
              rw [List.map_map]
              refine List.map_congr_left (fun p hp => ?_)
              obtain ⟨j, hj⟩ := List.mem_iff_getElem?.mp hp
              rw [List.getElem?_drop] at hj
              show ndM (upN N k (byN N st r e) p.1) = acS p.2
              rw [upN_o (by have := (s3 _ p hj).2 (by omega); omega)]
              exact s4 _ p (by omega) hj
            · rw [upN_self]
              exact hCm
            · rw [upN_self]
              exact (tkS_cg (fun c hc => by rw [upN_o (by have := hCm c hc; omega)])).symm
          · refine (hN k (by omega)).cg (fun c hc => hE c (by omega)) (Or.inl ?_)
            rw [upN_o u]
        · obtain ⟨w1, w2, w3⟩ := hg i' hi'
          rw [upN_o (by omega)]
          exact ⟨by omega, w2, w3⟩
    · rw [if_neg hz] at e1
      cases e1
      have hM : ndM (N (g i)) = 5 + kd i := by
        unfold ndM
        rw [hgR, if_pos (by decide), hgK]
      obtain ⟨k1, k2⟩ := g6 i hi
      rw [hM] at hz ⊢
      have hac := ac_fin _ hs21 (5 + kd i) (by omega) hz
      have hin : i + 1 < n := by
        refine Nat.lt_of_le_of_ne (by omega) (fun u => ?_)
        have := k2.mpr u
        rw [this] at hz
        exact hz (end_fin _ hs21)
      have hrk2 := rk_le _ (ldN_lt (s := topS st) (y := 5 + kd i) hs21 (by omega))
      have hlen : (st ++ [(g i, ldN (topS st) (5 + kd i))]).length = st.length + 1 := List.length_append
      have hcs : cS (5 + kd i) = -3 := by
        unfold cS
        rw [if_neg (by omega), if_neg (by omega), if_neg (by omega), if_neg (by omega), if_neg (by omega), if_neg (by omega)]
      dsimp only
      refine ⟨hin, ⟨by rw [hlen]; omega, s2.snoc t1 s1 (y := 5 + kd i) (by omega) (by rw [t2]) hz, s3.snoc hgm (ldN_lt hs21 (by omega)), (s4.cg s3 (fun c _ => (upN_stE c).M)).snoc (by rw [(upN_stE (g i)).M, hM, hac])⟩, ?_, ⟨hm1, ?_⟩, hN.st hs21, hF.cg (Nat.le_refl m) (fun c _ => upN_stE c) (fun c _ hc => ?_), fun i' hi' => ?_⟩
      · skip
        rw [hlen, topS_snoc]
        dsimp only
        omega
      · skip
        rw [wSum_snoc]
        dsimp only
        rw [hac, hcs]
        omega
      · rcases upN_stS (N := N) (c := g i) (s := topS st) c with u | ⟨u, -⟩
        · exact u
        · omega
      · obtain ⟨w1, w2, w3⟩ := hg i' hi'
        obtain ⟨v1, v2, -⟩ := upN_stE (N := N) (c := g i) (s := topS st) (g i')
        exact ⟨w1, by rw [v1]; exact w2, by rw [v2]; exact w3⟩
