/-! ===== the model grows KINDS from nothing: wrongOf ===== -/
def lNx (kd : Nat → Nat) (i : Nat) (st : List (Nat × Nat)) : Option (Nat × List (Nat × Nat)) :=
  if ldN (topS st) (5 + kd i) = 0 then (match rlN (topS st) with
    | some r => some (i, byT 0 st r)
    | none => none)
  else some (i + 1, st ++ [(0, ldN (topS st) (5 + kd i))])
def lIt (kd : Nat → Nat) : Nat → Nat × List (Nat × Nat) → Option (Nat × List (Nat × Nat))
  | 0, x => some x
  | d + 1, x => (lIt kd d x).bind (fun y => lNx kd y.1 y.2)
def LI (e i : Nat) (st : List (Nat × Nat)) (k : Nat) : Prop :=
  i ≤ e ∧ 1 ≤ st.length ∧ StP st ∧ StOk 1 st ∧ 8 * st.length + rkS (topS st) + 18 * (e - i) + k ≤ 18 * e + 17
/-- KINDS up to e, where none leads on -/
def KdO (kd : Nat → Nat) (e : Nat) : Prop := (∀ i, i ≤ e → kd i < 12) ∧ ∀ s, s < 21 → ldN s (5 + kd e) = 0
theorem end_fin2 : ∀ s, s < 21 → ldN s (5 + 11) = 0 := by decide +kernel
theorem LI.st0 {e : Nat} : LI e 0 [(0, 0)] 0 := by
  refine ⟨Nat.zero_le _, Nat.le_refl _, ⟨fun p hp => ?_, fun j p q hp hq => ?_⟩, fun j p hp => ?_, ?_⟩
  · cases hp
    rfl
  · have := (List.getElem?_eq_some_iff.mp hq).1
    change j + 1 < 1 at this
    omega
  · have hj := (List.getElem?_eq_some_iff.mp hp).1
    have hj0 : j = 0 := by
      change j < 1 at hj
      omega
    subst hj0
    cases hp
    exact ⟨by decide, fun u => by omega⟩
  · show 8 * 1 + 9 + 18 * (e - 0) + 0 ≤ 18 * e + 17
    omega
theorem LI.nx {kd : Nat → Nat} {e i k : Nat} {st : List (Nat × Nat)} {y : Nat × List (Nat × Nat)} (hk : KdO kd e) (h : LI e i st k) (h2 : lNx kd i st = some y) : LI e y.1 y.2 (k + 1) := by
  obtain ⟨h1, s1, s2, s3, h5⟩ := h
  obtain ⟨p0, t1, t2⟩ := top_at s1
  have hs21 : topS st < 21 := t2 ▸ (s3 _ p0 t1).1
  unfold lNx at h2
  by_cases hz : ldN (topS st) (5 + kd i) = 0
  · rw [if_pos hz] at h2
    cases hr : rlN (topS st) with
    | none =>
      rw [hr] at h2
      cases h2
    | some r =>
      rw [hr] at h2
      cases h2
      have hr11 := rlN_lt hs21 hr
      obtain ⟨f1, f2⟩ := st_fits s2 s3 s1 t1 t2 hr
      obtain ⟨o1, o2⟩ := byT_ok s2 s3 s1 t1 t2 hr
      have hb : st[st.length - lnN r - 1]? = some (st.getD (st.length - lnN r - 1) (0, 0)) := by
        rw [List.getD_eq_getElem?_getD, List.getElem?_eq_getElem (by omega)]
        rfl
      have hbs : byS st r ∈ bkT (lnN r) (topS st) := by
        have := bk_mem s2 s3 t1 (lnN r) (st.getD (st.length - lnN r - 1) (0, 0)) (by omega) (by
          rw [show st.length - 1 - lnN r = st.length - lnN r - 1 by omega]
          exact hb)
        rw [t2] at this
        exact this
      have hb21 : byS st r < 21 := (s3 _ _ hb).1
      have hsy5 := (sy_fin r hr11).2
      change syN r < 5 at hsy5
      have hrk3 := (ru_fin2 hs21 hr).2 _ hbs
      have hlen : (byT 0 st r).length = st.length - lnN r + 1 := by
        unfold byT
        rw [List.length_append, List.length_take, Nat.min_eq_left (by omega)]
        rfl
      obtain ⟨q1, -⟩ := byT_ok (m := 1) s2 s3 s1 t1 t2 hr
      have e0 : (byT 1 st r).map (·.2) = (byT 0 st r).map (·.2) := by
        unfold byT
        rw [List.map_append, List.map_append]
        rfl
      have g : ∀ j : Nat, ((byT 1 st r)[j]?).map (·.2) = ((byT 0 st r)[j]?).map (·.2) := fun j => by
        rw [← List.getElem?_map, e0, List.getElem?_map]
      refine ⟨h1, by dsimp only; omega, ⟨fun p hp => ?_, fun j p q hp hq => ?_⟩, ?_, ?_⟩
      · have := g 0
        rw [hp] at this
        cases hx : (byT 1 st r)[0]? with
        | none =>
          rw [hx] at this
          cases this
        | some x =>
          rw [hx] at this
          have ex : x.2 = p.2 := Option.some.inj this
          rw [← ex]
          exact q1.1 x hx
      · have a1 := g j
        have a2 := g (j + 1)
        rw [hp] at a1
        rw [hq] at a2
        cases hx : (byT 1 st r)[j]? with
        | none =>
          rw [hx] at a1
          cases a1
        | some x =>
          cases hy : (byT 1 st r)[j + 1]? with
          | none =>
            rw [hy] at a2
            cases a2
          | some y =>
            rw [hx] at a1
            rw [hy] at a2
            have ex : x.2 = p.2 := Option.some.inj a1
            have ey : y.2 = q.2 := Option.some.inj a2
            rw [← ex, ← ey]
            exact q1.2 j x y hx hy
      · unfold byT
        exact (s3.take).snoc (by decide) (ldN_lt hb21 (by omega))
      · dsimp only
        rw [hlen]
        unfold byT
        rw [topS_snoc]
        dsimp only
        omega
  · rw [if_neg hz] at h2
    cases h2
    have hie : i < e := Nat.lt_of_le_of_ne h1 (fun u => hz (by rw [u]; exact hk.2 _ hs21))
    have hki := hk.1 i h1
    have hl21 := ldN_lt (s := topS st) (y := 5 + kd i) hs21 (by omega)
    have hrk2 := rk_le _ hl21
    have hlen : (st ++ [(0, ldN (topS st) (5 + kd i))]).length = st.length + 1 := List.length_append
    refine ⟨hie, by dsimp only; omega, s2.snoc t1 s1 (y := 5 + kd i) (by omega) (by rw [t2]) hz, s3.snoc (by decide) hl21, ?_⟩
    dsimp only
    rw [hlen, topS_snoc]
    dsimp only
    omega
/-! ===== growing from nothing passes where a TREE's subtrees stand ===== -/
def Rch (kd : Nat → Nat) (x y : Nat × List (Nat × Nat)) : Prop := ∃ d, lIt kd d x = some y
theorem lIt_add {kd : Nat → Nat} {a : Nat} {x : Nat × List (Nat × Nat)} : ∀ b : Nat, lIt kd (a + b) x = (lIt kd a x).bind (lIt kd b)
  | 0 => by
    show lIt kd a x = _
    cases lIt kd a x with
    | none => rfl
    | some y => rfl
  | b + 1 => by
    show (lIt kd (a + b) x).bind _ = _
    rw [lIt_add b]
    cases lIt kd a x with
    | none => rfl
    | some y => rfl
theorem Rch.rf {kd : Nat → Nat} {x : Nat × List (Nat × Nat)} : Rch kd x x := ⟨0, rfl⟩
theorem Rch.tr {kd : Nat → Nat} {x y z : Nat × List (Nat × Nat)} (h1 : Rch kd x y) (h2 : Rch kd y z) : Rch kd x z := by
  obtain ⟨a, ha⟩ := h1
  obtain ⟨b, hb⟩ := h2
  exact ⟨a + b, by rw [lIt_add, ha]; exact hb⟩
theorem Rch.one {kd : Nat → Nat} {i : Nat} {st : List (Nat × Nat)} {y : Nat × List (Nat × Nat)} (h : lNx kd i st = some y) : Rch kd (i, st) y := ⟨1, h⟩
theorem lIt_no {kd : Nat → Nat} {x : Nat × List (Nat × Nat)} (h : lNx kd x.1 x.2 = none) (d : Nat) : lIt kd (d + 1) x = none := by
  rw [Nat.add_comm, lIt_add]
  show (Option.bind (Option.bind (some x) (fun y => lNx kd y.1 y.2)) _) = none
  show (Option.bind (lNx kd x.1 x.2) _) = none
  rw [h]
  rfl
theorem Rch.det {kd : Nat → Nat} {x y z : Nat × List (Nat × Nat)} (h1 : Rch kd x y) (h2 : Rch kd x z) (n1 : lNx kd y.1 y.2 = none) (n2 : lNx kd z.1 z.2 = none) : y = z := by
  obtain ⟨a, ha⟩ := h1
  obtain ⟨b, hb⟩ := h2
  have key : ∀ {a b : Nat} {y z : Nat × List (Nat × Nat)}, a ≤ b → lIt kd a x = some y → lIt kd b x = some z → lNx kd y.1 y.2 = none → y = z := by
    intro a b y z hab ha hb n1
    obtain ⟨k, rfl⟩ := Nat.le.dest hab
    rw [lIt_add, ha] at hb
    change lIt kd k y = some z at hb
    cases k with
    | zero => exact Option.some.inj hb
    | succ k =>
      rw [lIt_no n1] at hb
      cases hb
  by_cases u : a ≤ b
  · exact key u ha hb n1
  · exact (key (by omega) hb ha n2).symm
/-- only the KINDS passed and the next one matter -/
theorem lIt_sh {kd kd' : Nat → Nat} {t t' : Nat} {st : List (Nat × Nat)} : ∀ (d u : Nat) (w : List (Nat × Nat)), lIt kd d (t, st) = some (u, w) → t ≤ u ∧ ((∀ q, q ≤ u - t → kd' (t' + q) = kd (t + q)) → lIt kd' d (t', st) = some (t' + (u - t), w))
  | 0, u, w, h => by
    cases h
    refine ⟨Nat.le_refl _, fun _ => ?_⟩
    rw [Nat.sub_self]
    rfl
  | d + 1, u, w, h => by
    change (lIt kd d (t, st)).bind (fun y => lNx kd y.1 y.2) = some (u, w) at h
    cases h1 : lIt kd d (t, st) with
    | none =>
      rw [h1] at h
      cases h
    | some y =>
      obtain ⟨v, r⟩ := y
      rw [h1] at h
      change lNx kd v r = some (u, w) at h
      obtain ⟨i1, i2⟩ := lIt_sh d v r h1
      have hvu : v ≤ u ∧ u ≤ v + 1 := by
        unfold lNx at h
        by_cases hz : ldN (topS r) (5 + kd v) = 0
        · rw [if_pos hz] at h
          cases hr : rlN (topS r) with
          | none =>
            rw [hr] at h
            cases h
          | some x =>
            rw [hr] at h
            cases h
            omega
        · rw [if_neg hz] at h
          cases h
          omega
      refine ⟨by omega, fun e => ?_⟩
      show (lIt kd' d (t', st)).bind (fun y => lNx kd' y.1 y.2) = _
      rw [i2 (fun q hq => e q (by omega))]
      show lNx kd' (t' + (v - t)) r = _
      have ek : kd' (t' + (v - t)) = kd v := by
        rw [e (v - t) (by omega), show t + (v - t) = v by omega]
      unfold lNx at h ⊢
      rw [ek]
      by_cases hz : ldN (topS r) (5 + kd v) = 0
      · rw [if_pos hz] at h ⊢
        cases hr : rlN (topS r) with
        | none =>
          rw [hr] at h
          cases h
        | some x =>
          rw [hr] at h
          cases h
          rfl
      · rw [if_neg hz] at h ⊢
        cases h
        rw [show t' + (v + 1 - t) = t' + (v - t) + 1 by omega]
theorem Rch.sh {kd kd' : Nat → Nat} {t t' T : Nat} {st w : List (Nat × Nat)} (h : Rch kd (t, st) (t + T, w)) (e : ∀ q, q ≤ T → kd' (t' + q) = kd (t + q)) : Rch kd' (t', st) (t' + T, w) := by
  obtain ⟨d, hd⟩ := h
  have := (lIt_sh (kd' := kd') (t' := t') d _ _ hd).2
  rw [show t + T - t = T by omega] at this
  exact ⟨d, this e⟩
theorem RC.tr {kd : Nat → Nat} {a b : Nat} {x y z : Nat × List (Nat × Nat)} (h1 : lIt kd a x = some y) (h2 : lIt kd b y = some z) : lIt kd (a + b) x = some z := by
  rw [lIt_add, h1]
  exact h2
theorem RC.one {kd : Nat → Nat} {i : Nat} {st : List (Nat × Nat)} {y : Nat × List (Nat × Nat)} (h : lNx kd i st = some y) : lIt kd 1 (i, st) = some y := h
theorem RC.sh {kd kd' : Nat → Nat} {d t t' T : Nat} {st w : List (Nat × Nat)} (h : lIt kd d (t, st) = some (t + T, w)) (e : ∀ q, q ≤ T → kd' (t' + q) = kd (t + q)) : lIt kd' d (t', st) = some (t' + T, w) := by
  have := (lIt_sh (kd' := kd') (t' := t') d _ _ h).2
  rw [show t + T - t = T by omega] at this
  exact this e
theorem RC.cnt {kd : Nat → Nat} {a b : Nat} {x y z : Nat × List (Nat × Nat)} (ha : lIt kd a x = some y) (hb : lIt kd b x = some z) (n1 : lNx kd y.1 y.2 = none) (n2 : lNx kd z.1 z.2 = none) : a = b := by
  have key : ∀ {a b : Nat} {y z : Nat × List (Nat × Nat)}, a ≤ b → lIt kd a x = some y → lIt kd b x = some z → lNx kd y.1 y.2 = none → a = b := by
    intro a b y z hab ha hb n1
    obtain ⟨k, rfl⟩ := Nat.le.dest hab
    rw [lIt_add, ha] at hb
    change lIt kd k y = some z at hb
    cases k with
    | zero => rfl
    | succ k =>
      rw [lIt_no n1] at hb
      cases hb
  by_cases u : a ≤ b
  · exact key u ha hb n1
  · exact (key (by omega) hb ha n2).symm
theorem sz_cg {m c : Nat} {N N' : Nat → Nd} (h : NdOk m N) (e : ∀ c, c < m → NdE (N c) (N' c)) (hc : c < m) : sz N' c = sz N c := congrArg List.length (po_cg h e hc)
/-- from any stack with s on top: the node c, whose first TOKEN is t, is come to, in as many steps as it has nodes -/
def ownL (N : Nat → Nd) (kd : Nat → Nat) (c t : Nat) : Prop := ∀ r s : Nat, r < 11 → ndR (N c) = r → ndS (N c) = s → ∀ st : List (Nat × Nat), 1 ≤ st.length → topS st = s → lIt kd (sz N c) (t, st) = some (t + ndT (N c), st ++ [(0, ldN s (syN r))])
def TLs (P : Nat → Nat → Prop) (N : Nat → Nd) : List Nat → Nat → Prop
  | [], _ => True
  | c :: l, t => P c t ∧ TLs P N l (t + ndT (N c))
def TLF (N : Nat → Nd) (kd : Nat → Nat) : Nat → Nat → Nat → Prop
  | 0, _, _ => True
  | f + 1, c, t => ownL N kd c t ∧ TLs (TLF N kd f) N (ndC (N c)) t
/-- so for a node and all below -/
def TL (N : Nat → Nd) (kd : Nat → Nat) (c t : Nat) : Prop := ∀ f, TLF N kd f c t
theorem TLs_mono {P Q : Nat → Nat → Prop} {N : Nat → Nd} : ∀ {l : List Nat} {t : Nat}, (∀ c ∈ l, ∀ t, P c t → Q c t) → TLs P N l t → TLs Q N l t
  | [], _, _, _ => trivial
  | c :: l, t, h, h1 => ⟨h c (List.mem_cons_self ..) t h1.1, TLs_mono (fun x hx => h x (List.mem_cons_of_mem _ hx)) h1.2⟩
theorem TLs_all {P : Nat → Nat → Nat → Prop} {N : Nat → Nd} : ∀ {l : List Nat} {t : Nat}, (∀ f, TLs (P f) N l t) → TLs (fun c t => ∀ f, P f c t) N l t
  | [], _, _ => trivial
  | c :: l, t, h => ⟨fun f => (h f).1, TLs_all (fun f => (h f).2)⟩
theorem TL_eq {N : Nat → Nd} {kd : Nat → Nat} {c t : Nat} : TL N kd c t ↔ ownL N kd c t ∧ TLs (TL N kd) N (ndC (N c)) t := by
  constructor
  · intro h
    exact ⟨(h 1).1, TLs_all (P := TLF N kd) (fun f => (h (f + 1)).2)⟩
  · intro h f
    cases f with
    | zero => trivial
    | succ f => exact ⟨h.1, TLs_mono (fun c _ t u => u f) h.2⟩
/-- children, and where they begin -/
theorem TLs_at {P : Nat → Nat → Prop} {N : Nat → Nd} : ∀ {l : List Nat} {t k z : Nat}, TLs P N l t → l[k]? = some z → P z (t + tkS N (l.take k))
  | [], _, k, z, _, hk => by cases hk
  | c :: l, t, 0, z, h, hk => by
    cases hk
    exact h.1
  | c :: l, t, k + 1, z, h, hk => by
    rw [List.getElem?_cons_succ] at hk
    have := TLs_at h.2 hk
    rw [Nat.add_assoc] at this
    rw [List.take_succ_cons, tkS_cons]
    exact this
theorem TL.fl {m : Nat} {N : Nat → Nd} {kd : Nat → Nat} (hN : NdOk m N) (c : Nat) : c < m → ∀ q p t dep : Nat, TL N kd c t → ∀ x ∈ fl N c q p t dep, ∀ j : Nat, x.2.2.1 = (j : Int) → TL N kd x.1 j := by
  induction c using Nat.strongRecOn with
  | ind c ih =>
    intro hc q p t dep h x hx j hj
    rw [fl_eq hN hc] at hx
    rcases List.mem_cons.mp hx with rfl | hx
    · unfold flH at hj ⊢
      dsimp only at hj ⊢
      by_cases u : ndT (N c) = 0
      · rw [if_pos u] at hj
        omega
      · rw [if_neg u] at hj
        have : t = j := by omega
        rw [← this]
        exact h
    · obtain ⟨i, hi⟩ := List.mem_iff_getElem?.mp hx
      obtain ⟨k, z, i', k1, k2, k3, k4⟩ := flL_at (fun y hy p' t' => fl_len hN y (by have := hN.lt hc hy; omega) _ _ _ _) hi
      have hz := hN.lt hc (List.mem_of_getElem? k1)
      exact ih z hz (by omega) _ _ _ _ (TLs_at (TL_eq.mp h).2 k1) x (List.mem_of_getElem? k4) j hj
/-- alike in other KINDS -/
theorem TLs_sh {kd kd' : Nat → Nat} {N : Nat → Nd} {P Q : Nat → Nat → Prop} : ∀ {l : List Nat} {t t' : Nat}, (∀ q, q ≤ tkS N l → kd' (t' + q) = kd (t + q)) → (∀ c ∈ l, ∀ t t', (∀ q, q ≤ ndT (N c) → kd' (t' + q) = kd (t + q)) → P c t → Q c t') → TLs P N l t → TLs Q N l t'
  | [], _, _, _, _, _ => trivial
  | c :: l, t, t', e, h, h1 => by
    rw [tkS_cons] at e
    refine ⟨h c (List.mem_cons_self ..) t t' (fun q hq => e q (by omega)) h1.1, TLs_sh (fun q hq => ?_) (fun x hx => h x (List.mem_cons_of_mem _ hx)) h1.2⟩
    rw [Nat.add_assoc, Nat.add_assoc]
    exact e _ (by omega)
theorem TL.sh {m : Nat} {N : Nat → Nd} {kd kd' : Nat → Nat} (hN : NdOk m N) (c : Nat) : c < m → ∀ t t' : Nat, (∀ q, q ≤ ndT (N c) → kd' (t' + q) = kd (t + q)) → TL N kd c t → TL N kd' c t' := by
  induction c using Nat.strongRecOn with
  | ind c ih =>
    intro hc t t' e h
    obtain ⟨h1, h2⟩ := TL_eq.mp h
    refine TL_eq.mpr ⟨fun r s hr e1 e2 st l1 l2 => RC.sh (h1 r s hr e1 e2 st l1 l2) e, ?_⟩
    rcases hN c hc with ⟨-, e0, -⟩ | ⟨r, s, -, -, -, -, -, -, -, eT⟩
    · rw [e0]
      trivial
    · rw [eT] at e
      exact TLs_sh e (fun x hx u u' e' => ih x (hN.lt hc hx) (by have := hN.lt hc hx; omega) u u' e') h2
/-- nodes alike but for TOKENS' STATES -/
theorem TLs_cg {N N' : Nat → Nd} {P Q : Nat → Nat → Prop} : ∀ {l : List Nat} {t : Nat}, (∀ c ∈ l, ndT (N' c) = ndT (N c)) → (∀ c ∈ l, ∀ t, P c t → Q c t) → TLs P N l t → TLs Q N' l t
  | [], _, _, _, _ => trivial
  | c :: l, t, e, h, h1 => by
    refine ⟨h c (List.mem_cons_self ..) t h1.1, ?_⟩
    rw [e c (List.mem_cons_self ..)]
    exact TLs_cg (fun x hx => e x (List.mem_cons_of_mem _ hx)) (fun x hx => h x (List.mem_cons_of_mem _ hx)) h1.2
def NdF (N N' : Nat → Nd) (c : Nat) : Prop := NdE (N c) (N' c) ∧ (0 ≤ ndR (N c) → ndS (N' c) = ndS (N c))
theorem ownL.cg {N N' : Nat → Nd} {kd : Nat → Nat} {c t : Nat} (hs : sz N' c = sz N c) (e : NdF N N' c) (h : ownL N kd c t) : ownL N' kd c t := by
  obtain ⟨⟨e1, e2, e3, e4, e5, e6⟩, e7⟩ := e
  intro r s hr h1 h2 st l1 l2
  rw [e3, hs]
  rw [e1] at h1
  rw [e7 (by omega)] at h2
  exact h r s hr h1 h2 st l1 l2
theorem TL.cg {m : Nat} {N N' : Nat → Nd} {kd : Nat → Nat} (hN : NdOk m N) (e : ∀ c, c < m → NdF N N' c) (c : Nat) : c < m → ∀ t : Nat, TL N kd c t → TL N' kd c t := by
  induction c using Nat.strongRecOn with
  | ind c ih =>
    intro hc t h
    obtain ⟨h1, h2⟩ := TL_eq.mp h
    refine TL_eq.mpr ⟨h1.cg (sz_cg hN (fun c hc => (e c hc).1) hc) (e c hc), ?_⟩
    rw [(e c hc).1.2.2.2.2.1]
    exact TLs_cg (fun x hx => (e x (by have := hN.lt hc hx; omega)).1.2.2.1) (fun x hx u h' => ih x (hN.lt hc hx) (by have := hN.lt hc hx; omega) u h') h2
/-! ===== the stack ===== -/
def z0 (l : List (Nat × Nat)) : List (Nat × Nat) := l.map (fun p => (0, p.2))
def tkL (N : Nat → Nd) (l : List (Nat × Nat)) : Nat := tkS N (l.map (fun p => p.1))
def lstS (s : Nat) : List (Nat × Nat) → Nat
  | [] => s
  | p :: l => lstS p.2 l
def SL (N : Nat → Nd) (kd : Nat → Nat) : Nat → Nat → List (Nat × Nat) → Prop
  | _, _, [] => True
  | s, t, p :: l => (∀ st : List (Nat × Nat), 1 ≤ st.length → topS st = s → lIt kd (sz N p.1) (t, st) = some (t + ndT (N p.1), st ++ [(0, p.2)])) ∧ TL N kd p.1 t ∧ SL N kd p.2 (t + ndT (N p.1)) l
def szL (N : Nat → Nd) (l : List (Nat × Nat)) : Nat := szS N (l.map (fun p => p.1))
theorem szL_cons {N : Nat → Nd} {p : Nat × Nat} {l : List (Nat × Nat)} : szL N (p :: l) = sz N p.1 + szL N l := szS_cons
theorem tkL_cons {N : Nat → Nd} {p : Nat × Nat} {l : List (Nat × Nat)} : tkL N (p :: l) = ndT (N p.1) + tkL N l := tkS_cons
theorem top_z0 {l : List (Nat × Nat)} : ∀ {st : List (Nat × Nat)}, 1 ≤ st.length → topS (st ++ z0 l) = lstS (topS st) l := by
  induction l with
  | nil =>
    intro st h
    show topS (st ++ []) = _
    rw [List.append_nil]
    rfl
  | cons p l ih =>
    intro st h
    show topS (st ++ ((0, p.2) :: z0 l)) = lstS p.2 l
    rw [show st ++ ((0, p.2) :: z0 l) = (st ++ [(0, p.2)]) ++ z0 l by rw [List.append_assoc]; rfl, ih (by rw [List.length_append]; exact Nat.le_add_left _ _), topS_snoc]
theorem SL.run {N : Nat → Nd} {kd : Nat → Nat} : ∀ {l : List (Nat × Nat)} {s t : Nat}, SL N kd s t l → ∀ st : List (Nat × Nat), 1 ≤ st.length → topS st = s → lIt kd (szL N l) (t, st) = some (t + tkL N l, st ++ z0 l)
  | [], s, t, _, st, h1, h2 => by
    show some (t, st) = some (t + 0, st ++ [])
    rw [List.append_nil]
    rfl
  | p :: l, s, t, h, st, h1, h2 => by
    have a := h.1 st h1 h2
    have b := SL.run h.2.2 (st ++ [(0, p.2)]) (by rw [List.length_append]; exact Nat.le_add_left _ _) topS_snoc
    rw [szL_cons, tkL_cons, ← Nat.add_assoc]
    refine RC.tr a ?_
    rw [List.append_assoc] at b
    exact b
theorem SL_app {N : Nat → Nd} {kd : Nat → Nat} {l2 : List (Nat × Nat)} : ∀ {l : List (Nat × Nat)} {s t : Nat}, SL N kd s t (l ++ l2) ↔ SL N kd s t l ∧ SL N kd (lstS s l) (t + tkL N l) l2
  | [], s, t => by
    show SL N kd s t l2 ↔ True ∧ SL N kd s (t + 0) l2
    rw [Nat.add_zero, true_and]
  | p :: l, s, t => by
    show (_ ∧ _ ∧ SL N kd p.2 (t + ndT (N p.1)) (l ++ l2)) ↔ ((_ ∧ _ ∧ SL N kd p.2 (t + ndT (N p.1)) l) ∧ SL N kd (lstS p.2 l) (t + tkL N (p :: l)) l2)
    rw [SL_app, tkL_cons, ← Nat.add_assoc]
    constructor
    · rintro ⟨a, b, c, d⟩
      exact ⟨⟨a, b, c⟩, d⟩
    · rintro ⟨⟨a, b, c⟩, d⟩
      exact ⟨a, b, c, d⟩
theorem SL.tl {N : Nat → Nd} {kd : Nat → Nat} : ∀ {l : List (Nat × Nat)} {s t : Nat}, SL N kd s t l → TLs (TL N kd) N (l.map (fun p => p.1)) t
  | [], _, _, _ => trivial
  | p :: l, s, t, h => ⟨h.2.1, SL.tl h.2.2⟩
theorem SL.cg {m : Nat} {N N' : Nat → Nd} {kd : Nat → Nat} (hN : NdOk m N) (e : ∀ c, c < m → NdF N N' c) : ∀ {l : List (Nat × Nat)} {s t : Nat}, (∀ p ∈ l, p.1 < m) → SL N kd s t l → SL N' kd s t l
  | [], _, _, _, _ => trivial
  | p :: l, s, t, hl, h => by
    have hp := hl p (List.mem_cons_self ..)
    have eT : ndT (N' p.1) = ndT (N p.1) := (e _ hp).1.2.2.1
    have eS : sz N' p.1 = sz N p.1 := sz_cg hN (fun c hc => (e c hc).1) hp
    refine ⟨fun st h1 h2 => ?_, h.2.1.cg hN e _ hp _, ?_⟩
    · rw [eT, eS]
      exact h.1 st h1 h2
    · rw [eT]
      exact SL.cg hN e (fun q hq => hl q (List.mem_cons_of_mem _ hq)) h.2.2
theorem tkL_cg {N N' : Nat → Nd} : ∀ {l : List (Nat × Nat)}, (∀ p ∈ l, ndT (N' p.1) = ndT (N p.1)) → tkL N' l = tkL N l
  | [], _ => rfl
  | p :: l, h => by
    rw [tkL_cons, tkL_cons, h p (List.mem_cons_self ..), tkL_cg (fun q hq => h q (List.mem_cons_of_mem _ hq))]
theorem tkL_app {N : Nat → Nd} {l2 : List (Nat × Nat)} : ∀ {l : List (Nat × Nat)}, tkL N (l ++ l2) = tkL N l + tkL N l2
  | [] => (Nat.zero_add _).symm
  | p :: l => by
    show tkL N (p :: (l ++ l2)) = _
    rw [tkL_cons, tkL_cons, tkL_app, Nat.add_assoc]
theorem lstS_app {l2 : List (Nat × Nat)} : ∀ {l : List (Nat × Nat)} {s : Nat}, lstS s (l ++ l2) = lstS (lstS s l) l2
  | [], _ => rfl
  | p :: l, s => lstS_app (l := l)
theorem topS_cons {p : Nat × Nat} {l : List (Nat × Nat)} : topS (p :: l) = lstS p.2 l := by
  have : ∀ (l st : List (Nat × Nat)), 1 ≤ st.length → topS (st ++ l) = lstS (topS st) l := by
    intro l
    induction l with
    | nil =>
      intro st h
      rw [List.append_nil]
      rfl
    | cons q l ih =>
      intro st h
      rw [show st ++ (q :: l) = (st ++ [q]) ++ l by rw [List.append_assoc]; rfl, ih _ (by rw [List.length_append]; exact Nat.le_add_left _ _), topS_snoc]
      rfl
  exact this l [p] (Nat.le_refl _)
/-! ===== a TREE that grows again stands where one grown from nothing passes ===== -/
def SG (N : Nat → Nd) (kd : Nat → Nat) (i : Nat) (st : List (Nat × Nat)) : Prop := ∃ l, st = (0, 0) :: l ∧ SL N kd 0 0 l ∧ i = tkL N l
theorem SG.st0 {N : Nat → Nd} {kd : Nat → Nat} : SG N kd 0 [(0, 0)] := ⟨[], rfl, trivial, rfl⟩
theorem snd_was2 {A B n n' i j f k : Nat} (hAn : A + B ≤ n) (hAn' : A + B ≤ n') (hw : wasN A B n n' i = some j) (hs : sndP A B n' n j f) (hk : k ≤ f) (hin : i + f < n) : wasN A B n n' (i + k) = some (j + k) := by
  unfold wasN at hw ⊢
  have a0 : sndP A B n' n j f = (j + f < A ∨ n' - B ≤ j ∨ (A + B = n' ∧ n' = n)) := rfl
  rw [a0] at hs
  by_cases c1 : i < A
  · rw [if_pos c1] at hw
    cases hw
    by_cases c3 : i + k < A
    · rw [if_pos c3]
    · rw [if_neg c3, if_pos (by omega)]
      congr 1
      omega
  · rw [if_neg c1] at hw
    by_cases c2 : n - B ≤ i
    · rw [if_pos c2] at hw
      cases hw
      rw [if_neg (by omega), if_pos (by omega)]
      congr 1
      omega
    · rw [if_neg c2] at hw
      cases hw
theorem byT_app {r : Nat} {st l : List (Nat × Nat)} (h1 : 1 ≤ st.length) (hl : l.length = lnN r) : byT 0 (st ++ l) r = st ++ [(0, ldN (topS st) (syN r))] := by
  have hs : byS (st ++ l) r = topS st := by
    unfold byS topS
    rw [List.length_append, hl, Nat.add_sub_cancel, List.getD_eq_getElem?_getD, List.getD_eq_getElem?_getD, List.getElem?_append_left (by omega)]
  unfold byT
  rw [hs, List.length_append, hl, Nat.add_sub_cancel, List.take_left]
theorem SG.nx {A B n n' e m0 m1 R i m k tk : Nat} {g kd og kdO : Nat → Nat} {N0 N : Nat → Nd} {st : List (Nat × Nat)} {y : Gs} (h0 : NdOk m0 N0) (u0 : UqE m0 N0) (t0 : TreeI m0 N0 R n' og) (hog : ∀ i, i < n → ∀ j, wasN A B n n' i = some j → g i = og j) (ge : GE (flR N0 R) A B n n' g kd) (h : GI (flR N0 R) n n' g kd m1 i m N st k) (hj : GJ m0 N0 g i m N st) (hL : TL N0 kdO R 0) (hkO : ∀ j, j < n' → ndK (N0 (og j)) = kdO j) (hs : SG N kd i st) (e1 : gNx (flR N0 R) A B n n' g e i m N st tk = some y) : SG y.2.2.1 kd y.1 y.2.2.2.1 := by
  have hT := fun b hb => GI.taken (b := b) ge h hb
  have hcw := ge.cw h.2.2.2.2.2.1 h.1
  have hN2 := (h.nx ge e1).2.2.2.2.1
  obtain ⟨g1, g2, g3, g4, g5, g6, g7⟩ := id ge
  obtain ⟨hi, ⟨s1, s2, s3, s4⟩, hf, ⟨hm1, hmk⟩, hN, hF, hg⟩ := id h
  obtain ⟨p0, q1, q2⟩ := top_at s1
  have hs21 : topS st < 21 := q2 ▸ (s3 _ p0 q1).1
  have j6 := hj.2.2.2.2.2
  obtain ⟨l, hst, a1, a2⟩ := hs
  have htop : topS st = lstS 0 l := by rw [hst]; exact topS_cons
  have hlm : ∀ p ∈ l, p.1 < m := fun p hp => by
    obtain ⟨j, hj⟩ := List.mem_iff_getElem?.mp hp
    exact (s3 (j + 1) p (by rw [hst, List.getElem?_cons_succ]; exact hj)).2 (by omega)
  unfold gNx at e1
  cases hb : bestOf (flR N0 R) N A B n n' i (topS st) (g i) with
  | some b =>
    rw [hb] at e1
    cases e1
    obtain ⟨hbm, r', b4', b5', hsy, hld, hf1, hin⟩ := hT b hb
    obtain ⟨j, hw, p, x, r, b1, b2, b3, b4, b5, b6, b7⟩ := bestOf_ok hF hcw hb
    have hb0 : b < m0 := b2 ▸ ((t0.flG h0 u0).1.2 p x b1).1
    have T0 : TL N0 kdO b j := by
      have := hL.fl h0 R t0.1 0 0 0 1 x (List.mem_of_getElem? b1) j b3
      rw [b2] at this
      exact this
    have T1 : TL N kdO b j := T0.cg h0 (fun c hc => ⟨by rw [j6 c hc]; exact NdE.rf, fun _ => by rw [j6 c hc]⟩) b hb0 j
    have T2 : TL N kd b i := T1.sh hN b hbm j i (fun q hq => by
      have w := snd_was2 g3 g4 hw b7 hq hin
      have hin2 : i + q < n := by omega
      have hjn := wasN_lt hin2 (by omega) (by omega) (by omega) w
      have hgo := hog _ hin2 _ w
      rw [← (hg _ hin2).2.2, hgo, j6 _ (t0.2.2.2.2.1 _ hjn).1]
      exact hkO _ hjn)
    refine ⟨l ++ [(b, ldN (topS st) (ndM (N b)))], by dsimp only; rw [hst]; rfl, SL_app.mpr ⟨a1, ?_⟩, ?_⟩
    · rw [Nat.zero_add, ← a2]
      refine ⟨fun w l1 l2 => ?_, T2, trivial⟩
      have er : r' = r := by omega
      dsimp only
      rw [hsy, htop, er]
      exact (TL_eq.mp T2).1 r (lstS 0 l) b4 b5 (by rw [← htop]; exact b6) w l1 l2
    · dsimp only
      rw [tkL_app, ← a2]
      rfl
  | none =>
    rw [hb] at e1
    obtain ⟨hgm, hgR, hgK⟩ := hg i hi
    have hM : ndM (N (g i)) = 5 + kd i := by
      unfold ndM
      rw [hgR, if_pos (by decide), hgK]
    by_cases hz : ldN (topS st) (ndM (N (g i))) = 0
    · rw [if_pos hz] at e1
      cases hr : rlN (topS st) with
      | none =>
        rw [hr] at e1
        cases e1
      | some r =>
        rw [hr] at e1
        cases e1
        have hr11 := rlN_lt hs21 hr
        obtain ⟨f1, f2⟩ := st_fits s2 s3 s1 q1 q2 hr
        have f1' : lnN r < st.length := f1
        have hlen : st.length = l.length + 1 := by rw [hst]; rfl
        have hl12 : l = l.take (l.length - lnN r) ++ l.drop (l.length - lnN r) := (List.take_append_drop _ _).symm
        have et : st.take (st.length - lnN r) = (0, 0) :: l.take (l.length - lnN r) := by
          rw [hst, show ((0, 0) :: l).length - lnN r = (l.length - lnN r) + 1 by show l.length + 1 - lnN r = _; omega, List.take_succ_cons]
        have ed : st.drop (st.length - lnN r) = l.drop (l.length - lnN r) := by
          rw [hst, show ((0, 0) :: l).length - lnN r = (l.length - lnN r) + 1 by show l.length + 1 - lnN r = _; omega, List.drop_succ_cons]
        have ebS : byS st r = lstS 0 (l.take (l.length - lnN r)) := by
          have h1 : byS st r = topS (st.take (st.length - lnN r)) := by
            unfold byS topS
            rw [List.length_take, Nat.min_eq_left (by omega), List.getD_eq_getElem?_getD, List.getD_eq_getElem?_getD, List.getElem?_take, if_pos (by omega)]
          rw [h1, et]
          exact topS_cons
        have ebC : byC st r = (l.drop (l.length - lnN r)).map (fun p => p.1) := by
          unfold byC
          rw [ed]
        rw [hM] at hz
        rw [hl12] at a1
        obtain ⟨c1, c2⟩ := SL_app.mp a1
        have hd : (l.drop (l.length - lnN r)).length = lnN r := by rw [List.length_drop]; omega
        have eF : ∀ c, c < m → NdF N (upN N m (byN N st r e)) c := fun c hc => by
          have : upN N m (byN N st r e) c = N c := upN_o (by omega)
          exact ⟨by rw [this]; exact NdE.rf, fun _ => by rw [this]⟩
        have h1m : ∀ p ∈ l.take (l.length - lnN r), p.1 < m := fun p hp => hlm p (List.mem_of_mem_take hp)
        have h2m : ∀ p ∈ l.drop (l.length - lnN r), p.1 < m := fun p hp => hlm p (List.mem_of_mem_drop hp)
        have eN : upN N m (byN N st r e) m = byN N st r e := upN_self
        have eT : ndT (byN N st r e) = tkL N (l.drop (l.length - lnN r)) := by
          show tkS N (byC st r) = _
          rw [ebC]
          rfl
        have hszm : sz (upN N m (byN N st r e)) m = szL N (l.drop (l.length - lnN r)) + 1 := by
          rw [sz_eq (show NdOk (m + 1) (upN N m (byN N st r e)) from hN2) (Nat.lt_succ_self m), eN]
          show 1 + szS (upN N m (byN N st r e)) (byC st r) = _
          rw [ebC, Nat.add_comm]
          unfold szL szS
          rw [List.map_congr_left (fun c hc => by
            obtain ⟨p, hp, rfl⟩ := List.mem_map.mp hc
            exact sz_cg hN (fun c hc => (eF c hc).1) (h2m p hp))]
        have own : ∀ w : List (Nat × Nat), 1 ≤ w.length → topS w = lstS 0 (l.take (l.length - lnN r)) → lIt kd (sz (upN N m (byN N st r e)) m) (0 + tkL N (l.take (l.length - lnN r)), w) = some (0 + tkL N (l.take (l.length - lnN r)) + ndT (byN N st r e), w ++ [(0, ldN (byS st r) (syN r))]) := by
          intro w w1 w2
          rw [hszm]
          have a := c2.run w w1 w2
          have ei : 0 + tkL N (l.take (l.length - lnN r)) + tkL N (l.drop (l.length - lnN r)) = i := by
            rw [Nat.zero_add, ← tkL_app, List.take_append_drop]
            exact a2.symm
          rw [eT]
          rw [ei] at a ⊢
          refine RC.tr a (RC.one ?_)
          unfold lNx
          have et2 : topS (w ++ z0 (l.drop (l.length - lnN r))) = topS st := by
            rw [top_z0 w1, w2, ← lstS_app, List.take_append_drop, htop]
          rw [et2, if_pos hz, hr]
          dsimp only
          rw [byT_app w1 (by unfold z0; rw [List.length_map]; exact hd), w2, ebS]
        refine ⟨l.take (l.length - lnN r) ++ [(m, ldN (byS st r) (syN r))], ?_, SL_app.mpr ⟨c1.cg hN eF h1m, ?_⟩, ?_⟩
        · show byT m st r = _
          unfold byT
          rw [et]
          rfl
        · dsimp only
          rw [tkL_cg (fun p hp => (eF _ (h1m p hp)).1.2.2.1)]
          refine ⟨fun w w1 w2 => ?_, TL_eq.mpr ⟨?_, ?_⟩, trivial⟩
          · dsimp only
            rw [eN]
            exact own w w1 w2
          · intro r' s' hr' x1 x2 w w1 w2
            rw [eN] at x1 x2 ⊢
            have x1' : (r : Int) = r' := x1
            have x2' : ((byS st r : Nat) : Int) = s' := x2
            have y1 : r' = r := by omega
            have y2 : s' = byS st r := by omega
            rw [y1, y2]
            exact own w w1 (by rw [w2, y2, ebS])
          · rw [eN]
            show TLs _ _ (byC st r) _
            rw [ebC]
            exact (c2.cg hN eF h2m).tl
        · dsimp only
          rw [tkL_app, tkL_cg (fun p hp => (eF _ (h1m p hp)).1.2.2.1)]
          show i = _ + (ndT (upN N m (byN N st r e) m) + 0)
          rw [eN, eT, Nat.add_zero, ← tkL_app, List.take_append_drop]
          exact a2
    · rw [if_neg hz] at e1
      cases e1
      have eF : ∀ c, c < m → NdF N (upN N (g i) (stNd (N (g i)) (topS st))) c := fun c hc => ⟨upN_stE c, fun hr0 => by
        rw [upN_o (fun u => by rw [u, hgR] at hr0; exact absurd hr0 (by decide))]⟩
      have eT : ndT (N (g i)) = 1 := by
        rcases hN _ hgm with ⟨-, -, -, x, -⟩ | ⟨r, s, -, -, x, -⟩
        · exact x
        · omega
      have eT' : ndT (upN N (g i) (stNd (N (g i)) (topS st)) (g i)) = 1 := by
        rw [(eF _ hgm).1.2.2.1]
        exact eT
      have eC : ndC (upN N (g i) (stNd (N (g i)) (topS st)) (g i)) = [] := by
        rw [(eF _ hgm).1.2.2.2.2.1]
        rcases hN _ hgm with ⟨-, x, -⟩ | ⟨r, s, -, -, x, -⟩
        · exact x
        · omega
      have eR : ndR (upN N (g i) (stNd (N (g i)) (topS st)) (g i)) = -2 := by
        rw [(eF _ hgm).1.1]
        exact hgR
      have hsz1 : sz (upN N (g i) (stNd (N (g i)) (topS st))) (g i) = 1 := by
        rw [sz_eq (show NdOk m (upN N (g i) (stNd (N (g i)) (topS st))) from hN2) hgm, eC]
        rfl
      refine ⟨l ++ [(g i, ldN (topS st) (ndM (N (g i))))], by dsimp only; rw [hst]; rfl, SL_app.mpr ⟨a1.cg hN eF hlm, ?_⟩, ?_⟩
      · dsimp only
        rw [tkL_cg (fun p hp => (eF _ (hlm p hp)).1.2.2.1), Nat.zero_add, ← a2]
        refine ⟨fun w w1 w2 => ?_, TL_eq.mpr ⟨fun r s hr x1 => ?_, ?_⟩, trivial⟩
        · dsimp only
          rw [eT', hsz1, hM, htop]
          refine RC.one ?_
          unfold lNx
          rw [hM, htop] at hz
          rw [w2, if_neg hz]
        · rw [eR] at x1
          omega
        · rw [eC]
          trivial
      · dsimp only
        rw [tkL_app, tkL_cg (fun p hp => (eF _ (hlm p hp)).1.2.2.1), ← a2]
        show i + 1 = i + (ndT _ + 0)
        rw [eT']
/-- where growing ends, growing from nothing ends -/
theorem SG.stop {F : List Fl} {A B n n' e m1 i m k tk : Nat} {g kd : Nat → Nat} {N : Nat → Nd} {st : List (Nat × Nat)} (h : GI F n n' g kd m1 i m N st k) (hs : SG N kd i st) (e1 : gNx F A B n n' g e i m N st tk = none) : ∃ w, Rch kd (0, [(0, 0)]) (i, w) ∧ lNx kd i w = none ∧ topS w = topS st := by
  obtain ⟨hi, ⟨s1, s2, s3, s4⟩, hf, ⟨hm1, hmk⟩, hN, hF, hg⟩ := id h
  obtain ⟨l, hst, a1, a2⟩ := hs
  have htop : topS st = lstS 0 l := by rw [hst]; exact topS_cons
  have ht2 : topS ([(0, 0)] ++ z0 l) = topS st := by
    rw [top_z0 (st := [(0, 0)]) (Nat.le_refl 1), htop]
    rfl
  refine ⟨[(0, 0)] ++ z0 l, ?_, ?_, ht2⟩
  · have := a1.run [(0, 0)] (Nat.le_refl 1) rfl
    rw [Nat.zero_add, ← a2] at this
    exact ⟨_, this⟩
  · obtain ⟨hgm, hgR, hgK⟩ := hg i hi
    have hM : ndM (N (g i)) = 5 + kd i := by
      unfold ndM
      rw [hgR, if_pos (by decide), hgK]
    unfold gNx at e1
    cases hb : bestOf F N A B n n' i (topS st) (g i) with
    | some b =>
      rw [hb] at e1
      cases e1
    | none =>
      rw [hb, hM] at e1
      unfold lNx
      rw [ht2]
      by_cases hz : ldN (topS st) (5 + kd i) = 0
      · dsimp only at e1
        rw [if_pos hz] at e1 ⊢
        cases hr : rlN (topS st) with
        | none => rfl
        | some r =>
          rw [hr] at e1
          cases e1
      · dsimp only at e1
        rw [if_neg hz] at e1
        cases e1
/-! ===== what more holds of the state: a TEXT that is not good can not be grown from nothing ===== -/
def kdF (l : List (Nat × Nat × Nat)) : Nat → Nat := fun i => (l.getD i (10, 0, 0)).1
def LrAcc (l : List (Nat × Nat × Nat)) : Prop := ∃ w, Rch (kdF l) (0, [(0, 0)]) (l.length - 1, w) ∧ lNx (kdF l) (l.length - 1) w = none ∧ topS w = 1
def MoL (N : Nat → Nd) (y : Mo) : Prop := TL N (kdF (lexL (moG y))) (moR y) 0 ∧ (moB y = false → ¬ LrAcc (lexL (moT y)))
def Lv (x : Sg) : Prop := MoL (sgN x) (sgC x) ∧ (∀ y ∈ sgA x, MoL (sgN x) y) ∧ ∀ y ∈ sgZ x, MoL (sgN x) y
theorem kdF_at {l : List (Nat × Nat × Nat)} {i : Nat} {x : Nat × Nat × Nat} (h : l[i]? = some x) : kdF l i = x.1 := by
  unfold kdF
  rw [List.getD_eq_getElem?_getD, h]
  rfl
theorem MoL.cg {m m' : Nat} {N N' : Nat → Nd} {y : Mo} (hN : NdOk m N) (o : MoOk m N y) (e : ∀ k, k < m → N' k = N k) (h : MoL N y) : MoL N' y :=
  ⟨h.1.cg hN (fun c hc => ⟨by rw [e c hc]; exact NdE.rf, fun _ => by rw [e c hc]⟩) _ o.2.2.2.1.1 0, h.2⟩
theorem chg_lv {x : Sg} {d tp : List Int32} (hv : Iv x) (hd : txOk d) (hl : Lv x) : Lv (chg x d tp) := by
  obtain ⟨m1, g, N1, k, y, hreg, hn, hrun, -, q1, q2, q3, q4, q5, q6, q7, q8⟩ := reg_ok hv hd
  obtain ⟨-, hN, hu, -, -, -, -, hC, hA, hZ, -⟩ := hv
  obtain ⟨c1, c2, c3, c4, c5⟩ := id hC
  obtain ⟨l1, l2, l3⟩ := hl
  have hx := lex_lxo hd
  have hx' := lex_lxo c2
  obtain ⟨ge, gi, gj, hog, hnew, hm0, hm1, htk, hinj⟩ := naming_ok hN hu c4 c5 hx hx' hn
  have hkO : ∀ j, j < (lexL (moG (sgC x))).length → ndK (sgN x (moO (sgC x) j)) = kdF (lexL (moG (sgC x))) j := fun j hj => by
    have hj2 : (lexL (moG (sgC x)))[j]? = some ((lexL (moG (sgC x)))[j]'hj) := List.getElem?_eq_getElem hj
    rw [kdF_at hj2]
    exact (c5 j _ hj2).1
  have hS := gRun_inv (e := sgE x + 1) ge (P := fun z => GJ (sgM x) (sgN x) g z.1 z.2.1 z.2.2.1 z.2.2.2.1 ∧ SG z.2.2.1 (fun i => ((lexL d).getD i (10, 0, 0)).1) z.1 z.2.2.2.1) (fun a b k ha hp he => ⟨hp.1.nx hN c4 hog hnew hm0 ge ha he, hp.2.nx hN hu c4 hog ge ha hp.1 l1.1 hkO he⟩) 2000 0 (0, m1, N1, [(0, 0)], 0) gi ⟨gj, SG.st0⟩
  obtain ⟨k', y', e1, gi', hnone⟩ := gRun_end (e := sgE x + 1) ge 2000 0 (0, m1, N1, [(0, 0)], 0) gi (by omega)
  rw [hrun] at e1 hS
  cases e1
  have hS2 := hS.2
  dsimp only at hS2
  have hY : regY x d = y := by
    unfold regY
    rw [hreg]
  have hA2 : ∀ z ∈ (sgC x :: sgA x).take 20, MoOk (sgM x) (sgN x) z ∧ MoL (sgN x) z := fun z hz => by
    rcases List.mem_cons.mp (List.mem_of_mem_take hz) with rfl | hz
    · exact ⟨hC, l1⟩
    · exact ⟨hA z hz, l2 z hz⟩
  unfold Lv chg newC
  rw [hY]
  by_cases hg : y.1 + 1 = (lexL d).length ∧ topS y.2.2.2.1 = 1
  · rw [if_pos hg, if_pos hg, if_pos hg, if_pos hg]
    obtain ⟨b, e1, e2⟩ := q8 hg.1 hg.2
    refine ⟨⟨?_, fun u => by cases u⟩, fun z hz => (hA2 z hz).2.cg (m' := y.2.1) hN (hA2 z hz).1 q1, fun z hz => by cases hz⟩
    show TL y.2.2.1 (kdF (lexL d)) (regR x d) 0
    obtain ⟨l, a1, a2, a3⟩ := hS2
    rw [e1] at a1
    cases a1
    exact a2.2.1
  · rw [if_neg hg, if_neg hg, if_neg hg, if_neg hg]
    refine ⟨⟨l1.1, fun _ u => hg ?_⟩, fun z hz => (hA2 z hz).2, fun z hz => by cases hz⟩
    obtain ⟨w, w1, w2, w3⟩ := (show LrAcc (lexL d) from u)
    have hS3 : SG y.2.2.1 (kdF (lexL d)) y.1 y.2.2.2.1 := hS2
    obtain ⟨w', v1, v2, v3⟩ := SG.stop (kd := kdF (lexL d)) gi' hS3 hnone
    have e : ((lexL d).length - 1, w) = (y.1, w') := Rch.det w1 v1 w2 v2
    have e1 : (lexL d).length - 1 = y.1 := congrArg Prod.fst e
    have e2 : w = w' := congrArg Prod.snd e
    have := hx.2.1
    refine ⟨by omega, ?_⟩
    rw [← v3, ← e2]
    exact w3
theorem doC_lv {x : Sg} {d : List Int32} {bt : Bool} (hv : Iv x) (hd : BtL d) (hl : Lv x) : Lv (doC x d bt).2 := by
  unfold doC
  by_cases u : 300 < d.length ∨ 3000 ≤ sgM x ∨ 3900 ≤ (sgP x).length ∨ 100 < (lexL d).length
  · rw [if_pos u]
    exact hl
  · rw [if_neg u]
    exact chg_lv hv ⟨by omega, hd.at, by omega⟩ hl
theorem undo_lv {x : Sg} (hl : Lv x) : Lv (undoR x).2 := by
  obtain ⟨l1, l2, l3⟩ := id hl
  unfold undoR
  cases hA : sgA x with
  | nil => exact hl
  | cons y A =>
    rw [hA] at l2
    refine ⟨l2 y (List.mem_cons_self ..), fun z hz => l2 z (List.mem_cons_of_mem _ hz), fun z hz => ?_⟩
    rcases List.mem_cons.mp hz with rfl | hz
    · exact l1
    · exact l3 z hz
theorem redo_lv {x : Sg} (hl : Lv x) : Lv (redoR x).2 := by
  obtain ⟨l1, l2, l3⟩ := id hl
  unfold redoR
  cases hZ : sgZ x with
  | nil => exact hl
  | cons y Z =>
    rw [hZ] at l3
    refine ⟨l3 y (List.mem_cons_self ..), fun z hz => ?_, fun z hz => l3 z (List.mem_cons_of_mem _ hz)⟩
    rcases List.mem_cons.mp hz with rfl | hz
    · exact l1
    · exact l2 z hz
/-- so many steps from nothing as the TREE has nodes -/
def FrM (N : Nat → Nd) (y : Mo) : Prop := lIt (kdF (lexL (moG y))) (sz N (moR y)) (0, [(0, 0)]) = some ((lexL (moG y)).length - 1, [(0, 0), (0, 1)])
def Fr (x : Sg) : Prop := FrM (sgN x) (sgC x) ∧ (∀ y ∈ sgA x, FrM (sgN x) y) ∧ ∀ y ∈ sgZ x, FrM (sgN x) y
theorem FrM.cg {m : Nat} {N N' : Nat → Nd} {y : Mo} (hN : NdOk m N) (o : MoOk m N y) (e : ∀ k, k < m → N' k = N k) (h : FrM N y) : FrM N' y := by
  unfold FrM at h ⊢
  rw [sz_cg hN (fun c hc => by rw [e c hc]; exact NdE.rf) o.2.2.2.1.1]
  exact h
theorem chg_fr {x : Sg} {d tp : List Int32} (hv : Iv x) (hd : txOk d) (hl : Lv x) (hf : Fr x) : Fr (chg x d tp) := by
  obtain ⟨m1, g, N1, k, y, hreg, hn, hrun, -, q1, q2, q3, q4, q5, q6, q7, q8⟩ := reg_ok hv hd
  obtain ⟨-, hN, hu, -, -, -, -, hC, hA, hZ, -⟩ := hv
  obtain ⟨c1, c2, c3, c4, c5⟩ := id hC
  obtain ⟨l1, l2, l3⟩ := hl
  obtain ⟨f1, f2, f3⟩ := hf
  have hx := lex_lxo hd
  have hx' := lex_lxo c2
  obtain ⟨ge, gi, gj, hog, hnew, hm0, hm1, htk, hinj⟩ := naming_ok hN hu c4 c5 hx hx' hn
  have hkO : ∀ j, j < (lexL (moG (sgC x))).length → ndK (sgN x (moO (sgC x) j)) = kdF (lexL (moG (sgC x))) j := fun j hj => by
    have hj2 : (lexL (moG (sgC x)))[j]? = some ((lexL (moG (sgC x)))[j]'hj) := List.getElem?_eq_getElem hj
    rw [kdF_at hj2]
    exact (c5 j _ hj2).1
  have hS := gRun_inv (e := sgE x + 1) ge (P := fun z => GJ (sgM x) (sgN x) g z.1 z.2.1 z.2.2.1 z.2.2.2.1 ∧ SG z.2.2.1 (fun i => ((lexL d).getD i (10, 0, 0)).1) z.1 z.2.2.2.1) (fun a b k ha hp he => ⟨hp.1.nx hN c4 hog hnew hm0 ge ha he, hp.2.nx hN hu c4 hog ge ha hp.1 l1.1 hkO he⟩) 2000 0 (0, m1, N1, [(0, 0)], 0) gi ⟨gj, SG.st0⟩
  rw [hrun] at hS
  have hS2 := hS.2
  dsimp only at hS2
  have hY : regY x d = y := by
    unfold regY
    rw [hreg]
  have hA2 : ∀ z ∈ (sgC x :: sgA x).take 20, MoOk (sgM x) (sgN x) z ∧ FrM (sgN x) z := fun z hz => by
    rcases List.mem_cons.mp (List.mem_of_mem_take hz) with rfl | hz
    · exact ⟨hC, f1⟩
    · exact ⟨hA z hz, f2 z hz⟩
  unfold Fr chg newC
  rw [hY]
  by_cases hg : y.1 + 1 = (lexL d).length ∧ topS y.2.2.2.1 = 1
  · rw [if_pos hg, if_pos hg, if_pos hg, if_pos hg]
    obtain ⟨b, e1, e2⟩ := q8 hg.1 hg.2
    refine ⟨?_, fun z hz => (hA2 z hz).2.cg hN (hA2 z hz).1 q1, fun z hz => by cases hz⟩
    show lIt (kdF (lexL d)) (sz y.2.2.1 (regR x d)) (0, [(0, 0)]) = some ((lexL d).length - 1, [(0, 0), (0, 1)])
    obtain ⟨l, a1, a2, a3⟩ := hS2
    rw [e1] at a1
    cases a1
    have := a2.1 [(0, 0)] (Nat.le_refl 1) rfl
    dsimp only at this
    have e3 : y.1 = ndT (y.2.2.1 (regR x d)) + 0 := a3
    rw [show 0 + ndT (y.2.2.1 (regR x d)) = (lexL d).length - 1 by omega] at this
    exact this
  · rw [if_neg hg, if_neg hg, if_neg hg, if_neg hg]
    exact ⟨f1, fun z hz => (hA2 z hz).2, fun z hz => by cases hz⟩
theorem doC_fr {x : Sg} {d : List Int32} {bt : Bool} (hv : Iv x) (hd : BtL d) (hl : Lv x) (hf : Fr x) : Fr (doC x d bt).2 := by
  unfold doC
  by_cases u : 300 < d.length ∨ 3000 ≤ sgM x ∨ 3900 ≤ (sgP x).length ∨ 100 < (lexL d).length
  · rw [if_pos u]
    exact hf
  · rw [if_neg u]
    exact chg_fr hv ⟨by omega, hd.at, by omega⟩ hl hf
theorem undo_fr {x : Sg} (hf : Fr x) : Fr (undoR x).2 := by
  obtain ⟨l1, l2, l3⟩ := id hf
  unfold undoR
  cases hA : sgA x with
  | nil => exact hf
  | cons y A =>
    rw [hA] at l2
    refine ⟨l2 y (List.mem_cons_self ..), fun z hz => l2 z (List.mem_cons_of_mem _ hz), fun z hz => ?_⟩
    rcases List.mem_cons.mp hz with rfl | hz
    · exact l1
    · exact l3 z hz
theorem redo_fr {x : Sg} (hf : Fr x) : Fr (redoR x).2 := by
  obtain ⟨l1, l2, l3⟩ := id hf
  unfold redoR
  cases hZ : sgZ x with
  | nil => exact hf
  | cons y Z =>
    rw [hZ] at l3
    refine ⟨l3 y (List.mem_cons_self ..), fun z hz => ?_, fun z hz => l3 z (List.mem_cons_of_mem _ hz)⟩
    rcases List.mem_cons.mp hz with rfl | hz
    · exact l1
    · exact l2 z hz
/-! ===== what the model sees of the TREE ===== -/
def InP (N : Nat → Nd) (R c p d : Nat) : Prop := ∃ f : Fl, (flR N R)[p]? = some f ∧ f.1 = c ∧ f.2.2.2.1 = d
def Vw (I : zI) (m R n : Nat) (N : Nat → Nd) (og : Nat → Nat) : Prop :=
  RepNM I m N ∧ NdOk m N ∧ m ≤ 3250 ∧ TreeI m N R n og ∧ ViM I N R n ∧ I.1 491 19 = zi n ∧ (∀ j, j < n → I.1 508 j = zi (og j)) ∧ ∀ c, c < m → ndT (N c) ≤ 100
theorem RM.view {I : zI} {x : Sg} (hv : Iv x) (h : RM I x) : Vw I (sgM x) (moR (sgC x)) (lexL (moG (sgC x))).length (sgN x) (moO (sgC x)) := by
  obtain ⟨r1, r2, r3, r4, r5, r6, r7, nw, -⟩ := h
  obtain ⟨hTp, hN, hu, hm, hTk, hP, hE, hC, hA, hZ, hAZ⟩ := hv
  exact ⟨r2, hN, hm, hC.2.2.2.1, r3, nw.2.2.2.2.2.2.1.1, nw.2.2.2.2.2.2.2.1, hTk⟩
theorem Vw.kp {I J : zI} {m R n : Nat} {N : Nat → Nd} {og : Nat → Nat} (V : Vw I m R n N og) (e : ∀ a j, (a = 491 ∧ (j = 19 ∨ j = 25 ∨ j = 37 ∨ j = 43 ∨ j = 51 ∨ j = 53)) ∨ (508 ≤ a ∧ a ≤ 516) ∨ (521 ≤ a ∧ a ≤ 526) ∨ a = 528 ∨ a = 529 → J.1 a j = I.1 a j) (e2 : ∀ j, J.2 511 j = I.2 511 j) : Vw J m R n N og := by
  obtain ⟨v1, v2, v3, v4, v5, v6, v7, v8⟩ := V
  exact ⟨v1.kp2 (e _ _ (by omega)) (fun a j u1 u2 => e a j (by omega)) e2, v2, v3, v4, v5.kp (fun a j u => e a j (by omega)), by rw [e _ _ (by omega)]; exact v6, fun j hj => by rw [e _ _ (by omega)]; exact v7 j hj, v8⟩
theorem Vw.len {I : zI} {m R n : Nat} {N : Nat → Nd} {og : Nat → Nat} (V : Vw I m R n N og) : 1 ≤ (flR N R).length ∧ (flR N R).length ≤ 248 ∧ I.1 491 43 = zi (flR N R).length ∧ 1 ≤ n ∧ n ≤ 100 ∧ I.1 491 25 = zi m ∧ R < m := by
  obtain ⟨v1, v2, v3, v4, v5, v6, v7, v8⟩ := V
  have hl : (flR N R).length = sz N R := fl_len v2 R v4.1 0 0 0 1
  rw [hl]
  refine ⟨sz_pos v2 v4.1, v4.few v2, ?_, v4.2.2.2.2.2.2.1, v4.2.2.2.2.2.2.2, v1.1, v4.1⟩
  rw [← hl]
  exact v5.2.1.1
theorem InP.pos {m R : Nat} {N : Nat → Nd} (hN : NdOk m N) (hR : R < m) : ∀ (p c d : Nat), InP N R c p d → 1 ≤ d ∧ (p = 0 → d = 1 ∧ c = R) ∧ (1 ≤ p → 2 ≤ d) := by
  intro p
  induction p using Nat.strongRecOn with
  | ind p ih =>
    rintro c d ⟨f, h1, h2, h3⟩
    by_cases hp : p = 0
    · subst hp
      change (fl N R 0 0 0 1)[0]? = some f at h1
      rw [fl_eq hN hR] at h1
      cases h1
      unfold flH at h2 h3
      dsimp only at h2 h3
      exact ⟨by omega, fun _ => ⟨by omega, h2.symm⟩, fun u => by omega⟩
    · obtain ⟨-, b2, -⟩ := fl_in hN R hR _ _ _ _ _ _ h1
      obtain ⟨y, i', y1, y2, y3, y4, y5⟩ := b2 (by omega)
      obtain ⟨w1, -, -⟩ := ih i' y1 y.1 y.2.2.2.1 ⟨y, y3, rfl, rfl⟩
      exact ⟨by omega, fun u => absurd u hp, fun _ => by omega⟩
theorem Vw.inp {I : zI} {m R n c p d : Nat} {N : Nat → Nd} {og : Nat → Nat} (V : Vw I m R n N og) (h : InP N R c p d) : c < m ∧ c ≤ R ∧ p < (flR N R).length ∧ I.1 521 p = zi c ∧ I.1 523 c = zi p ∧ (∃ e, p < e ∧ e ≤ (flR N R).length ∧ I.1 522 p = zi e) ∧ c ∈ po N R := by
  obtain ⟨v1, v2, v3, v4, v5, v6, v7, v8⟩ := V
  obtain ⟨f, h1, h2, h3⟩ := h
  have hpl := (List.getElem?_eq_some_iff.mp h1).1
  obtain ⟨t1, t2, t3⟩ := v5.tv p f h1
  obtain ⟨s1, s2, s3⟩ := sz_inR v2 v4.1 h1
  have hpo := fl_po v2 v4.1 h1
  have hle := po_le v2 R v4.1 _ hpo
  have := v4.1
  rw [h2] at t1 t2 hpo hle
  exact ⟨by omega, hle, hpl, t1, t2, ⟨p + f.2.2.2.2, by omega, by omega, t3⟩, hpo⟩
theorem Vw.fst {I : zI} {m R n c p d : Nat} {N : Nat → Nd} {og : Nat → Nat} (V : Vw I m R n N og) (h : InP N R c p d) : ∃ o, o ≤ n - 1 ∧ I.1 526 c = zi o ∧ (1 ≤ ndT (N c) → o + ndT (N c) ≤ n - 1) := by
  obtain ⟨v1, v2, v3, v4, v5, v6, v7, v8⟩ := V
  obtain ⟨f, h1, h2, h3⟩ := h
  have hpl := (List.getElem?_eq_some_iff.mp h1).1
  obtain ⟨-, -, o, o1, o2, o3⟩ := v5.2.1.2.1 p f hpl h1
  obtain ⟨-, -, o', q1, q2, -⟩ := fl_in v2 R v4.1 _ _ _ _ _ _ h1
  rw [v4.tk v2, h2] at q1
  refine ⟨o, o1, by rw [← h2]; exact o2, fun u => ?_⟩
  have e : f.2.2.1 = (o' : Int) := by
    rw [q2]
    unfold flH
    dsimp only
    rw [h2, if_neg (by omega), Nat.zero_add]
  have := o3 (by omega)
  omega
theorem Vw.of {I : zI} {m R n c : Nat} {N : Nat → Nd} {og : Nat → Nat} (V : Vw I m R n N og) (hc : c < 3700) (h : ¬ I.1 523 c < 0) : ∃ p d, InP N R c p d := by
  refine Classical.byContradiction (fun u => h ?_)
  rw [V.2.2.2.2.1.2.1.2.2 c hc (fun i x hi hx e => u ⟨i, x.2.2.2.1, x, hx, e, rfl⟩)]
  decide
theorem Vw.ofpo {I : zI} {m R n c : Nat} {N : Nat → Nd} {og : Nat → Nat} (V : Vw I m R n N og) (h : c ∈ po N R) : ∃ p d, InP N R c p d := by
  rw [← fl_map V.2.1 R V.2.2.2.1.1 0 0 0 1] at h
  obtain ⟨f, hf, e⟩ := List.mem_map.mp h
  obtain ⟨p, hp⟩ := List.mem_iff_getElem?.mp hf
  exact ⟨p, f.2.2.2.1, f, hp, e, rfl⟩
theorem Vw.ch {I : zI} {m R n c p d z : Nat} {N : Nat → Nd} {og : Nat → Nat} (V : Vw I m R n N og) (h : InP N R c p d) (hz : z ∈ ndC (N c)) : ∃ q d', InP N R z q d' :=
  V.ofpo (po_sub V.2.1 R V.2.2.2.1.1 c (V.inp h).2.2.2.2.2.2 z hz)
/-- a good token ahead of END -/
theorem Vw.tok {I : zI} {m R n i : Nat} {N : Nat → Nd} {og : Nat → Nat} (V : Vw I m R n N og) (h : i + 1 < n) : ∃ p d, 2 ≤ d ∧ InP N R (og i) p d := by
  obtain ⟨p, f, a1, a2, a3, a4⟩ := V.2.2.2.1.tok V.2.1 h
  have hI : InP N R (og i) p f.2.2.2.1 := ⟨f, a1, a2, rfl⟩
  exact ⟨p, f.2.2.2.1, (InP.pos V.2.1 V.2.2.2.1.1 _ _ _ hI).2.2 a3, hI⟩
/-! ===== more questions to the model that change nothing ===== -/
theorem Vw.set {m R n i : Nat} {og : Nat → Nat} {N : Nat → Nd} {I : zI} (V : Vw I m R n N og) (hi : i < (setsOf N R).length) : i < 99 ∧ ∃ s p d, I.1 529 i = zi s ∧ InP N R s p d ∧ ndR (N s) = 2 := by
  have hr := List.getElem?_eq_getElem hi
  have l := sets_len V.2.1 V.2.2.2.1
  obtain ⟨f, f1, f2, f3⟩ := st2_mem (List.mem_of_getElem? hr)
  obtain ⟨p, hp⟩ := List.mem_iff_getElem?.mp f1
  exact ⟨by omega, _, p, f.2.2.2.1, V.2.2.2.2.1.2.2.2.2.2.2 i _ hr, ⟨f, hp, f2, rfl⟩, f3⟩
/-! ===== print: the model ===== -/
def Qpp (a j : Nat) : Prop := a = 543 ∨ a = 544 ∨ (a = 491 ∧ j = 80)
/-- bytes that are printed of what lies there; places it comes to take; steps -/
def bB (N : Nat → Nd) (e : Nat) : Nat := if 1000 ≤ e then 8 * ndT (N (e - 1000)) else 1
def bP (N : Nat → Nd) (e : Nat) : Nat := if 1000 ≤ e then sz N (e - 1000) + ndT (N (e - 1000)) else 1
def bM (N : Nat → Nd) (e : Nat) : Nat := if 1000 ≤ e then 2 * (sz N (e - 1000) + ndT (N (e - 1000))) else 1
def sP (N : Nat → Nd) (w : List Nat) : Nat := (w.map (bP N)).sum
theorem sP_cons {N : Nat → Nd} {e : Nat} {w : List Nat} : sP N (e :: w) = bP N e + sP N w := by
  unfold sP
  rw [List.map_cons, List.sum_cons]
theorem bP_nd {N : Nat → Nd} {c : Nat} : bP N (1000 + c) = sz N c + ndT (N c) := by
  unfold bP
  rw [if_pos (by omega), Nat.add_sub_cancel_left]
theorem bM_nd {N : Nat → Nd} {c : Nat} : bM N (1000 + c) = 2 * (sz N c + ndT (N c)) := by
  unfold bM
  rw [if_pos (by omega), Nat.add_sub_cancel_left]
theorem b_by {N : Nat → Nd} {e : Nat} (h : e < 1000) : bB N e = 1 ∧ bP N e = 1 ∧ bM N e = 1 := by
  unfold bB bP bM
  rw [if_neg (by omega), if_neg (by omega), if_neg (by omega)]
  exact ⟨rfl, rfl, rfl⟩
def StkP (I : zI) : List Nat → Prop
  | [] => True
  | e :: w => I.1 543 w.length = zi e ∧ StkP I w
theorem StkP.kp {I J : zI} : ∀ {w : List Nat}, StkP I w → (∀ j, j < w.length → J.1 543 j = I.1 543 j) → StkP J w
  | [], _, _ => trivial
  | e :: w, h, q => ⟨(q w.length (Nat.lt_succ_self _)).trans h.1, h.2.kp (fun j hj => q j (Nat.lt_succ_of_lt hj))⟩
/-- where the good tokens are -/
def GdW (I : zI) (n : Nat) : Prop := ∀ o, o < n → ∃ pl wd, I.1 505 o = zi pl ∧ I.1 506 o = zi wd ∧ wd ≤ 8 ∧ pl + wd ≤ 300
theorem GdW.kp {I J : zI} {n : Nat} (h : GdW I n) (e : ∀ a j, a = 505 ∨ a = 506 → J.1 a j = I.1 a j) : GdW J n := fun o ho => by
  obtain ⟨pl, wd, a, b, c⟩ := h o ho
  exact ⟨pl, wd, by rw [e 505 _ (Or.inl rfl)]; exact a, by rw [e 506 _ (Or.inr rfl)]; exact b, c⟩
/-! ===== print: the walk ===== -/
def EnV (N : Nat → Nd) (R : Nat) (w : List Nat) : Prop := ∀ e ∈ w, e < 1000 ∨ ∃ c p d, e = 1000 + c ∧ InP N R c p d
theorem EnV.pos {m R n : Nat} {N : Nat → Nd} {og : Nat → Nat} {I : zI} (V : Vw I m R n N og) {e : Nat} {w : List Nat} (h : EnV N R (e :: w)) : 1 ≤ bP N e ∧ 1 ≤ bM N e := by
  rcases h e (List.mem_cons_self ..) with u | ⟨c, p, d, u, hI⟩
  · have := b_by (N := N) u
    omega
  · have := sz_pos V.2.1 (V.inp hI).1
    rw [u, bP_nd, bM_nd]
    omega
theorem EnV.len {m R n : Nat} {N : Nat → Nd} {og : Nat → Nat} {I : zI} (V : Vw I m R n N og) : ∀ {w : List Nat}, EnV N R w → w.length ≤ sP N w
  | [], _ => Nat.zero_le _
  | e :: w, h => by
    have h1 := (EnV.pos V h).1
    have h2 := EnV.len V (fun x hx => h x (List.mem_cons_of_mem _ hx))
    rw [List.length_cons, sP_cons]
    omega
theorem EnV.cons {R e : Nat} {N : Nat → Nd} {w : List Nat} (h : EnV N R w) (he : e < 1000 ∨ ∃ c p d, e = 1000 + c ∧ InP N R c p d) : EnV N R (e :: w) := fun x hx => by
  rcases List.mem_cons.mp hx with rfl | hx
  · exact he
  · exact h x hx
/-! ===== print, alike, value, worth: the model ===== -/
def Qal (a j : Nat) : Prop := Qpp a j ∨ a = 545 ∨ Qrk a j
theorem RM.al {I J : zI} {x : Sg} (hv : Iv x) (h : RM I x) (q : eqQ Qal I J) : RM J x := RM.kp (tp := x.1) hv h (fun a j u => q.1 a j (by unfold Qal Qpp Qrk Qna; omega)) (fun a j u => q.2 a j (by unfold Qal Qpp Qrk Qna; omega))
/-! ===== the PAIRS of each TREE that was are there ===== -/
theorem fmP_pre {a b : Nat} {pl : List (Nat × Nat)} : (∃ m, (fmP a b pl).2 = pl ++ m) ∧ (fmP a b pl).2[(fmP a b pl).1]? = some (a, b) := by
  unfold fmP
  cases e : pl.findIdx? (fun p => p == (a, b)) with
  | some j => exact ⟨⟨[], (List.append_nil _).symm⟩, fmp_at e⟩
  | none =>
    refine ⟨⟨[(a, b)], rfl⟩, ?_⟩
    show (pl ++ [(a, b)])[pl.length]? = some (a, b)
    rw [List.getElem?_append_right (Nat.le_refl _), Nat.sub_self]
    rfl
theorem layR_eq {rs : List Nat} {d f part : Nat} {pl : List (Nat × Nat)} (hp : ¬ part ≤ 1) : layR rs (d + 1) f part pl = (10000 + (fmP (layR rs d f ((part + 1) / 2) pl).1 (layR rs d (f + (part + 1) / 2) (part - (part + 1) / 2) (layR rs d f ((part + 1) / 2) pl).2).1 (layR rs d (f + (part + 1) / 2) (part - (part + 1) / 2) (layR rs d f ((part + 1) / 2) pl).2).2).1,
      (fmP (layR rs d f ((part + 1) / 2) pl).1 (layR rs d (f + (part + 1) / 2) (part - (part + 1) / 2) (layR rs d f ((part + 1) / 2) pl).2).1 (layR rs d (f + (part + 1) / 2) (part - (part + 1) / 2) (layR rs d f ((part + 1) / 2) pl).2).2).2) := by
  show (if part ≤ 1 then (rs.getD f 0, pl) else _) = _
  rw [if_neg hp]
theorem layR_one {rs : List Nat} {d f part : Nat} {pl : List (Nat × Nat)} (hp : part ≤ 1) : layR rs (d + 1) f part pl = (rs.getD f 0, pl) := by
  show (if part ≤ 1 then (rs.getD f 0, pl) else _) = _
  rw [if_pos hp]
theorem layR_pre {rs : List Nat} : ∀ (d f part : Nat) (pl : List (Nat × Nat)), ∃ m, (layR rs d f part pl).2 = pl ++ m
  | 0, f, part, pl => ⟨[], (List.append_nil _).symm⟩
  | d + 1, f, part, pl => by
    by_cases hp : part ≤ 1
    · rw [layR_one hp]
      exact ⟨[], (List.append_nil _).symm⟩
    · rw [layR_eq hp]
      obtain ⟨m1, e1⟩ := layR_pre (rs := rs) d f ((part + 1) / 2) pl
      obtain ⟨m2, e2⟩ := layR_pre (rs := rs) d (f + (part + 1) / 2) (part - (part + 1) / 2) (layR rs d f ((part + 1) / 2) pl).2
      obtain ⟨⟨m3, e3⟩, -⟩ := fmP_pre (a := (layR rs d f ((part + 1) / 2) pl).1) (b := (layR rs d (f + (part + 1) / 2) (part - (part + 1) / 2) (layR rs d f ((part + 1) / 2) pl).2).1) (pl := (layR rs d (f + (part + 1) / 2) (part - (part + 1) / 2) (layR rs d f ((part + 1) / 2) pl).2).2)
      refine ⟨m1 ++ (m2 ++ m3), ?_⟩
      dsimp only
      rw [e3, e2, e1, List.append_assoc, List.append_assoc]
theorem layR_ext {rs : List Nat} {F : List (Nat × Nat)} (hu : PrU F) : ∀ (d f part : Nat) (pl : List (Nat × Nat)), (∃ m, F = (layR rs d f part pl).2 ++ m) → layR rs d f part F = ((layR rs d f part pl).1, F)
  | 0, f, part, pl, _ => rfl
  | d + 1, f, part, pl, hF => by
    by_cases hp : part ≤ 1
    · rw [layR_one hp, layR_one hp]
    · obtain ⟨m, hm⟩ := hF
      rw [layR_eq hp] at hm
      rw [layR_eq (pl := F) hp, layR_eq (pl := pl) hp]
      obtain ⟨m2, e2⟩ := layR_pre (rs := rs) d (f + (part + 1) / 2) (part - (part + 1) / 2) (layR rs d f ((part + 1) / 2) pl).2
      obtain ⟨⟨m3, e3⟩, hat⟩ := fmP_pre (a := (layR rs d f ((part + 1) / 2) pl).1) (b := (layR rs d (f + (part + 1) / 2) (part - (part + 1) / 2) (layR rs d f ((part + 1) / 2) pl).2).1) (pl := (layR rs d (f + (part + 1) / 2) (part - (part + 1) / 2) (layR rs d f ((part + 1) / 2) pl).2).2)
      dsimp only at hm
      have i1 := layR_ext (rs := rs) hu d f ((part + 1) / 2) pl ⟨m2 ++ (m3 ++ m), by rw [hm, e3, e2, List.append_assoc, List.append_assoc]⟩
      have i2 := layR_ext (rs := rs) hu d (f + (part + 1) / 2) (part - (part + 1) / 2) (layR rs d f ((part + 1) / 2) pl).2 ⟨m3 ++ m, by rw [hm, e3, List.append_assoc]⟩
      rw [i1]
      dsimp only
      rw [i2]
      dsimp only
      have hat2 : F[(fmP (layR rs d f ((part + 1) / 2) pl).1 (layR rs d (f + (part + 1) / 2) (part - (part + 1) / 2) (layR rs d f ((part + 1) / 2) pl).2).1 (layR rs d (f + (part + 1) / 2) (part - (part + 1) / 2) (layR rs d f ((part + 1) / 2) pl).2).2).1]? = some ((layR rs d f ((part + 1) / 2) pl).1, (layR rs d (f + (part + 1) / 2) (part - (part + 1) / 2) (layR rs d f ((part + 1) / 2) pl).2).1) := by
        have hl := (List.getElem?_eq_some_iff.mp hat).1
        rw [hm, List.getElem?_append_left hl]
        exact hat
      rw [fmp_is hu hat2]
theorem layAllR_pre {rs : List Nat} {pl : List (Nat × Nat)} : ∃ m, layAllR rs pl = pl ++ m := by
  unfold layAllR
  split
  · exact ⟨[], (List.append_nil _).symm⟩
  · exact layR_pre _ _ _ _
theorem layAllR_ext {rs : List Nat} {F pl : List (Nat × Nat)} (hu : PrU F) (hF : ∃ m, F = layAllR rs pl ++ m) : layAllR rs F = F := by
  unfold layAllR at hF ⊢
  split
  · rfl
  · rename_i h
    rw [if_neg h] at hF
    rw [layR_ext hu _ _ _ _ hF]
/-! ===== a TREE looks the same among more nodes ===== -/
theorem rnL_cg {m : Nat} {N N' : Nat → Nd} {F : List Fl} (e : ∀ c, c < m → N' c = N c) (hF : ∀ x ∈ F, x.1 < m) : ∀ d p, rnL N' F d p = rnL N F d p
  | 0, _ => rfl
  | d + 1, p => by
    cases hx : F[p]? with
    | none => rw [rnL_no (List.getElem?_eq_none_iff.mp hx), rnL_no (List.getElem?_eq_none_iff.mp hx)]
    | some x =>
      rw [rnL_at hx, rnL_at hx, e x.1 (hF x (List.mem_of_getElem? hx)), rnL_cg e hF d _, rnL_cg e hF d _]
theorem runsOf_cg {m R : Nat} {N N' : Nat → Nd} (h : NdOk m N) (e : ∀ c, c < m → N' c = N c) (hR : R < m) : runsOf N' R = runsOf N R := by
  unfold runsOf
  rw [flR_cg h e hR]
  refine rnL_cg e (fun x hx => ?_) _ _
  obtain ⟨i, hi⟩ := List.mem_iff_getElem?.mp hx
  have := po_le h R hR _ (fl_po h hR hi)
  omega
theorem rowI_ext {rs : List Nat} {F pl : List (Nat × Nat)} (hu : PrU F) (hF : ∃ m, F = layAllR rs pl ++ m) : rowI rs F = rowI rs pl := by
  unfold layAllR at hF
  unfold rowI
  by_cases h : rs.length = 0
  · rw [if_pos h, if_pos h]
  · rw [if_neg h] at hF
    rw [if_neg h, if_neg h, layR_ext hu _ _ _ _ hF]
/-- and its ROW is theirs -/
def PcM (N : Nat → Nd) (pl : List (Nat × Nat)) (y : Mo) : Prop := layAllR (runsOf N (moR y)) pl = pl ∧ moW y = rowI (runsOf N (moR y)) pl
def Pc (x : Sg) : Prop := PcM (sgN x) (sgP x) (sgC x) ∧ (∀ y ∈ sgA x, PcM (sgN x) (sgP x) y) ∧ ∀ y ∈ sgZ x, PcM (sgN x) (sgP x) y
theorem PcM.cg {m : Nat} {N N' : Nat → Nd} {pl pl' : List (Nat × Nat)} {y : Mo} (hN : NdOk m N) (o : MoOk m N y) (e : ∀ k, k < m → N' k = N k) (hu : PrU pl') (hp : ∃ w, pl' = pl ++ w) (h : PcM N pl y) : PcM N' pl' y := by
  unfold PcM at h ⊢
  rw [runsOf_cg hN e o.2.2.2.1.1]
  obtain ⟨h1, h2⟩ := h
  refine ⟨layAllR_ext (pl := pl) hu (by rw [h1]; exact hp), ?_⟩
  rw [h2]
  exact (rowI_ext (pl := pl) hu (by rw [h1]; exact hp)).symm
theorem chg_pc {x : Sg} {d tp : List Int32} (hv : Iv x) (hd : txOk d) (hr : ¬ refu x d) (he : sgE x < 512) (hp : Pc x) : Pc (chg x d tp) := by
  obtain ⟨m1, g, N1, k, y, hreg, hn, hrun, -, q1, q2, q3, q4, q5, q6, q7, q8⟩ := reg_ok hv hd
  have hu2 : PrU (sgP (chg x d [])) := (chg_ok (tp := []) hv hd hr ⟨Nat.zero_le _, fun b hb => by cases hb⟩ he).2.2.2.2.2.1.1
  obtain ⟨-, hN, hu, -, -, -, -, hC, hA, hZ, -⟩ := hv
  obtain ⟨p1, p2, p3⟩ := hp
  have hY : regY x d = y := by
    unfold regY
    rw [hreg]
  have hA2 : ∀ z ∈ (sgC x :: sgA x).take 20, MoOk (sgM x) (sgN x) z ∧ PcM (sgN x) (sgP x) z := fun z hz => by
    rcases List.mem_cons.mp (List.mem_of_mem_take hz) with rfl | hz
    · exact ⟨hC, p1⟩
    · exact ⟨hA z hz, p2 z hz⟩
  unfold chg newC at hu2
  unfold Pc chg newC
  rw [hY] at hu2 ⊢
  by_cases hg : y.1 + 1 = (lexL d).length ∧ topS y.2.2.2.1 = 1
  · rw [if_pos hg, if_pos hg, if_pos hg, if_pos hg] at hu2 ⊢
    have hu3 : PrU (layAllR (runsOf y.2.2.1 (regR x d)) (sgP x)) := hu2
    refine ⟨⟨?_, (rowI_ext (pl := sgP x) hu3 ⟨[], (List.append_nil _).symm⟩).symm⟩, fun z hz => (hA2 z hz).2.cg hN (hA2 z hz).1 q1 hu3 layAllR_pre, fun z hz => by cases hz⟩
    show layAllR (runsOf y.2.2.1 (regR x d)) (layAllR (runsOf y.2.2.1 (regR x d)) (sgP x)) = layAllR (runsOf y.2.2.1 (regR x d)) (sgP x)
    exact layAllR_ext (pl := sgP x) hu3 ⟨[], (List.append_nil _).symm⟩
  · rw [if_neg hg, if_neg hg, if_neg hg, if_neg hg]
    exact ⟨p1, fun z hz => (hA2 z hz).2, fun z hz => by cases hz⟩
theorem doC_pc {x : Sg} {d : List Int32} {bt : Bool} (hv : Iv x) (hd : BtL d) (he : sgE x < 512) (hp : Pc x) : Pc (doC x d bt).2 := by
  unfold doC
  by_cases u : 300 < d.length ∨ 3000 ≤ sgM x ∨ 3900 ≤ (sgP x).length ∨ 100 < (lexL d).length
  · rw [if_pos u]
    exact hp
  · rw [if_neg u]
    exact chg_pc hv ⟨by omega, hd.at, by omega⟩ u he hp
theorem undo_pc {x : Sg} (hp : Pc x) : Pc (undoR x).2 := by
  obtain ⟨l1, l2, l3⟩ := id hp
  unfold undoR
  cases hA : sgA x with
  | nil => exact hp
  | cons y A =>
    rw [hA] at l2
    refine ⟨l2 y (List.mem_cons_self ..), fun z hz => l2 z (List.mem_cons_of_mem _ hz), fun z hz => ?_⟩
    rcases List.mem_cons.mp hz with rfl | hz
    · exact l1
    · exact l3 z hz
theorem redo_pc {x : Sg} (hp : Pc x) : Pc (redoR x).2 := by
  obtain ⟨l1, l2, l3⟩ := id hp
  unfold redoR
  cases hZ : sgZ x with
  | nil => exact hp
  | cons y Z =>
    rw [hZ] at l3
    refine ⟨l3 y (List.mem_cons_self ..), fun z hz => ?_, fun z hz => l3 z (List.mem_cons_of_mem _ hz)⟩
    rcases List.mem_cons.mp hz with rfl | hz
    · exact l1
    · exact l2 z hz
/-! ===== by which EDIT nodes are made; END is the first node alone ===== -/
def Ev (x : Sg) : Prop := (∀ c, c < sgM x → ndB (sgN x c) ≤ sgE x) ∧ (∀ c, c < sgM x → (ndM (sgN x c) = 15 ↔ c = 0)) ∧ (sgE x = 0 → runsOf (sgN x) (moR (sgC x)) = [] ∧ sgA x = [] ∧ sgZ x = [])
theorem chg_ev {x : Sg} {d tp : List Int32} (hv : Iv x) (hd : txOk d) (h : Ev x) : Ev (chg x d tp) := by
  obtain ⟨m1, g, N1, k, y, hreg, hn, hrun, ⟨-, gi, -, hm0, -⟩, q1, q2, q3, q4, q5, q6, q7, q8⟩ := reg_ok hv hd
  obtain ⟨-, hN, hu, -, -, -, -, hC, -⟩ := hv
  obtain ⟨c1, c2, c3, c4, c5⟩ := id hC
  obtain ⟨e1, e2, e3⟩ := h
  have hx := lex_lxo hd
  have hx' := lex_lxo c2
  obtain ⟨ge, -, -, -, -, -, -, -, -⟩ := naming_ok hN hu c4 c5 hx hx' hn
  have hY : regY x d = y := by
    unfold regY
    rw [hreg]
  have hI := gRun_inv (e := sgE x + 1) ge (P := NwI N1 m1 (sgE x + 1)) (fun a b k _ hp he => hp.nx he) 2000 0 (0, m1, N1, [(0, 0)], 0) gi ⟨Nat.le_refl _, fun c _ => NdE.rf, fun c h1 h2 => absurd h2 (Nat.not_lt.mpr h1)⟩
  rw [hrun] at hI
  obtain ⟨i1, i2, i3⟩ := hI
  dsimp only at i1 i2 i3
  have R0 := c4.1
  have kl := (kept_le (t := txF d) (t' := txF (moG (sgC x))) hx.2.1 hx'.2.1).2.2
  have nw : ∀ c, sgM x ≤ c → c < y.2.1 → ndB (y.2.2.1 c) = sgE x + 1 ∧ ndM (y.2.2.1 c) ≠ 15 := fun c h1 h2 => by
    by_cases u : c < m1
    · obtain ⟨i', b1, b2, b3, b4⟩ := namF_wn _ _ _ _ _ _ _ _ hn c h1 u
      have w := i2 c u
      rw [b4] at w
      refine ⟨w.2.2.2.1, ?_⟩
      rw [w.M]
      have hil : i' < (lexL d).length := by omega
      have hat : (lexL d)[i']? = some ((lexL d).getD i' (10, 0, 0)) := by
        rw [List.getD_eq_getElem?_getD, List.getElem?_eq_getElem hil]
        rfl
      have hk : ((lexL d).getD i' (10, 0, 0)).1 ≠ 10 := fun v => by
        have := (hx.2.2.2 i' _ hat).mp v
        unfold wasN at b3
        split at b3
        · cases b3
        · rw [if_pos (by omega)] at b3
          cases b3
      show (if (-2 : Int) < 0 then 5 + ((lexL d).getD i' (10, 0, 0)).1 else _) ≠ 15
      rw [if_pos (by decide)]
      omega
    · obtain ⟨b1, b2⟩ := i3 c (by omega) h2
      refine ⟨b1, ?_⟩
      rcases q4 c h2 with ⟨f1, -⟩ | ⟨r, s, f1, -, f3, -⟩
      · omega
      · unfold ndM
        rw [if_neg (by omega), f3]
        have := (sy_fin r f1).2
        change syN r < 5 at this
        show syN r ≠ 15
        omega
  unfold Ev chg
  rw [hY]
  by_cases hg : y.1 + 1 = (lexL d).length ∧ topS y.2.2.2.1 = 1
  · rw [if_pos hg, if_pos hg]
    refine ⟨fun c hc => ?_, fun c hc => ?_, fun z => absurd z (Nat.succ_ne_zero _)⟩
    · change c < y.2.1 at hc
      show ndB (y.2.2.1 c) ≤ sgE x + 1
      by_cases u : c < sgM x
      · rw [q1 c u]
        have := e1 c u
        omega
      · rw [(nw c (by omega) hc).1]
        exact Nat.le_refl _
    · change c < y.2.1 at hc
      show ndM (y.2.2.1 c) = 15 ↔ c = 0
      by_cases u : c < sgM x
      · rw [q1 c u]
        exact e2 c u
      · exact ⟨fun v => absurd v (nw c (by omega) hc).2, fun v => by omega⟩
  · rw [if_neg hg, if_neg hg]
    refine ⟨fun c hc => ?_, fun c hc => e2 c hc, fun z => absurd z (Nat.succ_ne_zero _)⟩
    have := e1 c hc
    show ndB (sgN x c) ≤ sgE x + 1
    omega
theorem doC_ev {x : Sg} {d : List Int32} {bt : Bool} (hv : Iv x) (hd : BtL d) (h : Ev x) : Ev (doC x d bt).2 := by
  unfold doC
  by_cases u : 300 < d.length ∨ 3000 ≤ sgM x ∨ 3900 ≤ (sgP x).length ∨ 100 < (lexL d).length
  · rw [if_pos u]
    exact h
  · rw [if_neg u]
    exact chg_ev hv ⟨by omega, hd.at, by omega⟩ h
theorem undo_ev {x : Sg} (h : Ev x) : Ev (undoR x).2 := by
  obtain ⟨e1, e2, e3⟩ := id h
  unfold undoR
  cases hA : sgA x with
  | nil => exact h
  | cons y A =>
    refine ⟨e1, e2, fun z => ?_⟩
    have := (e3 z).2.1
    rw [hA] at this
    cases this
theorem redo_ev {x : Sg} (h : Ev x) : Ev (redoR x).2 := by
  obtain ⟨e1, e2, e3⟩ := id h
  unfold redoR
  cases hZ : sgZ x with
  | nil => exact h
  | cons y Z =>
    refine ⟨e1, e2, fun z => ?_⟩
    have := (e3 z).2.2
    rw [hZ] at this
    cases this
/-! ===== the law's cases ===== -/
def Lsv (x : Sg) : Prop := Iv x ∧ Lv x ∧ Pc x ∧ Ev x ∧ Fr x
theorem RM.cl {I J : zI} {x : Sg} (hv : Iv x) (h : RM I x) (q : eqQ Qcl I J) : RM J x := RM.kp (tp := x.1) hv h (fun a j u => q.1 a j (by unfold Qcl; omega)) (fun a j u => q.2 a j (by unfold Qcl; omega))
theorem doC_ls {x : Sg} {d : List Int32} {bt : Bool} (h : Lsv x) (hd : BtL d) (he : sgE x < 512) : Lsv (doC x d bt).2 ∧ sgE (doC x d bt).2 ≤ sgE x + 1 := by
  obtain ⟨h1, h2, h3, h4, h5⟩ := h
  obtain ⟨a, b⟩ := doC_iv (bt := bt) h1 hd he
  exact ⟨⟨a, doC_lv h1 hd h2, doC_pc h1 hd he h3, doC_ev h1 hd h4, doC_fr h1 hd h2 h5⟩, b⟩
theorem undo_ls {x : Sg} (h : Lsv x) : Lsv (undoR x).2 ∧ sgE (undoR x).2 ≤ sgE x + 1 := by
  obtain ⟨a, b⟩ := undo_iv h.1
  exact ⟨⟨a, undo_lv h.2.1, undo_pc h.2.2.1, undo_ev h.2.2.2.1, undo_fr h.2.2.2.2⟩, by omega⟩
theorem redo_ls {x : Sg} (h : Lsv x) : Lsv (redoR x).2 ∧ sgE (redoR x).2 ≤ sgE x + 1 := by
  obtain ⟨a, b⟩ := redo_iv h.1
  exact ⟨⟨a, redo_lv h.2.1, redo_pc h.2.2.1, redo_ev h.2.2.2.1, redo_fr h.2.2.2.2⟩, by omega⟩
theorem tape_ls {x : Sg} {tp : List Int32} (h : Lsv x) (h1 : tp.length ≤ 200) (h2 : ∀ b ∈ tp, byt b) : Lsv (tp, x.2) := by
  obtain ⟨⟨a1, a2⟩, b, c⟩ := h
  exact ⟨⟨⟨h1, h2⟩, a2⟩, b, c⟩
theorem RX.tp {I J : zI} {x : Sg} {tp : List Int32} (hv : Iv x) (h : RX I x) (q : eqQ Qtx I J) (t : TapX J tp) : RX J (tp, x.2) := by
  have e : ∀ a j, ¬ Qtx a j → J.1 a j = I.1 a j := fun a j u => q.1 a j u
  obtain ⟨r1, r2, r3, r4, r5, r6, r7, s, hs, s4, sC, sA, sZ⟩ := h
  have zm : ∀ i, zmom i = 113 + 18 * i := fun i => rfl
  have mk : ∀ i y, i < 21 → MoX I (zmom i) y → MoX J (zmom i) y := fun i y hi hm => hm.kp (fun a j u1 u2 => e a j (by have := zm i; unfold Qtx; omega))
  exact ⟨t, r2.kp hv.2.1.ch (fun a j h1 h2 h3 => e a j (by unfold Qtx; omega)), r3.kp (fun a j h => e a j (by unfold Qtx; omega)), r4.kp (fun a j h1 h2 h3 => e a j (by unfold Qtx; omega)), r5.kp (fun a j u => e a j (by unfold Qtx; omega)), (e _ _ (by unfold Qtx; omega)).trans r6, (e _ _ (by unfold Qtx; omega)).trans r7, s, hs, (e _ _ (by unfold Qtx; omega)).trans s4, mk _ _ hs sC, fun k y hy => mk _ _ (by omega) (sA k y hy), fun k y hy => mk _ _ (by omega) (sZ k y hy)⟩
theorem RM.tp {I J : zI} {x : Sg} {tp : List Int32} (hv : Iv x) (h : RM I x) (q : eqQ Qtm I J) (t : TapM J tp) : RM J (tp, x.2) := by
  obtain ⟨r1, r2, r3, r4, r5, r6, r7, nw, sC, sA, sZ⟩ := h
  obtain ⟨hTp, hN, hu, hm, hTk, hP, hE, hC, hA, hZ, hAZ⟩ := hv
  have e : ∀ a j, ¬ Qtm a j → J.1 a j = I.1 a j := fun a j u => q.1 a j u
  have e2 : ∀ a j, a = 507 ∨ a = 511 → J.2 a j = I.2 a j := fun a j u => q.2 a j (by unfold Qtm; omega)
  exact ⟨t, r2.kp2 (e _ _ (by unfold Qtm; omega)) (fun a j u1 u2 => e a j (by unfold Qtm; omega)) (fun j => e2 511 j (Or.inr rfl)), r3.kp (fun a j u => e a j (by unfold Qtm; omega)), r4.kp (fun a j u => e a j (by unfold Qtm; omega)), r5.kp (fun a j u => e a j (by unfold Qtm; omega)), (e _ _ (by unfold Qtm; omega)).trans r6, (e _ _ (by unfold Qtm; omega)).trans r7, nw.kp (fun a j u => e a j (by unfold Qtm; omega)) (fun j => e2 507 j (Or.inl rfl)), sC.kp hC.1 hC.2.1 (fun j _ _ => e _ _ (by unfold Qtm; omega)), fun k y hy => (sA k y hy).kp (hA y (List.mem_of_getElem? hy)).1 (hA y (List.mem_of_getElem? hy)).2.1 (fun j _ _ => e _ _ (by unfold Qtm; omega)), fun k y hy => (sZ k y hy).kp (hZ y (List.mem_of_getElem? hy)).1 (hZ y (List.mem_of_getElem? hy)).2.1 (fun j _ _ => e _ _ (by unfold Qtm; omega))⟩
