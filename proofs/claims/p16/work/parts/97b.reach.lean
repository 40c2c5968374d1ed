/-! ===== growing from nothing passes where a TREE's subtrees stand ===== -/
def Rch (kd : Nat → Nat) (x y : Nat × List (Nat × Nat)) : Prop := ∃ d, lIt kd d x = some y
theorem lIt_add {kd : Nat → Nat} {a : Nat} {x : Nat × List (Nat × Nat)} : ∀ b : Nat, lIt kd (a + b) x = (lIt kd a x).bind (lIt kd b)
  | 0 => by
    show lIt kd a x = _
    cases lIt kd a x with
    | none => rfl
    | some y => rfl
  | b + 1 => by
    show (lIt kd (a + b) x).bind _ = _
    rw [lIt_add b]
    cases lIt kd a x with
    | none => rfl
    | some y => rfl
theorem Rch.rf {kd : Nat → Nat} {x : Nat × List (Nat × Nat)} : Rch kd x x := ⟨0, rfl⟩
theorem Rch.tr {kd : Nat → Nat} {x y z : Nat × List (Nat × Nat)} (h1 : Rch kd x y) (h2 : Rch kd y z) : Rch kd x z := by
  obtain ⟨a, ha⟩ := h1
  obtain ⟨b, hb⟩ := h2
  exact ⟨a + b, by rw [lIt_add, ha]; exact hb⟩
theorem Rch.one {kd : Nat → Nat} {i : Nat} {st : List (Nat × Nat)} {y : Nat × List (Nat × Nat)} (h : lNx kd i st = some y) : Rch kd (i, st) y := ⟨1, h⟩
theorem lIt_no {kd : Nat → Nat} {x : Nat × List (Nat × Nat)} (h : lNx kd x.1 x.2 = none) (d : Nat) : lIt kd (d + 1) x = none := by
  rw [Nat.add_comm, lIt_add]
  show (Option.bind (Option.bind (some x) (fun y => lNx kd y.1 y.2)) _) = none
  show (Option.bind (lNx kd x.1 x.2) _) = none
  rw [h]
  rfl
theorem Rch.det {kd : Nat → Nat} {x y z : Nat × List (Nat × Nat)} (h1 : Rch kd x y) (h2 : Rch kd x z) (n1 : lNx kd y.1 y.2 = none) (n2 : lNx kd z.1 z.2 = none) : y = z := by
  obtain ⟨a, ha⟩ := h1
  obtain ⟨b, hb⟩ := h2
  have key : ∀ {a b : Nat} {y z : Nat × List (Nat × Nat)}, a ≤ b → lIt kd a x = some y → lIt kd b x = some z → lNx kd y.1 y.2 = none → y = z := by
    intro a b y z hab ha hb n1
    obtain ⟨k, rfl⟩ := Nat.le.dest hab
    rw [lIt_add, ha] at hb
    change lIt kd k y = some z at hb
    cases k with
    | zero => exact Option.some.inj hb
    | succ k =>
      rw [lIt_no n1] at hb
      cases hb
  by_cases u : a ≤ b
  · exact key u ha hb n1
  · exact (key (by omega) hb ha n2).symm
/-- only the KINDS passed and the next one matter -/
theorem lIt_sh {kd kd' : Nat → Nat} {t t' : Nat} {st : List (Nat × Nat)} : ∀ (d u : Nat) (w : List (Nat × Nat)), lIt kd d (t, st) = some (u, w) → t ≤ u ∧ ((∀ q, q ≤ u - t → kd' (t' + q) = kd (t + q)) → lIt kd' d (t', st) = some (t' + (u - t), w))
  | 0, u, w, h => by
    cases h
    refine ⟨Nat.le_refl _, fun _ => ?_⟩
    rw [Nat.sub_self]
    rfl
  | d + 1, u, w, h => by
    change (lIt kd d (t, st)).bind (fun y => lNx kd y.1 y.2) = some (u, w) at h
    cases h1 : lIt kd d (t, st) with
    | none =>
      rw [h1] at h
      cases h
    | some y =>
      obtain ⟨v, r⟩ := y
      rw [h1] at h
      change lNx kd v r = some (u, w) at h
      obtain ⟨i1, i2⟩ := lIt_sh d v r h1
      have hvu : v ≤ u ∧ u ≤ v + 1 := by
        unfold lNx at h
        by_cases hz : ldN (topS r) (5 + kd v) = 0
        · rw [if_pos hz] at h
          cases hr : rlN (topS r) with
          | none =>
            rw [hr] at h
            cases h
          | some x =>
            rw [hr] at h
            cases h
            omega
        · rw [if_neg hz] at h
          cases h
          omega
      refine ⟨by omega, fun e => ?_⟩
      show (lIt kd' d (t', st)).bind (fun y => lNx kd' y.1 y.2) = _
      rw [i2 (fun q hq => e q (by omega))]
      show lNx kd' (t' + (v - t)) r = _
      have ek : kd' (t' + (v - t)) = kd v := by
        rw [e (v - t) (by omega), show t + (v - t) = v by omega]
      unfold lNx at h ⊢
      rw [ek]
      by_cases hz : ldN (topS r) (5 + kd v) = 0
      · rw [if_pos hz] at h ⊢
        cases hr : rlN (topS r) with
        | none =>
          rw [hr] at h
          cases h
        | some x =>
          rw [hr] at h
          cases h
          rfl
      · rw [if_neg hz] at h ⊢
        cases h
        rw [show t' + (v + 1 - t) = t' + (v - t) + 1 by omega]
theorem Rch.sh {kd kd' : Nat → Nat} {t t' T : Nat} {st w : List (Nat × Nat)} (h : Rch kd (t, st) (t + T, w)) (e : ∀ q, q ≤ T → kd' (t' + q) = kd (t + q)) : Rch kd' (t', st) (t' + T, w) := by
  obtain ⟨d, hd⟩ := h
  have := (lIt_sh (kd' := kd') (t' := t') d _ _ hd).2
  rw [show t + T - t = T by omega] at this
  exact ⟨d, this e⟩
theorem RC.tr {kd : Nat → Nat} {a b : Nat} {x y z : Nat × List (Nat × Nat)} (h1 : lIt kd a x = some y) (h2 : lIt kd b y = some z) : lIt kd (a + b) x = some z := by
  rw [lIt_add, h1]
  exact h2
theorem RC.one {kd : Nat → Nat} {i : Nat} {st : List (Nat × Nat)} {y : Nat × List (Nat × Nat)} (h : lNx kd i st = some y) : lIt kd 1 (i, st) = some y := h
theorem RC.sh {kd kd' : Nat → Nat} {d t t' T : Nat} {st w : List (Nat × Nat)} (h : lIt kd d (t, st) = some (t + T, w)) (e : ∀ q, q ≤ T → kd' (t' + q) = kd (t + q)) : lIt kd' d (t', st) = some (t' + T, w) := by
  have := (lIt_sh (kd' := kd') (t' := t') d _ _ h).2
  rw [show t + T - t = T by omega] at this
  exact this e
theorem RC.cnt {kd : Nat → Nat} {a b : Nat} {x y z : Nat × List (Nat × Nat)} (ha : lIt kd a x = some y) (hb : lIt kd b x = some z) (n1 : lNx kd y.1 y.2 = none) (n2 : lNx kd z.1 z.2 = none) : a = b := by
  have key : ∀ {a b : Nat} {y z : Nat × List (Nat × Nat)}, a ≤ b → lIt kd a x = some y → lIt kd b x = some z → lNx kd y.1 y.2 = none → a = b := by
    intro a b y z hab ha hb n1
    obtain ⟨k, rfl⟩ := Nat.le.dest hab
    rw [lIt_add, ha] at hb
    change lIt kd k y = some z at hb
    cases k with
    | zero => rfl
    | succ k =>
      rw [lIt_no n1] at hb
      cases hb
  by_cases u : a ≤ b
  · exact key u ha hb n1
  · exact (key (by omega) hb ha n2).symm
theorem sz_cg {m c : Nat} {N N' : Nat → Nd} (h : NdOk m N) (e : ∀ c, c < m → NdE (N c) (N' c)) (hc : c < m) : sz N' c = sz N c := congrArg List.length (po_cg h e hc)
/-- from any stack with s on top: the node c, whose first TOKEN is t, is come to, in as many steps as it has nodes -/
def ownL (N : Nat → Nd) (kd : Nat → Nat) (c t : Nat) : Prop := ∀ r s : Nat, r < 11 → ndR (N c) = r → ndS (N c) = s → ∀ st : List (Nat × Nat), 1 ≤ st.length → topS st = s → lIt kd (sz N c) (t, st) = some (t + ndT (N c), st ++ [(0, ldN s (syN r))])
def TLs (P : Nat → Nat → Prop) (N : Nat → Nd) : List Nat → Nat → Prop
  | [], _ => True
  | c :: l, t => P c t ∧ TLs P N l (t + ndT (N c))
def TLF (N : Nat → Nd) (kd : Nat → Nat) : Nat → Nat → Nat → Prop
  | 0, _, _ => True
  | f + 1, c, t => ownL N kd c t ∧ TLs (TLF N kd f) N (ndC (N c)) t
/-- so for a node and all below -/
def TL (N : Nat → Nd) (kd : Nat → Nat) (c t : Nat) : Prop := ∀ f, TLF N kd f c t
theorem TLs_mono {P Q : Nat → Nat → Prop} {N : Nat → Nd} : ∀ {l : List Nat} {t : Nat}, (∀ c ∈ l, ∀ t, P c t → Q c t) → TLs P N l t → TLs Q N l t
  | [], _, _, _ => trivial
  | c :: l, t, h, h1 => ⟨h c (List.mem_cons_self ..) t h1.1, TLs_mono (fun x hx => h x (List.mem_cons_of_mem _ hx)) h1.2⟩
theorem TLs_all {P : Nat → Nat → Nat → Prop} {N : Nat → Nd} : ∀ {l : List Nat} {t : Nat}, (∀ f, TLs (P f) N l t) → TLs (fun c t => ∀ f, P f c t) N l t
  | [], _, _ => trivial
  | c :: l, t, h => ⟨fun f => (h f).1, TLs_all (fun f => (h f).2)⟩
theorem TL_eq {N : Nat → Nd} {kd : Nat → Nat} {c t : Nat} : TL N kd c t ↔ ownL N kd c t ∧ TLs (TL N kd) N (ndC (N c)) t := by
  constructor
  · intro h
    exact ⟨(h 1).1, TLs_all (P := TLF N kd) (fun f => (h (f + 1)).2)⟩
  · intro h f
    cases f with
    | zero => trivial
    | succ f => exact ⟨h.1, TLs_mono (fun c _ t u => u f) h.2⟩
/-- children, and where they begin -/
theorem TLs_at {P : Nat → Nat → Prop} {N : Nat → Nd} : ∀ {l : List Nat} {t k z : Nat}, TLs P N l t → l[k]? = some z → P z (t + tkS N (l.take k))
  | [], _, k, z, _, hk => by cases hk
  | c :: l, t, 0, z, h, hk => by
    cases hk
    exact h.1
  | c :: l, t, k + 1, z, h, hk => by
    rw [List.getElem?_cons_succ] at hk
    have := TLs_at h.2 hk
    rw [Nat.add_assoc] at this
    rw [List.take_succ_cons, tkS_cons]
    exact this
theorem TL.fl {m : Nat} {N : Nat → Nd} {kd : Nat → Nat} (hN : NdOk m N) (c : Nat) : c < m → ∀ q p t dep : Nat, TL N kd c t → ∀ x ∈ fl N c q p t dep, ∀ j : Nat, x.2.2.1 = (j : Int) → TL N kd x.1 j := by
  induction c using Nat.strongRecOn with
  | ind c ih =>
    intro hc q p t dep h x hx j hj
    rw [fl_eq hN hc] at hx
    rcases List.mem_cons.mp hx with rfl | hx
    · unfold flH at hj ⊢
      dsimp only at hj ⊢
      by_cases u : ndT (N c) = 0
      · rw [if_pos u] at hj
        omega
      · rw [if_neg u] at hj
        have : t = j := by omega
        rw [← this]
        exact h
    · obtain ⟨i, hi⟩ := List.mem_iff_getElem?.mp hx
      obtain ⟨k, z, i', k1, k2, k3, k4⟩ := flL_at (fun y hy p' t' => fl_len hN y (by have := hN.lt hc hy; omega) _ _ _ _) hi
      have hz := hN.lt hc (List.mem_of_getElem? k1)
      exact ih z hz (by omega) _ _ _ _ (TLs_at (TL_eq.mp h).2 k1) x (List.mem_of_getElem? k4) j hj
/-- alike in other KINDS -/
theorem TLs_sh {kd kd' : Nat → Nat} {N : Nat → Nd} {P Q : Nat → Nat → Prop} : ∀ {l : List Nat} {t t' : Nat}, (∀ q, q ≤ tkS N l → kd' (t' + q) = kd (t + q)) → (∀ c ∈ l, ∀ t t', (∀ q, q ≤ ndT (N c) → kd' (t' + q) = kd (t + q)) → P c t → Q c t') → TLs P N l t → TLs Q N l t'
  | [], _, _, _, _, _ => trivial
  | c :: l, t, t', e, h, h1 => by
    rw [tkS_cons] at e
    refine ⟨h c (List.mem_cons_self ..) t t' (fun q hq => e q (by omega)) h1.1, TLs_sh (fun q hq => ?_) (fun x hx => h x (List.mem_cons_of_mem _ hx)) h1.2⟩
    rw [Nat.add_assoc, Nat.add_assoc]
    exact e _ (by omega)
theorem TL.sh {m : Nat} {N : Nat → Nd} {kd kd' : Nat → Nat} (hN : NdOk m N) (c : Nat) : c < m → ∀ t t' : Nat, (∀ q, q ≤ ndT (N c) → kd' (t' + q) = kd (t + q)) → TL N kd c t → TL N kd' c t' := by
  induction c using Nat.strongRecOn with
  | ind c ih =>
    intro hc t t' e h
    obtain ⟨h1, h2⟩ := TL_eq.mp h
    refine TL_eq.mpr ⟨fun r s hr e1 e2 st l1 l2 => RC.sh (h1 r s hr e1 e2 st l1 l2) e, ?_⟩
    rcases hN c hc with ⟨-, e0, -⟩ | ⟨r, s, -, -, -, -, -, -, -, eT⟩
    · rw [e0]
      trivial
    · rw [eT] at e
      exact TLs_sh e (fun x hx u u' e' => ih x (hN.lt hc hx) (by have := hN.lt hc hx; omega) u u' e') h2
/-- nodes alike but for TOKENS' STATES -/
theorem TLs_cg {N N' : Nat → Nd} {P Q : Nat → Nat → Prop} : ∀ {l : List Nat} {t : Nat}, (∀ c ∈ l, ndT (N' c) = ndT (N c)) → (∀ c ∈ l, ∀ t, P c t → Q c t) → TLs P N l t → TLs Q N' l t
  | [], _, _, _, _ => trivial
  | c :: l, t, e, h, h1 => by
    refine ⟨h c (List.mem_cons_self ..) t h1.1, ?_⟩
    rw [e c (List.mem_cons_self ..)]
    exact TLs_cg (fun x hx => e x (List.mem_cons_of_mem _ hx)) (fun x hx => h x (List.mem_cons_of_mem _ hx)) h1.2
def NdF (N N' : Nat → Nd) (c : Nat) : Prop := NdE (N c) (N' c) ∧ (0 ≤ ndR (N c) → ndS (N' c) = ndS (N c))
theorem ownL.cg {N N' : Nat → Nd} {kd : Nat → Nat} {c t : Nat} (hs : sz N' c = sz N c) (e : NdF N N' c) (h : ownL N kd c t) : ownL N' kd c t := by
  obtain ⟨⟨e1, e2, e3, e4, e5, e6⟩, e7⟩ := e
  intro r s hr h1 h2 st l1 l2
  rw [e3, hs]
  rw [e1] at h1
  rw [e7 (by omega)] at h2
  exact h r s hr h1 h2 st l1 l2
theorem TL.cg {m : Nat} {N N' : Nat → Nd} {kd : Nat → Nat} (hN : NdOk m N) (e : ∀ c, c < m → NdF N N' c) (c : Nat) : c < m → ∀ t : Nat, TL N kd c t → TL N' kd c t := by
  induction c using Nat.strongRecOn with
  | ind c ih =>
    intro hc t h
    obtain ⟨h1, h2⟩ := TL_eq.mp h
    refine TL_eq.mpr ⟨h1.cg (sz_cg hN (fun c hc => (e c hc).1) hc) (e c hc), ?_⟩
    rw [(e c hc).1.2.2.2.2.1]
    exact TLs_cg (fun x hx => (e x (by have := hN.lt hc hx; omega)).1.2.2.1) (fun x hx u h' => ih x (hN.lt hc hx) (by have := hN.lt hc hx; omega) u h') h2
/-! ===== the stack ===== -/
def z0 (l : List (Nat × Nat)) : List (Nat × Nat) := l.map (fun p => (0, p.2))
def tkL (N : Nat → Nd) (l : List (Nat × Nat)) : Nat := tkS N (l.map (fun p => p.1))
def lstS (s : Nat) : List (Nat × Nat) → Nat
  | [] => s
  | p :: l => lstS p.2 l
def SL (N : Nat → Nd) (kd : Nat → Nat) : Nat → Nat → List (Nat × Nat) → Prop
  | _, _, [] => True
  | s, t, p :: l => (∀ st : List (Nat × Nat), 1 ≤ st.length → topS st = s → lIt kd (sz N p.1) (t, st) = some (t + ndT (N p.1), st ++ [(0, p.2)])) ∧ TL N kd p.1 t ∧ SL N kd p.2 (t + ndT (N p.1)) l
def szL (N : Nat → Nd) (l : List (Nat × Nat)) : Nat := szS N (l.map (fun p => p.1))
theorem szL_cons {N : Nat → Nd} {p : Nat × Nat} {l : List (Nat × Nat)} : szL N (p :: l) = sz N p.1 + szL N l := szS_cons
theorem tkL_cons {N : Nat → Nd} {p : Nat × Nat} {l : List (Nat × Nat)} : tkL N (p :: l) = ndT (N p.1) + tkL N l := tkS_cons
theorem top_z0 {l : List (Nat × Nat)} : ∀ {st : List (Nat × Nat)}, 1 ≤ st.length → topS (st ++ z0 l) = lstS (topS st) l := by
  induction l with
  | nil =>
    intro st h
    show topS (st ++ []) = _
    rw [List.append_nil]
    rfl
  | cons p l ih =>
    intro st h
    show topS (st ++ ((0, p.2) :: z0 l)) = lstS p.2 l
    rw [show st ++ ((0, p.2) :: z0 l) = (st ++ [(0, p.2)]) ++ z0 l by rw [List.append_assoc]; rfl, ih (by rw [List.length_append]; exact Nat.le_add_left _ _), topS_snoc]
theorem SL.run {N : Nat → Nd} {kd : Nat → Nat} : ∀ {l : List (Nat × Nat)} {s t : Nat}, SL N kd s t l → ∀ st : List (Nat × Nat), 1 ≤ st.length → topS st = s → lIt kd (szL N l) (t, st) = some (t + tkL N l, st ++ z0 l)
  | [], s, t, _, st, h1, h2 => by
    show some (t, st) = some (t + 0, st ++ [])
    rw [List.append_nil]
    rfl
  | p :: l, s, t, h, st, h1, h2 => by
    have a := h.1 st h1 h2
    have b := SL.run h.2.2 (st ++ [(0, p.2)]) (by rw [List.length_append]; exact Nat.le_add_left _ _) topS_snoc
    rw [szL_cons, tkL_cons, ← Nat.add_assoc]
    refine RC.tr a ?_
    rw [List.append_assoc] at b
    exact b
theorem SL_app {N : Nat → Nd} {kd : Nat → Nat} {l2 : List (Nat × Nat)} : ∀ {l : List (Nat × Nat)} {s t : Nat}, SL N kd s t (l ++ l2) ↔ SL N kd s t l ∧ SL N kd (lstS s l) (t + tkL N l) l2
  | [], s, t => by
    show SL N kd s t l2 ↔ True ∧ SL N kd s (t + 0) l2
    rw [Nat.add_zero, true_and]
  | p :: l, s, t => by
    show (_ ∧ _ ∧ SL N kd p.2 (t + ndT (N p.1)) (l ++ l2)) ↔ ((_ ∧ _ ∧ SL N kd p.2 (t + ndT (N p.1)) l) ∧ SL N kd (lstS p.2 l) (t + tkL N (p :: l)) l2)
    rw [SL_app, tkL_cons, ← Nat.add_assoc]
    constructor
    · rintro ⟨a, b, c, d⟩
      exact ⟨⟨a, b, c⟩, d⟩
    · rintro ⟨⟨a, b, c⟩, d⟩
      exact ⟨a, b, c, d⟩
theorem SL.tl {N : Nat → Nd} {kd : Nat → Nat} : ∀ {l : List (Nat × Nat)} {s t : Nat}, SL N kd s t l → TLs (TL N kd) N (l.map (fun p => p.1)) t
  | [], _, _, _ => trivial
  | p :: l, s, t, h => ⟨h.2.1, SL.tl h.2.2⟩
theorem SL.cg {m : Nat} {N N' : Nat → Nd} {kd : Nat → Nat} (hN : NdOk m N) (e : ∀ c, c < m → NdF N N' c) : ∀ {l : List (Nat × Nat)} {s t : Nat}, (∀ p ∈ l, p.1 < m) → SL N kd s t l → SL N' kd s t l
  | [], _, _, _, _ => trivial
  | p :: l, s, t, hl, h => by
    have hp := hl p (List.mem_cons_self ..)
    have eT : ndT (N' p.1) = ndT (N p.1) := (e _ hp).1.2.2.1
    have eS : sz N' p.1 = sz N p.1 := sz_cg hN (fun c hc => (e c hc).1) hp
    refine ⟨fun st h1 h2 => ?_, h.2.1.cg hN e _ hp _, ?_⟩
    · rw [eT, eS]
      exact h.1 st h1 h2
    · rw [eT]
      exact SL.cg hN e (fun q hq => hl q (List.mem_cons_of_mem _ hq)) h.2.2
theorem tkL_cg {N N' : Nat → Nd} : ∀ {l : List (Nat × Nat)}, (∀ p ∈ l, ndT (N' p.1) = ndT (N p.1)) → tkL N' l = tkL N l
  | [], _ => rfl
  | p :: l, h => by
    rw [tkL_cons, tkL_cons, h p (List.mem_cons_self ..), tkL_cg (fun q hq => h q (List.mem_cons_of_mem _ hq))]
theorem tkL_app {N : Nat → Nd} {l2 : List (Nat × Nat)} : ∀ {l : List (Nat × Nat)}, tkL N (l ++ l2) = tkL N l + tkL N l2
  | [] => (Nat.zero_add _).symm
  | p :: l => by
    show tkL N (p :: (l ++ l2)) = _
    rw [tkL_cons, tkL_cons, tkL_app, Nat.add_assoc]
theorem lstS_app {l2 : List (Nat × Nat)} : ∀ {l : List (Nat × Nat)} {s : Nat}, lstS s (l ++ l2) = lstS (lstS s l) l2
  | [], _ => rfl
  | p :: l, s => lstS_app (l := l)
theorem topS_cons {p : Nat × Nat} {l : List (Nat × Nat)} : topS (p :: l) = lstS p.2 l := by
  have : ∀ (l st : List (Nat × Nat)), 1 ≤ st.length → topS (st ++ l) = lstS (topS st) l := by
    intro l
    induction l with
    | nil =>
      intro st h
      rw [List.append_nil]
      rfl
    | cons q l ih =>
      intro st h
      rw [show st ++ (q :: l) = (st ++ [q]) ++ l by rw [List.append_assoc]; rfl, ih _ (by rw [List.length_append]; exact Nat.le_add_left _ _), topS_snoc]
      rfl
  exact this l [p] (Nat.le_refl _)
