/-! ===== what the model sees of the TREE ===== -/
def InP (N : Nat → Nd) (R c p d : Nat) : Prop := ∃ f : Fl, (flR N R)[p]? = some f ∧ f.1 = c ∧ f.2.2.2.1 = d
def Vw (I : zI) (m R n : Nat) (N : Nat → Nd) (og : Nat → Nat) : Prop :=
  RepNM I m N ∧ NdOk m N ∧ m ≤ 3250 ∧ TreeI m N R n og ∧ ViM I N R n ∧ I.1 491 19 = zi n ∧ (∀ j, j < n → I.1 508 j = zi (og j)) ∧ ∀ c, c < m → ndT (N c) ≤ 100
theorem RM.view {I : zI} {x : Sg} (hv : Iv x) (h : RM I x) : Vw I (sgM x) (moR (sgC x)) (lexL (moG (sgC x))).length (sgN x) (moO (sgC x)) := by
  obtain ⟨r1, r2, r3, r4, r5, r6, r7, nw, -⟩ := h
  obtain ⟨hTp, hN, hu, hm, hTk, hP, hE, hC, hA, hZ, hAZ⟩ := hv
  exact ⟨r2, hN, hm, hC.2.2.2.1, r3, nw.2.2.2.2.2.2.1.1, nw.2.2.2.2.2.2.2.1, hTk⟩
theorem Vw.kp {I J : zI} {m R n : Nat} {N : Nat → Nd} {og : Nat → Nat} (V : Vw I m R n N og) (e : ∀ a j, (a = 491 ∧ (j = 19 ∨ j = 25 ∨ j = 37 ∨ j = 43 ∨ j = 51 ∨ j = 53)) ∨ (508 ≤ a ∧ a ≤ 516) ∨ (521 ≤ a ∧ a ≤ 526) ∨ a = 528 ∨ a = 529 → J.1 a j = I.1 a j) (e2 : ∀ j, J.2 511 j = I.2 511 j) : Vw J m R n N og := by
  obtain ⟨v1, v2, v3, v4, v5, v6, v7, v8⟩ := V
  exact ⟨v1.kp2 (e _ _ (by omega)) (fun a j u1 u2 => e a j (by omega)) e2, v2, v3, v4, v5.kp (fun a j u => e a j (by omega)), by rw [e _ _ (by omega)]; exact v6, fun j hj => by rw [e _ _ (by omega)]; exact v7 j hj, v8⟩
theorem Vw.len {I : zI} {m R n : Nat} {N : Nat → Nd} {og : Nat → Nat} (V : Vw I m R n N og) : 1 ≤ (flR N R).length ∧ (flR N R).length ≤ 248 ∧ I.1 491 43 = zi (flR N R).length ∧ 1 ≤ n ∧ n ≤ 100 ∧ I.1 491 25 = zi m ∧ R < m := by
  obtain ⟨v1, v2, v3, v4, v5, v6, v7, v8⟩ := V
  have hl : (flR N R).length = sz N R := fl_len v2 R v4.1 0 0 0 1
  rw [hl]
  refine ⟨sz_pos v2 v4.1, v4.few v2, ?_, v4.2.2.2.2.2.2.1, v4.2.2.2.2.2.2.2, v1.1, v4.1⟩
  rw [← hl]
  exact v5.2.1.1
theorem InP.pos {m R : Nat} {N : Nat → Nd} (hN : NdOk m N) (hR : R < m) : ∀ (p c d : Nat), InP N R c p d → 1 ≤ d ∧ (p = 0 → d = 1 ∧ c = R) ∧ (1 ≤ p → 2 ≤ d) := by
  intro p
  induction p using Nat.strongRecOn with
  | ind p ih =>
    rintro c d ⟨f, h1, h2, h3⟩
    by_cases hp : p = 0
    · subst hp
      change (fl N R 0 0 0 1)[0]? = some f at h1
      rw [fl_eq hN hR] at h1
      cases h1
      unfold flH at h2 h3
      dsimp only at h2 h3
      exact ⟨by omega, fun _ => ⟨by omega, h2.symm⟩, fun u => by omega⟩
    · obtain ⟨-, b2, -⟩ := fl_in hN R hR _ _ _ _ _ _ h1
      obtain ⟨y, i', y1, y2, y3, y4, y5⟩ := b2 (by omega)
      obtain ⟨w1, -, -⟩ := ih i' y1 y.1 y.2.2.2.1 ⟨y, y3, rfl, rfl⟩
      exact ⟨by omega, fun u => absurd u hp, fun _ => by omega⟩
theorem Vw.inp {I : zI} {m R n c p d : Nat} {N : Nat → Nd} {og : Nat → Nat} (V : Vw I m R n N og) (h : InP N R c p d) : c < m ∧ c ≤ R ∧ p < (flR N R).length ∧ I.1 521 p = zi c ∧ I.1 523 c = zi p ∧ (∃ e, p < e ∧ e ≤ (flR N R).length ∧ I.1 522 p = zi e) ∧ c ∈ po N R := by
  obtain ⟨v1, v2, v3, v4, v5, v6, v7, v8⟩ := V
  obtain ⟨f, h1, h2, h3⟩ := h
  have hpl := (List.getElem?_eq_some_iff.mp h1).1
  obtain ⟨t1, t2, t3⟩ := v5.tv p f h1
  obtain ⟨s1, s2, s3⟩ := sz_inR v2 v4.1 h1
  have hpo := fl_po v2 v4.1 h1
  have hle := po_le v2 R v4.1 _ hpo
  have := v4.1
  rw [h2] at t1 t2 hpo hle
  exact ⟨by omega, hle, hpl, t1, t2, ⟨p + f.2.2.2.2, by omega, by omega, t3⟩, hpo⟩
theorem Vw.par {I : zI} {m R n c p d : Nat} {N : Nat → Nd} {og : Nat → Nat} (V : Vw I m R n N og) (h : InP N R c p d) : (d = 1 ∧ c = R ∧ I.1 524 c = -2) ∨ ∃ q y j, 2 ≤ d ∧ q < p ∧ InP N R y q (d - 1) ∧ I.1 524 c = zi y ∧ (ndC (N y))[j]? = some c ∧ I.1 525 c = zi j := by
  obtain ⟨v1, v2, v3, v4, v5, v6, v7, v8⟩ := V
  obtain ⟨z1, z2, z3⟩ := InP.pos v2 v4.1 p c d h
  obtain ⟨f, h1, h2, h3⟩ := h
  obtain ⟨p1, p2⟩ := (v5.2.2.1 p f h1).2
  rw [h2] at p1 p2
  by_cases hp : p = 0
  · exact Or.inl ⟨(z2 hp).1, (z2 hp).2, p1 hp⟩
  · obtain ⟨y, j, e1, e2, e3, e4⟩ := p2 (by omega)
    obtain ⟨-, b2, -⟩ := fl_in v2 R v4.1 _ _ _ _ _ _ h1
    obtain ⟨y', i', y1, y2, y3, y4, y5⟩ := b2 (by omega)
    rw [Nat.zero_add] at y2
    rw [y2] at e1
    have : y = y' := Option.some.inj (e1.symm.trans y3)
    subst this
    exact Or.inr ⟨i', y.1, j, z3 (by omega), y1, ⟨y, e1, rfl, by omega⟩, e3, e2, e4⟩
theorem Vw.fst {I : zI} {m R n c p d : Nat} {N : Nat → Nd} {og : Nat → Nat} (V : Vw I m R n N og) (h : InP N R c p d) : ∃ o, o ≤ n - 1 ∧ I.1 526 c = zi o ∧ (1 ≤ ndT (N c) → o + ndT (N c) ≤ n - 1) := by
  obtain ⟨v1, v2, v3, v4, v5, v6, v7, v8⟩ := V
  obtain ⟨f, h1, h2, h3⟩ := h
  have hpl := (List.getElem?_eq_some_iff.mp h1).1
  obtain ⟨-, -, o, o1, o2, o3⟩ := v5.2.1.2.1 p f hpl h1
  obtain ⟨-, -, o', q1, q2, -⟩ := fl_in v2 R v4.1 _ _ _ _ _ _ h1
  rw [v4.tk v2, h2] at q1
  refine ⟨o, o1, by rw [← h2]; exact o2, fun u => ?_⟩
  have e : f.2.2.1 = (o' : Int) := by
    rw [q2]
    unfold flH
    dsimp only
    rw [h2, if_neg (by omega), Nat.zero_add]
  have := o3 (by omega)
  omega
theorem inp_at {R p : Nat} {N : Nat → Nd} (h : p < (flR N R).length) : ∃ c d, InP N R c p d := ⟨_, _, _, List.getElem?_eq_getElem h, rfl, rfl⟩
theorem Vw.of {I : zI} {m R n c : Nat} {N : Nat → Nd} {og : Nat → Nat} (V : Vw I m R n N og) (hc : c < 3700) (h : ¬ I.1 523 c < 0) : ∃ p d, InP N R c p d := by
  refine Classical.byContradiction (fun u => h ?_)
  rw [V.2.2.2.2.1.2.1.2.2 c hc (fun i x hi hx e => u ⟨i, x.2.2.2.1, x, hx, e, rfl⟩)]
  decide
theorem Vw.ofpo {I : zI} {m R n c : Nat} {N : Nat → Nd} {og : Nat → Nat} (V : Vw I m R n N og) (h : c ∈ po N R) : ∃ p d, InP N R c p d := by
  rw [← fl_map V.2.1 R V.2.2.2.1.1 0 0 0 1] at h
  obtain ⟨f, hf, e⟩ := List.mem_map.mp h
  obtain ⟨p, hp⟩ := List.mem_iff_getElem?.mp hf
  exact ⟨p, f.2.2.2.1, f, hp, e, rfl⟩
theorem Vw.ch {I : zI} {m R n c p d z : Nat} {N : Nat → Nd} {og : Nat → Nat} (V : Vw I m R n N og) (h : InP N R c p d) (hz : z ∈ ndC (N c)) : ∃ q d', InP N R z q d' :=
  V.ofpo (po_sub V.2.1 R V.2.2.2.1.1 c (V.inp h).2.2.2.2.2.2 z hz)
/-- a good token ahead of END -/
theorem Vw.tok {I : zI} {m R n i : Nat} {N : Nat → Nd} {og : Nat → Nat} (V : Vw I m R n N og) (h : i + 1 < n) : ∃ p d, 2 ≤ d ∧ InP N R (og i) p d := by
  obtain ⟨p, f, a1, a2, a3, a4⟩ := V.2.2.2.1.tok V.2.1 h
  have hI : InP N R (og i) p f.2.2.2.1 := ⟨f, a1, a2, rfl⟩
  exact ⟨p, f.2.2.2.1, (InP.pos V.2.1 V.2.2.2.1.1 _ _ _ hI).2.2 a3, hI⟩
theorem up_idx {n : Nat} {P : Int32 → Prop} (step : ∀ i, i < n → P (zi (i + 1)) → P (zi i)) (stop : P (zi n)) : ∀ i, i ≤ n → P (zi i) := by
  have : ∀ d i, i + d = n → P (zi i) := by
    intro d
    induction d with
    | zero =>
      intro i hi
      rw [show i = n by omega]
      exact stop
    | succ d ih =>
      intro i hi
      exact step i (by omega) (ih (i + 1) (by omega))
  exact fun i hi => this (n - i) i (by omega)
/-! ===== calls that ask of it ===== -/
theorem s_isIn {a : Int32} {m R n : Nat} {N : Nat → Nd} {og : Nat → Nat} {I : zI} {K : Int32 → Prop} (V : Vw I m R n N og) (h1 : ∀ c p d, a = zi c → InP N R c p d → K 1) (h0 : K 0) : w_M_isIn a I K := by
  obtain ⟨l1, l2, l3, l4, l5, l6, l7⟩ := V.len
  have hm := V.2.2.1
  unfold w_M_isIn
  rw [l6]
  refine s_in (fun c => ?_) (fun c => ?_)
  · obtain ⟨k, hk, rfl⟩ := in_idx (by omega) c
    rw [if_neg (by decide)]
    refine ⟨(zin_iff (by omega)).mpr (by omega), ?_⟩
    rw [zi_tn (show k < 2147483648 by omega)]
    by_cases u : I.1 523 k < 0
    · rw [if_pos u]
      exact h0
    · rw [if_neg u]
      obtain ⟨p, d, hp⟩ := V.of (by omega) u
      exact h1 k p d rfl hp
  · rw [if_pos rfl]
    exact h0
theorem s_deepOf {m R n c p d : Nat} {N : Nat → Nd} {og : Nat → Nat} {I : zI} {K : Int32 → Prop} (V : Vw I m R n N og) (h : InP N R c p d) (hK : K (zi d)) : w_M_deepOf (zi c) I K := by
  obtain ⟨l1, l2, l3, l4, l5, l6, l7⟩ := V.len
  have hm := V.2.2.1
  intro P4 h4
  have main : ∀ (p c e w : Nat), InP N R c p e → w + e = d → P4 (zi w) (zi c) := by
    intro p
    induction p using Nat.strongRecOn with
    | ind p ih =>
      intro c e w hc hw
      refine h4 _ _ ?_
      obtain ⟨i1, -⟩ := V.inp hc
      rw [if_neg (zi_pos (by omega))]
      intro v ev
      refine ⟨(zin_iff (by omega)).mpr (by omega), fun v3 ev3 => ?_⟩
      rw [zi_tn (show c < 2147483648 by omega)] at ev3
      rw [ev, zi_succ]
      rcases V.par hc with ⟨b1, b2, b3⟩ | ⟨q, y, j, b1, b2, b3, b4, b5, b6⟩
      · rw [ev3, b3]
        refine h4 _ _ ?_
        rw [if_pos (by decide), show w + 1 = d by omega]
        exact hK
      · rw [ev3, b4]
        exact ih q b2 y (e - 1) (w + 1) b3 (by omega)
  exact main p c d 0 h (by omega)
theorem s_MisToken {a : Int32} {m R n : Nat} {N : Nat → Nd} {og : Nat → Nat} {I : zI} {K : Int32 → Prop} (V : Vw I m R n N og) (h1 : ∀ i, i < n → a = zi i → K 1) (h0 : K 0) : w_M_isToken a I K := by
  obtain ⟨l1, l2, l3, l4, l5, l6, l7⟩ := V.len
  unfold w_M_isToken
  rw [V.2.2.2.2.2.1]
  refine s_in (fun c => ⟨Or.inr rfl, ?_⟩) (fun c => ⟨Or.inl rfl, h0⟩)
  obtain ⟨k, hk, rfl⟩ := in_idx (by omega) c
  exact h1 k hk rfl
theorem s_MisInner {a : Int32} {m R n : Nat} {N : Nat → Nd} {og : Nat → Nat} {I : zI} {K : Int32 → Prop} (V : Vw I m R n N og) (h1 : ∀ i, i + 1 < n → a = zi i → K 1) (h0 : K 0) : w_M_isInner a I K := by
  obtain ⟨l1, l2, l3, l4, l5, l6, l7⟩ := V.len
  unfold w_M_isInner
  rw [V.2.2.2.2.2.1]
  refine s_in (fun c => ⟨Or.inr rfl, ?_⟩) (fun c => ⟨Or.inl rfl, h0⟩)
  have e : zi n - 2 = zi (n - 1) - 1 := by
    rw [show zi (n - 1) = zi n - 1 from (zi_sub (b := 1) l4).symm, Int32.sub_sub]
    rfl
  rw [e] at c
  obtain ⟨k, hk, rfl⟩ := in_idx (by omega) c
  exact h1 k (by omega) rfl
