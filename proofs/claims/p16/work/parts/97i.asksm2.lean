/-! ===== more questions to the model that change nothing ===== -/
theorem m_common {a b : Int32} {m R n : Nat} {N : Nat → Nd} {og : Nat → Nat} {I : zI} {K : Int32 → Prop} (V : Vw I m R n N og) (h : ∀ v, K v) : w_M_common a b I K := by
  obtain ⟨l1, l2, l3, l4, l5, l6, l7⟩ := V.len
  have hm := V.2.2.1
  have dle : ∀ (p c d : Nat), InP N R c p d → d ≤ p + 1 := by
    intro p
    induction p using Nat.strongRecOn with
    | ind p ih =>
      intro c d hc
      rcases V.par hc with ⟨b1, -⟩ | ⟨q, y, j, b1, b2, b3, -⟩
      · omega
      · have := ih q b2 y _ b3
        omega
  have d400 : ∀ {c p d : Nat}, InP N R c p d → d < 400 := fun {c p d} hc => by
    have := dle p c d hc
    have := (V.inp hc).2.2.1
    omega
  refine s_MisToken V (fun i hi e => ?_) ?_
  rotate_left
  · rw [if_pos rfl]
    exact h _
  rw [if_neg (by decide)]
  refine s_MisToken V (fun i2 hi2 e2 => ?_) ?_
  rotate_left
  · rw [if_pos rfl]
    exact h _
  rw [if_neg (by decide)]
  split
  · rw [e]
    exact ⟨(zin_iff (by omega)).mpr (by omega), h _⟩
  · refine s_MisInner V (fun i hi e => ?_) ?_
    rotate_left
    · rw [if_pos rfl]
      exact h _
    rw [if_neg (by decide)]
    refine s_MisInner V (fun i2 hi2 e2 => ?_) ?_
    rotate_left
    · rw [if_pos rfl]
      exact h _
    rw [if_neg (by decide), e, e2]
    refine ⟨(zin_iff (by omega)).mpr (by omega), fun v3 ev3 => ⟨(zin_iff (by omega)).mpr (by omega), fun v4 ev4 => ?_⟩⟩
    rw [zi_tn (show i < 2147483648 by omega), V.2.2.2.2.2.2.1 i (by omega)] at ev3
    rw [zi_tn (show i2 < 2147483648 by omega), V.2.2.2.2.2.2.1 i2 (by omega)] at ev4
    obtain ⟨p1, d1, -, hI1⟩ := V.tok hi
    obtain ⟨p2, d2, -, hI2⟩ := V.tok hi2
    intro P64 h64
    have main : ∀ (e c p : Nat), InP N R c p e → P64 (zi c) := by
      intro e
      induction e with
      | zero =>
        intro c p hc
        have := (InP.pos V.2.1 l7 _ _ _ hc).1
        omega
      | succ e ih =>
        intro c p hc
        refine h64 _ ?_
        refine s_deepOf V hc ?_
        rw [ev4]
        refine s_deepOf V hI2 ?_
        have e400 := d400 hc
        have d2400 := d400 hI2
        have d2pos := (InP.pos V.2.1 l7 _ _ _ hI2).1
        intro P88 h88
        by_cases u : e + 1 ≤ d2
        · rw [if_pos ((zi_le (by omega) (by omega)).mpr u)]
          have main2 : ∀ (k c' p' : Nat), InP N R c' p' k → e + 1 ≤ k → P88 (zi c') := by
            intro k
            induction k with
            | zero =>
              intro c' p' hc' hk
              omega
            | succ k ih2 =>
              intro c' p' hc' hk
              refine h88 _ ?_
              refine s_deepOf V hc' ?_
              refine s_deepOf V hc ?_
              have k400 := d400 hc'
              intro P114 h114
              by_cases u2 : k + 1 ≤ e + 1
              · rw [if_pos ((zi_le (by omega) (by omega)).mpr u2)]
                have main3 : ∀ (f x y px py : Nat), InP N R x px f → InP N R y py f → P114 (zi x) (zi y) := by
                  intro f
                  induction f with
                  | zero =>
                    intro x y px py hx hy
                    have := (InP.pos V.2.1 l7 _ _ _ hx).1
                    omega
                  | succ f ih3 =>
                    intro x y px py hx hy
                    obtain ⟨x1, -⟩ := V.inp hx
                    obtain ⟨y1, -⟩ := V.inp hy
                    refine h114 _ _ ?_
                    by_cases u3 : zi x = zi y
                    · rw [if_pos u3]
                      exact h _
                    · rw [if_neg u3]
                      refine ⟨(zin_iff (by omega)).mpr (by omega), fun v ev => ⟨(zin_iff (by omega)).mpr (by omega), fun v' ev' => ?_⟩⟩
                      rw [zi_tn (show x < 2147483648 by omega)] at ev
                      rw [zi_tn (show y < 2147483648 by omega)] at ev'
                      rcases V.par hx with ⟨b1, b2, b3⟩ | ⟨q, z, j, b1, b2, b3, b4, b5, b6⟩
                      · rcases V.par hy with ⟨c1, c2, c3⟩ | ⟨q', z', j', c1, c2, c3, c4, c5, c6⟩
                        · exact absurd (by rw [b2, c2]) u3
                        · omega
                      · rcases V.par hy with ⟨c1, c2, c3⟩ | ⟨q', z', j', c1, c2, c3, c4, c5, c6⟩
                        · omega
                        · rw [ev, b4, ev', c4]
                          exact ih3 z z' q q' b3 c3
                have hek : k + 1 = e + 1 := by omega
                rw [hek] at hc'
                exact main3 (e + 1) c c' p p' hc hc'
              · rw [if_neg (fun w => u2 ((zi_le (by omega) (by omega)).mp w))]
                obtain ⟨x1, -⟩ := V.inp hc'
                refine ⟨(zin_iff (by omega)).mpr (by omega), fun v ev => ?_⟩
                rw [zi_tn (show c' < 2147483648 by omega)] at ev
                rcases V.par hc' with ⟨b1, b2, b3⟩ | ⟨q, z, j, b1, b2, b3, b4, b5, b6⟩
                · omega
                · rw [ev, b4]
                  exact ih2 z q b3 (by omega)
          exact main2 d2 _ p2 hI2 u
        · rw [if_neg (fun w => u ((zi_le (by omega) (by omega)).mp w))]
          obtain ⟨x1, -⟩ := V.inp hc
          refine ⟨(zin_iff (by omega)).mpr (by omega), fun v ev => ?_⟩
          rw [zi_tn (show c < 2147483648 by omega)] at ev
          rcases V.par hc with ⟨b1, b2, b3⟩ | ⟨q, z, j, b1, b2, b3, b4, b5, b6⟩
          · omega
          · rw [ev, b4]
            exact ih z q b3
    rw [ev3]
    exact main d1 _ p1 hI1
theorem m_last {a : Int32} {I : zI} {K : Int32 → Prop} (h : ∀ v, K v) : w_M_last a I K := by
  unfold w_M_last
  refine s_in (fun c => ?_) (fun _ => ?_)
  · rw [if_neg (by decide)]
    obtain ⟨k, hk, rfl⟩ := zi_of c.1
    have := (zi_le (b := 9) hk (by decide)).mp c.2
    exact ⟨(zin_iff (by omega)).mpr (by omega), h _⟩
  · rw [if_pos rfl]
    exact h _
theorem m_pair {x : Sg} {a b : Int32} {I : zI} {K : Int32 → Prop} (hv : Iv x) (hR : RM I x) (h : ∀ v, K v) : w_M_pair a b I K := by
  have hp := hv.2.2.2.2.2.1.2
  unfold w_M_pair
  rw [hR.2.2.2.1.1]
  refine s_in (fun c => ?_) (fun _ => ?_)
  · obtain ⟨k, hk, rfl⟩ := in_idx (by omega) c
    have hin : vp_in (zi k) 4100 := (zin_iff (by omega)).mpr (by omega)
    rw [if_neg (by decide)]
    refine s_in (fun c => ?_) (fun _ => ?_)
    · rw [if_neg (by decide)]
      split
      · exact ⟨hin, h _⟩
      · exact ⟨hin, h _⟩
    · rw [if_pos rfl]
      exact h _
  · rw [if_pos rfl]
    exact h _
theorem r_MyoungBelow {p c d : Nat} {m R n : Nat} {N : Nat → Nd} {og : Nat → Nat} {I : zI} {K : Int32 → Prop} (V : Vw I m R n N og) (hI : InP N R c p d) (h : ∀ v, K v) : w_M_youngBelow (zi p) I K := by
  obtain ⟨l1, l2, l3, l4, l5, l6, l7⟩ := V.len
  have hm := V.2.2.1
  obtain ⟨i1, i2, i3, i4, i5, ⟨e, e1, e2, e3⟩, i6⟩ := V.inp hI
  have hin : vp_in (zi p) 700 := (zin_iff (by omega)).mpr (by omega)
  intro P4 h4
  refine up_idx (n := e) (P := fun v => ∀ w, P4 w v) (fun i hi ih w => ?_) (fun w => ?_) p (by omega) 0
  · obtain ⟨c', d', hc⟩ := inp_at (R := R) (N := N) (show i < (flR N R).length by omega)
    obtain ⟨x1, x2, x3, x4, -⟩ := V.inp hc
    refine h4 _ _ ⟨hin, ?_⟩
    rw [zi_tn (show p < 2147483648 by omega), e3, if_neg (fun u => by have := (zi_le (by omega) (by omega)).mp u; omega)]
    refine ⟨(zin_iff (by omega)).mpr (by omega), ?_⟩
    rw [zi_tn (show i < 2147483648 by omega), x4]
    refine ⟨(zin_iff (by omega)).mpr (by omega), ?_⟩
    intro P35 h35
    have nx : ∀ v, P35 v := fun v => h35 v (fun v' ev => by
      rw [ev, zi_succ]
      exact ih v)
    split
    · exact fun v ev => nx v
    · exact nx w
  · refine h4 _ _ ⟨hin, ?_⟩
    rw [zi_tn (show p < 2147483648 by omega), e3, if_pos (Int32.le_refl _)]
    exact h _
theorem runs_in {x : Sg} {I : zI} {i : Nat} (hv : Iv x) (hR : RM I x) (hi : i < (runsOf (sgN x) (moR (sgC x))).length) : i < 99 ∧ ∃ r p d, I.1 528 i = zi r ∧ InP (sgN x) (moR (sgC x)) r p d := by
  have hr := List.getElem?_eq_getElem hi
  have l := (runs_ok hv.2.1 hv.2.2.1 hv.2.2.2.2.2.2.2.1.2.2.2.1).2
  obtain ⟨f, f1, f2, -⟩ := rnL_mem 400 0 _ (List.mem_of_getElem? hr)
  obtain ⟨p, hp⟩ := List.mem_iff_getElem?.mp f1
  exact ⟨by omega, _, p, f.2.2.2.1, hR.2.2.1.2.2.2.2.2.1 i _ hr, f, hp, f2, rfl⟩
theorem s_inRun {x : Sg} {a : Int32} {I : zI} {K : Int32 → Prop} (hv : Iv x) (hR : RM I x) (h1 : ∀ i, i < (runsOf (sgN x) (moR (sgC x))).length → a = zi i → K 1) (h0 : K 0) : w_M_isRun a I K := by
  have l := (runs_ok hv.2.1 hv.2.2.1 hv.2.2.2.2.2.2.2.1.2.2.2.1).2
  refine s_isRun hv hR (fun c => ?_) (fun _ => h0)
  obtain ⟨k, hk, rfl⟩ := zi_of c.1
  exact h1 k ((zi_lt hk (by omega)).mp c.2) rfl
theorem m_run {x : Sg} {a : Int32} {I : zI} {K : Int32 → Prop} (hv : Iv x) (hR : RM I x) (h : ∀ v, K v) : w_M_run a I K := by
  refine s_inRun hv hR (fun i hi e => ?_) ?_
  · have := (runs_in hv hR hi).1
    rw [if_neg (by decide), e]
    exact ⟨(zin_iff (by omega)).mpr (by omega), h _⟩
  · rw [if_pos rfl]
    exact h _
theorem m_young {x : Sg} {a : Int32} {I : zI} {K : Int32 → Prop} (hv : Iv x) (hR : RM I x) (h : ∀ v, K v) : w_M_young a I K := by
  have V := hR.view hv
  have hm := V.2.2.1
  refine s_inRun hv hR (fun i hi e => ?_) ?_
  · obtain ⟨i99, r, p, d, e1, hI⟩ := runs_in hv hR hi
    obtain ⟨i1, i2, i3, i4, i5, -⟩ := V.inp hI
    rw [if_neg (by decide), e]
    refine ⟨(zin_iff (by omega)).mpr (by omega), ?_⟩
    rw [zi_tn (show i < 2147483648 by omega), e1]
    refine ⟨(zin_iff (by omega)).mpr (by omega), ?_⟩
    rw [zi_tn (show r < 2147483648 by omega), i5]
    exact r_MyoungBelow V hI h
  · rw [if_pos rfl]
    exact h _
theorem s_isTerm {a : Int32} {m R n : Nat} {N : Nat → Nd} {og : Nat → Nat} {I : zI} {K : Int32 → Prop} (V : Vw I m R n N og) (h1 : ∀ c p d, a = zi c → InP N R c p d → ¬ Int32.ofInt (ndR (N c)) ≤ 3 → K 1) (h0 : K 0) : w_M_isTerm a I K := by
  have hm := V.2.2.1
  refine s_isIn V (fun c p d e hI => ?_) ?_
  · obtain ⟨i1, -⟩ := V.inp hI
    rw [if_neg (by decide)]
    rw [e]
    refine ⟨(zin_iff (by omega)).mpr (by omega), ?_⟩
    rw [zi_tn (show c < 2147483648 by omega), show I.1 509 c = Int32.ofInt (ndR (N c)) from (V.1.2 c i1).1]
    by_cases u : Int32.ofInt (ndR (N c)) ≤ 3
    · rw [if_pos u]
      exact h0
    · rw [if_neg u]
      exact h1 c p d e hI u
  · rw [if_pos rfl]
    exact h0
theorem m_firm {a : Int32} {m R n : Nat} {N : Nat → Nd} {og : Nat → Nat} {I : zI} {K : Int32 → Prop} (V : Vw I m R n N og) (h : ∀ v, K v) : w_M_firm a I K := by
  obtain ⟨l1, l2, l3, l4, l5, l6, l7⟩ := V.len
  have hm := V.2.2.1
  refine s_isTerm V (fun c p d ec hI _ => ?_) ?_
  · obtain ⟨i1, i2, i3, i4, i5, ⟨e, e1, e2, e3⟩, i6⟩ := V.inp hI
    have hin : vp_in (zi p) 700 := (zin_iff (by omega)).mpr (by omega)
    rw [if_neg (by decide), ec]
    refine ⟨(zin_iff (by omega)).mpr (by omega), fun v2 ev2 => ?_⟩
    rw [zi_tn (show c < 2147483648 by omega), i5] at ev2
    intro P19 h19
    rw [ev2] at h19 ⊢
    refine up_idx (n := e) (P := P19) (fun i hi ih => ?_) ?_ p (by omega)
    · obtain ⟨c', d', hc⟩ := inp_at (R := R) (N := N) (show i < (flR N R).length by omega)
      obtain ⟨x1, x2, x3, x4, -⟩ := V.inp hc
      refine h19 _ ⟨hin, ?_⟩
      rw [zi_tn (show p < 2147483648 by omega), e3, if_neg (fun u => by have := (zi_le (by omega) (by omega)).mp u; omega)]
      refine ⟨(zin_iff (by omega)).mpr (by omega), ?_⟩
      rw [zi_tn (show i < 2147483648 by omega), x4]
      refine ⟨(zin_iff (by omega)).mpr (by omega), ?_⟩
      split
      · exact h _
      · intro v ev
        rw [ev, zi_succ]
        exact ih
    · refine h19 _ ⟨hin, ?_⟩
      rw [zi_tn (show p < 2147483648 by omega), e3, if_pos (Int32.le_refl _)]
      exact h _
  · rw [if_pos rfl]
    exact h _
/-! ===== the statements that set a NAME ===== -/
theorem Vw.set {m R n i : Nat} {og : Nat → Nat} {N : Nat → Nd} {I : zI} (V : Vw I m R n N og) (hi : i < (setsOf N R).length) : i < 99 ∧ ∃ s p d, I.1 529 i = zi s ∧ InP N R s p d ∧ ndR (N s) = 2 := by
  have hr := List.getElem?_eq_getElem hi
  have l := sets_len V.2.1 V.2.2.2.1
  obtain ⟨f, f1, f2, f3⟩ := st2_mem (List.mem_of_getElem? hr)
  obtain ⟨p, hp⟩ := List.mem_iff_getElem?.mp f1
  exact ⟨by omega, _, p, f.2.2.2.1, V.2.2.2.2.1.2.2.2.2.2.2 i _ hr, ⟨f, hp, f2, rfl⟩, f3⟩
theorem Vw.nset {m R n : Nat} {og : Nat → Nat} {N : Nat → Nd} {I : zI} (V : Vw I m R n N og) : I.1 491 53 = zi (setsOf N R).length ∧ (setsOf N R).length ≤ 99 := ⟨V.2.2.2.2.1.2.2.2.2.1, sets_len V.2.1 V.2.2.2.1⟩
theorem r_MsetName {m R n i : Nat} {og : Nat → Nat} {N : Nat → Nd} {I : zI} {K : Int64 → Prop} (V : Vw I m R n N og) (hi : i < (setsOf N R).length) (h : ∀ v, K v) : w_M_setName (zi i) I K := by
  have hm := V.2.2.1
  obtain ⟨i9, s, p, d, e1, hI, h2⟩ := V.set hi
  obtain ⟨i1, -⟩ := V.inp hI
  obtain ⟨z, z1, -, z2⟩ := V.2.1.child (r := 2) (k := 0) (y := 5) i1 h2 rfl
  unfold w_M_setName
  refine ⟨(zin_iff (by omega)).mpr (by omega), ?_⟩
  rw [zi_tn (show i < 2147483648 by omega), e1]
  refine s_MchildOf (k := 0) V.1 (by omega) i1 (V.2.1.ch s i1) z1 ?_
  exact ⟨(zin_iff (by omega)).mpr (by omega), h _⟩
/-- 509 is a node's RULE -/
theorem Vw.rul {m R n c r : Nat} {og : Nat → Nat} {N : Nat → Nd} {I : zI} (V : Vw I m R n N og) (hc : c < m) (hr : r < 100) (e : I.1 509 c = zi r) : ndR (N c) = r := by
  have h1 : I.1 509 c = Int32.ofInt (ndR (N c)) := (V.1.2 c hc).1
  rw [h1] at e
  rcases V.2.1 c hc with ⟨q, -⟩ | ⟨r', s, hr', -, q, -⟩
  · rw [q] at e
    exfalso
    have : (0 : Int32) ≤ Int32.ofInt (-2) := by
      rw [e]
      exact zi_ge (by omega)
    revert this
    decide
  · rw [q, zi_int] at e
    have := (zi_eq (by omega) (by omega)).mp e
    rw [q, this]
theorem r_MdoesRead {m R n i : Nat} {og : Nat → Nat} {N : Nat → Nd} {b : Int64} {I : zI} {K : Int32 → Prop} (V : Vw I m R n N og) (hi : i < (setsOf N R).length) (h : ∀ v, K v) : w_M_doesRead (zi i) b I K := by
  obtain ⟨l1, l2, l3, l4, l5, l6, l7⟩ := V.len
  have hm := V.2.2.1
  obtain ⟨i9, s, p, d, es, hI, h2⟩ := V.set hi
  obtain ⟨s1, -⟩ := V.inp hI
  obtain ⟨z, z1, -, z2⟩ := V.2.1.child (r := 2) (k := 2) (y := 2) s1 h2 rfl
  obtain ⟨q, d', hz⟩ := V.ch hI (List.mem_of_getElem? z1)
  obtain ⟨i1, i2, i3, i4, i5, ⟨e, e1, e2, e3⟩, i6⟩ := V.inp hz
  have hin : vp_in (zi q) 700 := (zin_iff (by omega)).mpr (by omega)
  unfold w_M_doesRead
  refine ⟨(zin_iff (by omega)).mpr (by omega), ?_⟩
  rw [zi_tn (show i < 2147483648 by omega), es]
  refine s_MchildOf (k := 2) V.1 (by omega) s1 (V.2.1.ch s s1) z1 ?_
  refine ⟨(zin_iff (by omega)).mpr (by omega), fun v4 ev4 => ?_⟩
  rw [zi_tn (show z < 2147483648 by omega), i5] at ev4
  intro P22 h22
  rw [ev4] at h22 ⊢
  refine up_idx (n := e) (P := P22) (fun k hk ih => ?_) ?_ q (by omega)
  · obtain ⟨c', d', hc⟩ := inp_at (R := R) (N := N) (show k < (flR N R).length by omega)
    obtain ⟨x1, x2, x3, x4, -⟩ := V.inp hc
    refine h22 _ ⟨hin, ?_⟩
    rw [zi_tn (show q < 2147483648 by omega), e3, if_neg (fun u => by have := (zi_le (by omega) (by omega)).mp u; omega)]
    have hk7 : vp_in (zi k) 700 := (zin_iff (by omega)).mpr (by omega)
    refine ⟨hk7, ?_⟩
    rw [zi_tn (show k < 2147483648 by omega), x4]
    refine ⟨(zin_iff (by omega)).mpr (by omega), ?_⟩
    intro P75 h75
    have nx : P75 := h75 (fun v ev => by
      rw [ev, zi_succ]
      exact ih)
    rw [zi_tn (show c' < 2147483648 by omega)]
    by_cases u : I.1 509 c' = 8
    · rw [if_pos u]
      have h8 := V.rul (r := 8) x1 (by omega) u
      obtain ⟨w, w1, -, w2⟩ := V.2.1.child (r := 8) (k := 0) (y := 5) x1 h8 rfl
      refine ⟨hk7, s_MchildOf (k := 0) V.1 (by omega) x1 (V.2.1.ch c' x1) w1 ⟨(zin_iff (by omega)).mpr (by omega), ?_⟩⟩
      split
      · exact h _
      · exact nx
    · rw [if_neg u]
      exact nx
  · refine h22 _ ⟨hin, ?_⟩
    rw [zi_tn (show q < 2147483648 by omega), e3, if_pos (Int32.le_refl _)]
    exact h _
theorem r_MisIdle {m R n i : Nat} {og : Nat → Nat} {N : Nat → Nd} {I : zI} {K : Int32 → Prop} (V : Vw I m R n N og) (hi : i < (setsOf N R).length) (h : ∀ v, K v) : w_M_isIdle (zi i) I K := by
  obtain ⟨n1, n2⟩ := V.nset
  unfold w_M_isIdle
  intro v ev P4 h4
  rw [ev, zi_succ]
  refine up_idx (n := (setsOf N R).length) (P := P4) (fun k hk ih => ?_) ?_ (i + 1) hi
  · refine h4 _ ?_
    rw [n1, if_neg (fun u => by have := (zi_le (by omega) (by omega)).mp u; omega)]
    refine r_MsetName V hi (fun r3 => r_MdoesRead V hk (fun r4 => ?_))
    split
    · refine r_MsetName V hk (fun r5 => r_MsetName V hi (fun r6 => ?_))
      split
      · exact h _
      · intro v' ev'
        rw [ev', zi_succ]
        exact ih
    · exact h _
  · refine h4 _ ?_
    rw [n1, if_pos (Int32.le_refl _)]
    exact h _
theorem m_idle {a : Int32} {m R n : Nat} {og : Nat → Nat} {N : Nat → Nd} {I : zI} {K : Int32 → Prop} (V : Vw I m R n N og) (h : ∀ v, K v) : w_M_idle a I K := by
  obtain ⟨n1, n2⟩ := V.nset
  unfold w_M_idle
  refine s_in (fun _ => ?_) (fun _ => ?_)
  · rw [if_neg (by decide)]
    intro v4 ev4 P24 h24
    have main : ∀ (k : Nat) (w1 w2 : Int32), k ≤ (setsOf N R).length → P24 w1 w2 (zi k - 1) := by
      intro k
      induction k with
      | zero =>
        intro w1 w2 _
        refine h24 _ _ _ ?_
        rw [if_pos (show zi 0 - 1 < 0 by decide)]
        split
        · exact h _
        · exact h _
      | succ k ih =>
        intro w1 w2 hk
        refine h24 _ _ _ ?_
        rw [show zi (k + 1) - 1 = zi k from zi_sub (b := 1) (by omega), if_neg (zi_pos (by omega))]
        refine r_MisIdle V hk (fun r7 => ?_)
        intro P52 h52
        have nx : ∀ a b, P52 a b := fun a b => h52 a b (fun v ev => by
          rw [ev, ← Int32.sub_eq_add_neg]
          exact ih a b (by omega))
        split
        · exact nx _ _
        · exact fun v ev => ⟨(zin_iff (by omega)).mpr (by omega), fun v' ev' => nx _ _⟩
    rw [ev4, n1]
    exact main _ 0 (-2) (Nat.le_refl _)
  · rw [if_pos rfl]
    exact h _
theorem m_setNames {m R n : Nat} {og : Nat → Nat} {N : Nat → Nd} {I : zI} {K : Int32 → Prop} (V : Vw I m R n N og) (h : ∀ v, K v) : w_M_setNames I K := by
  obtain ⟨n1, n2⟩ := V.nset
  unfold w_M_setNames
  intro P4 h4
  refine up_idx (n := (setsOf N R).length) (P := fun v => ∀ w, P4 w v) (fun k hk ih w => ?_) (fun w => ?_) 0 (Nat.zero_le _) 0
  · refine h4 _ _ ?_
    rw [n1, if_neg (fun u => by have := (zi_le (by omega) (by omega)).mp u; omega)]
    intro P17 h17
    refine up_idx (n := k) (P := fun v => ∀ w, P17 w v) (fun i hi ih2 w2 => ?_) (fun w2 => ?_) 0 (Nat.zero_le _) 1
    · refine h17 _ _ ?_
      rw [if_neg (fun u => by have := (zi_le (by omega) (by omega)).mp u; omega)]
      refine r_MsetName V (by omega) (fun r9 => r_MsetName V hk (fun r10 => ?_))
      intro P40 h40
      have nx : ∀ v, P40 v := fun v => h40 v (fun v' ev => by
        rw [ev, zi_succ]
        exact ih2 v)
      split
      · exact nx _
      · exact nx _
    · refine h17 _ _ ?_
      rw [if_pos (Int32.le_refl _)]
      intro P53 h53
      have nx : ∀ v, P53 v := fun v => h53 v (fun v' ev => by
        rw [ev, zi_succ]
        exact ih v)
      split
      · exact nx _
      · exact fun v ev => nx v
  · refine h4 _ _ ?_
    rw [n1, if_pos (Int32.le_refl _)]
    exact h _
/-- a NAME among the good tokens -/
theorem s_MisGoodName {x : Sg} {a : Int32} {I : zI} {K : Int32 → Prop} (hv : Iv x) (hR : RM I x) (h1 : ∀ i, i + 1 < (lexL (moG (sgC x))).length → a = zi i → kdF (lexL (moG (sgC x))) i = 0 → K 1) (h0 : K 0) : w_M_isGoodName a I K := by
  obtain ⟨k1, k2, k3, k4, k5⟩ := kd_ok hv.2.2.2.2.2.2.2.1.2.1
  obtain ⟨u1, u2⟩ := hR.2.2.2.2.2.2.2.1.2.2.2.2.2.2.1
  unfold w_M_isGoodName
  rw [u1]
  refine s_in (fun c => ?_) (fun _ => ?_)
  · obtain ⟨i, hi, rfl⟩ := in_idx (by omega) c
    rw [if_neg (by decide)]
    refine ⟨(zin_iff (by omega)).mpr (by omega), ?_⟩
    rw [zi_tn (show i < 2147483648 by omega), show I.1 504 i = zi (kdF (lexL (moG (sgC x))) i) from (u2 i _ (k5 i hi)).1]
    have k12 := k3.1 i (by omega)
    by_cases u : kdF (lexL (moG (sgC x))) i = 0
    · rw [if_pos (show zi (kdF (lexL (moG (sgC x))) i) = 0 by rw [u]; rfl)]
      refine h1 i ?_ rfl u
      refine Nat.lt_of_le_of_ne (by omega) (fun w => ?_)
      rw [show i = (lexL (moG (sgC x))).length - 1 by omega, k4] at u
      omega
    · rw [if_neg (show ¬ zi (kdF (lexL (moG (sgC x))) i) = 0 from fun w => u ((zi_eq (b := 0) (by omega) (by decide)).mp w))]
      exact h0
  · rw [if_pos rfl]
    exact h0
theorem m_sets {x : Sg} {a : Int32} {I : zI} {K : Int32 → Prop} (hv : Iv x) (hR : RM I x) (h : ∀ v, K v) : w_M_sets a I K := by
  have V := hR.view hv
  obtain ⟨n1, n2⟩ := V.nset
  obtain ⟨l1, l2, l3, l4, l5, l6, l7⟩ := V.len
  refine s_MisGoodName hv hR (fun i hi e _ => ?_) ?_
  · rw [if_neg (by decide), e]
    intro P14 h14
    refine up_idx (n := (setsOf (sgN x) (moR (sgC x))).length) (P := fun v => ∀ w, P14 w v) (fun k hk ih w => ?_) (fun w => ?_) 0 (Nat.zero_le _) 0
    · refine h14 _ _ ?_
      rw [n1, if_neg (fun u => by have := (zi_le (by omega) (by omega)).mp u; omega)]
      refine r_MsetName V hk (fun r4 => ⟨(zin_iff (by omega)).mpr (by omega), ?_⟩)
      intro P40 h40
      have nx : ∀ v, P40 v := fun v => h40 v (fun v' ev => by
        rw [ev, zi_succ]
        exact ih v)
      split
      · exact fun v ev => nx v
      · exact nx _
    · refine h14 _ _ ?_
      rw [n1, if_pos (Int32.le_refl _)]
      exact h _
  · rw [if_pos rfl]
    exact h _
theorem m_uses {x : Sg} {a : Int32} {I : zI} {K : Int32 → Prop} (hv : Iv x) (hR : RM I x) (h : ∀ v, K v) : w_M_uses a I K := by
  have V := hR.view hv
  have hm := V.2.2.1
  obtain ⟨n1, n2⟩ := V.nset
  obtain ⟨l1, l2, l3, l4, l5, l6, l7⟩ := V.len
  refine s_MisGoodName hv hR (fun i hi e _ => ?_) ?_
  · rw [if_neg (by decide), e]
    have hin : vp_in (zi i) 110 := (zin_iff (by omega)).mpr (by omega)
    obtain ⟨p, d, d2, hI⟩ := V.tok hi
    obtain ⟨i1, i2, i3, i4, i5, -⟩ := V.inp hI
    rw [zi_tn (show i < 2147483648 by omega), V.2.2.2.2.2.2.1 i (by omega)]
    have hog : vp_in (zi (moO (sgC x) i)) 3700 := (zin_iff (by omega)).mpr (by omega)
    refine ⟨hin, hog, ?_⟩
    rw [zi_tn (show moO (sgC x) i < 2147483648 by omega), i5]
    intro v2 ev2
    rcases V.par hI with ⟨b1, -⟩ | ⟨q, y, j, b1, b2, b3, b4, b5, b6⟩
    · omega
    obtain ⟨y1, -⟩ := V.inp b3
    rw [b4]
    refine ⟨hin, hog, (zin_iff (by omega)).mpr (by omega), ?_⟩
    split
    · exact h _
    · intro P51 h51
      refine up_idx (n := (setsOf (sgN x) (moR (sgC x))).length) (P := fun v => ∀ w, P51 w v) (fun k hk ih w => ?_) (fun w => ?_) 0 (Nat.zero_le _) (-2)
      · refine h51 _ _ ?_
        rw [n1, if_neg (fun u => by have := (zi_le (by omega) (by omega)).mp u; omega)]
        obtain ⟨k9, s, ps, ds, es, hs, -⟩ := V.set hk
        obtain ⟨s1, s2, s3, s4, s5, -⟩ := V.inp hs
        have hk1 : vp_in (zi k) 110 := (zin_iff (by omega)).mpr (by omega)
        refine ⟨hk1, ?_⟩
        rw [zi_tn (show k < 2147483648 by omega), es]
        refine ⟨(zin_iff (by omega)).mpr (by omega), ?_⟩
        rw [zi_tn (show s < 2147483648 by omega), s5]
        refine ⟨(zin_iff (by omega)).mpr (by omega), ?_⟩
        split
        · exact h _
        · refine r_MsetName V hk (fun r5 => ⟨hin, ?_⟩)
          intro P105 h105
          have nx : ∀ v, P105 v := fun v => h105 v (fun v' ev => by
            rw [ev, zi_succ]
            exact ih v)
          split
          · exact ⟨hk1, fun v ev => nx v⟩
          · exact nx _
      · refine h51 _ _ ?_
        rw [n1, if_pos (Int32.le_refl _)]
        exact h _
  · rw [if_pos rfl]
    exact h _
