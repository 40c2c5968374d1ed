/-! ===== questions to the model that change nothing return ===== -/
theorem m_text {x : Sg} {a : Int32} {I : zI} {K : Int32 → Prop} (hv : Iv x) (hR : RM I x) (h : ∀ v, K v) : w_M_text a I K := by
  have nw := hR.2.2.2.2.2.2.2.1
  have l300 := hv.2.2.2.2.2.2.2.1.1.1
  unfold w_M_text
  rw [nw.1]
  refine s_in (fun c => ?_) (fun c => ?_)
  · obtain ⟨k, hk, rfl⟩ := in_idx (by omega) c
    rw [if_neg (by decide)]
    exact ⟨(zin_iff (by omega)).mpr (by omega), h _⟩
  · rw [if_pos rfl]
    exact h _
theorem m_token {x : Sg} {a b : Int32} {I : zI} {K : Int32 → Prop} (hv : Iv x) (hR : RM I x) (h : ∀ v, K v) : w_M_token a b I K := by
  obtain ⟨k1, k2, -⟩ := kd_ok hv.2.2.2.2.2.2.2.1.1
  unfold w_M_token
  rw [(now_kd hv hR).1]
  refine s_in (fun c => ?_) (fun c => ?_)
  · obtain ⟨k, hk, rfl⟩ := in_idx (by omega) c
    have hin : vp_in (zi k) 110 := (zin_iff (by omega)).mpr (by omega)
    rw [if_neg (by decide)]
    refine s_in (fun _ => ?_) (fun _ => ?_)
    · rw [if_neg (by decide)]
      repeat' split
      all_goals exact ⟨hin, h _⟩
    · rw [if_pos rfl]
      exact h _
  · rw [if_pos rfl]
    exact h _
theorem m_under {x : Sg} {a : Int32} {I : zI} {K : Int32 → Prop} (hv : Iv x) (hR : RM I x) (h : ∀ v, K v) : w_M_under a I K := by
  obtain ⟨k1, k2, -⟩ := kd_ok hv.2.2.2.2.2.2.2.1.1
  unfold w_M_under
  rw [(now_kd hv hR).1]
  refine s_in (fun c => ?_) (fun c => ?_)
  · rw [if_neg (by decide)]
    intro P18 h18
    refine up_idx (n := (lexL (moT (sgC x))).length) (P := P18) (fun i hi ih => ?_) ?_ 0 (Nat.zero_le _)
    · refine h18 _ ?_
      have hin : vp_in (zi i) 110 := (zin_iff (by omega)).mpr (by omega)
      rw [if_neg (fun u => by have := (zi_le (by omega) (by omega)).mp u; omega)]
      refine ⟨hin, hin, hin, s_in (fun _ => ?_) (fun _ => ?_)⟩
      · rw [if_neg (by decide)]
        exact h _
      · rw [if_pos rfl]
        intro v ev
        rw [ev, zi_succ]
        exact ih
    · refine h18 _ ?_
      rw [if_pos (Int32.le_refl _)]
      exact h _
  · rw [if_pos rfl]
    exact h _
theorem m_good {a : Int32} {m R n : Nat} {N : Nat → Nd} {og : Nat → Nat} {I : zI} {K : Int32 → Prop} (V : Vw I m R n N og) (h : ∀ v, K v) : w_M_good a I K := by
  obtain ⟨l1, l2, l3, l4, l5, l6, l7⟩ := V.len
  refine s_MisToken V (fun i hi e => ?_) ?_
  · rw [if_neg (by decide), e]
    exact ⟨(zin_iff (by omega)).mpr (by omega), h _⟩
  · rw [if_pos rfl]
    exact h _
theorem m_node {a b : Int32} {m R n : Nat} {N : Nat → Nd} {og : Nat → Nat} {I : zI} {K : Int32 → Prop} (V : Vw I m R n N og) (h : ∀ v, K v) : w_M_node a b I K := by
  obtain ⟨l1, l2, l3, l4, l5, l6, l7⟩ := V.len
  have hm := V.2.2.1
  unfold w_M_node
  rw [l6]
  refine s_in (fun c => ?_) (fun c => ?_)
  · obtain ⟨k, hk, rfl⟩ := in_idx (by omega) c
    have hin : vp_in (zi k) 3700 := (zin_iff (by omega)).mpr (by omega)
    rw [if_neg (by decide)]
    refine s_in (fun _ => ?_) (fun _ => ?_)
    · rw [if_neg (by decide)]
      refine ⟨hin, ?_⟩
      intro P42 h42
      have all : ∀ t, P42 t := by
        intro t
        refine h42 t ?_
        have e9 : I.1 509 (Int32.toNatClampNeg (zi k)) = Int32.ofInt (ndR (N k)) := by
          rw [zi_tn (show k < 2147483648 by omega)]
          exact (V.1.2 k hk).1
        rw [e9]
        by_cases c0 : b = 0
        · rw [if_pos c0]
          exact ⟨hin, h _⟩
        rw [if_neg c0]
        by_cases c1 : b = 1
        · rw [if_pos c1]
          refine ⟨hin, ?_⟩
          rcases V.2.1 k hk with ⟨e, -⟩ | ⟨r, s, hr, -, e, -⟩
          · rw [e, if_neg (by decide)]
            exact ⟨hin, h _⟩
          · rw [e, zi_int r, if_pos (zi_ge (by omega))]
            exact ⟨hin, s_MsymbolOf hr (h _)⟩
        rw [if_neg c1]
        repeat' split
        all_goals first | exact h _ | exact ⟨hin, h _⟩ | exact ⟨hin, hin, h _⟩
      split
      · exact all _
      · exact all _
    · rw [if_pos rfl]
      exact h _
  · rw [if_pos rfl]
    exact h _
theorem r_childOf2 {c i : Nat} {I : zI} {K : Int32 → Prop} (hc : c < 3300) (hi : i < 5) (h : ∀ v, K v) : w_M_childOf (zi c) (zi i) I K := by
  unfold w_M_childOf
  rw [show 4 * zi c + zi i = zi (4 * c + i) by rw [show (4 : Int32) = zi 4 from rfl, zi_mul, zi_add]]
  exact ⟨(zin_iff (by omega)).mpr (by omega), h _⟩
theorem Vw.chs {I : zI} {m R n c : Nat} {N : Nat → Nd} {og : Nat → Nat} (V : Vw I m R n N og) (hc : c < m) : I.1 512 c = zi (ndC (N c)).length ∧ (ndC (N c)).length ≤ 4 := by
  refine ⟨?_, V.2.1.ch c hc⟩
  rw [← ndL_len V.2.1 hc]
  exact (V.1.2 c hc).2.2.2.2.1
theorem m_child {a b : Int32} {m R n : Nat} {N : Nat → Nd} {og : Nat → Nat} {I : zI} {K : Int32 → Prop} (V : Vw I m R n N og) (h : ∀ v, K v) : w_M_child a b I K := by
  obtain ⟨l1, l2, l3, l4, l5, l6, l7⟩ := V.len
  have hm := V.2.2.1
  unfold w_M_child
  rw [l6]
  refine s_in (fun c => ?_) (fun c => ?_)
  · obtain ⟨k, hk, rfl⟩ := in_idx (by omega) c
    rw [if_neg (by decide)]
    refine ⟨(zin_iff (by omega)).mpr (by omega), ?_⟩
    obtain ⟨w1, w2⟩ := V.chs hk
    rw [zi_tn (show k < 2147483648 by omega), w1]
    refine s_in (fun c => ?_) (fun _ => ?_)
    · obtain ⟨i, hi, rfl⟩ := in_idx (by omega) c
      rw [if_neg (by decide)]
      exact r_childOf2 (by omega) (by omega) (fun v => h v)
    · rw [if_pos rfl]
      exact h _
  · rw [if_pos rfl]
    exact h _
theorem m_besideOf {a b : Int32} {m R n : Nat} {N : Nat → Nd} {og : Nat → Nat} {I : zI} {K : Int32 → Prop} (V : Vw I m R n N og) (h : ∀ v, K v) : w_M_besideOf a b I K := by
  have hm := V.2.2.1
  refine s_isIn V (fun c p d e hI => ?_) ?_
  · subst e
    obtain ⟨i1, -⟩ := V.inp hI
    have hin : vp_in (zi c) 3700 := (zin_iff (by omega)).mpr (by omega)
    rw [if_neg (by decide)]
    refine ⟨hin, ?_⟩
    rw [zi_tn (show c < 2147483648 by omega)]
    rcases V.par hI with ⟨b1, b2, b3⟩ | ⟨q, y, j, b1, b2, b3, b4, b5, b6⟩
    · rw [b3, if_neg (by decide)]
      exact h _
    · obtain ⟨y1, -⟩ := V.inp b3
      obtain ⟨w1, w2⟩ := V.chs y1
      rw [b4, if_pos (zi_ge (by omega))]
      refine ⟨hin, fun v ev => ⟨hin, (zin_iff (by omega)).mpr (by omega), ?_⟩⟩
      rw [zi_tn (show y < 2147483648 by omega), w1]
      refine s_in (fun c => ?_) (fun _ => ?_)
      · obtain ⟨i, hi, e⟩ := in_idx (by omega) c
        rw [if_neg (by decide), e]
        exact ⟨hin, r_childOf2 (by omega) (by omega) (fun v => h v)⟩
      · rw [if_pos rfl]
        exact h _
  · rw [if_pos rfl]
    exact h _
theorem r_MbeginOf {c p d : Nat} {m R n : Nat} {N : Nat → Nd} {og : Nat → Nat} {I : zI} {K : Int32 → Prop} (V : Vw I m R n N og) (hI : InP N R c p d) (h : ∀ v, K v) : w_M_beginOf (zi c) I K := by
  obtain ⟨l1, l2, l3, l4, l5, l6, l7⟩ := V.len
  have hm := V.2.2.1
  obtain ⟨i1, -⟩ := V.inp hI
  obtain ⟨o, o1, o2, -⟩ := V.fst hI
  unfold w_M_beginOf
  refine ⟨(zin_iff (by omega)).mpr (by omega), ?_⟩
  rw [zi_tn (show c < 2147483648 by omega), o2]
  exact ⟨(zin_iff (by omega)).mpr (by omega), h _⟩
theorem r_MendOf {c p d : Nat} {m R n : Nat} {N : Nat → Nd} {og : Nat → Nat} {I : zI} {K : Int32 → Prop} (V : Vw I m R n N og) (hI : InP N R c p d) (h1 : 1 ≤ ndT (N c)) (h : ∀ v, K v) : w_M_endOf (zi c) I K := by
  obtain ⟨l1, l2, l3, l4, l5, l6, l7⟩ := V.len
  have hm := V.2.2.1
  obtain ⟨i1, -⟩ := V.inp hI
  obtain ⟨o, o1, o2, o3⟩ := V.fst hI
  have o4 := o3 h1
  unfold w_M_endOf
  have hin : vp_in (zi c) 3700 := (zin_iff (by omega)).mpr (by omega)
  refine ⟨hin, hin, ?_⟩
  rw [zi_tn (show c < 2147483648 by omega), o2, show I.1 515 c = zi (ndT (N c)) from (V.1.2 c i1).2.2.1, zi_add, show zi (o + ndT (N c)) - 1 = zi (o + ndT (N c) - 1) from zi_sub (b := 1) (by omega)]
  intro v ev
  rw [ev]
  have hi2 : vp_in (zi (o + ndT (N c) - 1)) 110 := (zin_iff (by omega)).mpr (by omega)
  exact ⟨hi2, hi2, h _⟩
theorem m_span {a b : Int32} {m R n : Nat} {N : Nat → Nd} {og : Nat → Nat} {I : zI} {K : Int32 → Prop} (V : Vw I m R n N og) (h : ∀ v, K v) : w_M_span a b I K := by
  have hm := V.2.2.1
  refine s_isIn V (fun c p d e hI => ?_) ?_
  · subst e
    obtain ⟨i1, -⟩ := V.inp hI
    rw [if_neg (by decide)]
    refine ⟨(zin_iff (by omega)).mpr (by omega), ?_⟩
    have hT := V.2.2.2.2.2.2.2 c i1
    rw [zi_tn (show c < 2147483648 by omega), show I.1 515 c = zi (ndT (N c)) from (V.1.2 c i1).2.2.1]
    by_cases u : ndT (N c) = 0
    · rw [if_pos (show zi (ndT (N c)) = 0 by rw [u]; rfl)]
      exact h _
    · rw [if_neg (show ¬ zi (ndT (N c)) = 0 from fun w => u ((zi_eq (b := 0) (by omega) (by decide)).mp w))]
      refine s_in (fun _ => ?_) (fun _ => ?_)
      · rw [if_neg (by decide)]
        split
        · exact r_MbeginOf V hI (fun v => h v)
        · exact r_MendOf V hI (by omega) (fun v => r_MbeginOf V hI (fun w => h _))
      · rw [if_pos rfl]
        exact h _
  · rw [if_pos rfl]
    exact h _
/-- all places, one after another -/
theorem up_plc {m R n : Nat} {N : Nat → Nd} {og : Nat → Nat} {I : zI} {P : Int32 → Int32 → Prop} (V : Vw I m R n N og) (step : ∀ p c d w, InP N R c p d → (∀ w', P w' (zi (p + 1))) → P w (zi p)) (stop : ∀ w, P w (zi (flR N R).length)) : ∀ w p, p ≤ (flR N R).length → P w (zi p) := fun w p hp =>
  up_idx (n := (flR N R).length) (P := fun v => ∀ w, P w v) (fun i hi ih w => by
    obtain ⟨c, d, hI⟩ := inp_at hi
    exact step i c d w hI ih) stop p hp w
theorem m_ruled {a : Int32} {m R n : Nat} {N : Nat → Nd} {og : Nat → Nat} {I : zI} {K : Int32 → Prop} (V : Vw I m R n N og) (h : ∀ v, K v) : w_M_ruled a I K := by
  obtain ⟨l1, l2, l3, l4, l5, l6, l7⟩ := V.len
  have hm := V.2.2.1
  unfold w_M_ruled
  refine s_in (fun _ => ?_) (fun _ => ?_)
  · rw [if_neg (by decide)]
    intro P16 h16
    refine up_plc V (P := P16) (fun p c d w hI ih => ?_) (fun w => ?_) 0 0 (Nat.zero_le _)
    · obtain ⟨i1, i2, i3, i4, -⟩ := V.inp hI
      refine h16 _ _ ?_
      rw [l3, if_neg (fun u => by have := (zi_le (by omega) (by omega)).mp u; omega)]
      refine ⟨(zin_iff (by omega)).mpr (by omega), ?_⟩
      rw [zi_tn (show p < 2147483648 by omega), i4]
      refine ⟨(zin_iff (by omega)).mpr (by omega), ?_⟩
      intro P42 h42
      have nx : ∀ v, P42 v := fun v => h42 v (fun v' ev => by
        rw [ev, zi_succ]
        exact ih v)
      split
      · exact fun v ev => nx v
      · exact nx w
    · refine h16 _ _ ?_
      rw [l3, if_pos (Int32.le_refl _)]
      exact h _
  · rw [if_pos rfl]
    exact h _
theorem m_above {a b : Int32} {m R n : Nat} {N : Nat → Nd} {og : Nat → Nat} {I : zI} {K : Int32 → Prop} (V : Vw I m R n N og) (h : ∀ v, K v) : w_M_above a b I K := by
  obtain ⟨l1, l2, l3, l4, l5, l6, l7⟩ := V.len
  have hm := V.2.2.1
  refine s_MisToken V (fun i hi e => ?_) ?_
  · rw [if_neg (by decide)]
    refine s_in (fun _ => ?_) (fun _ => ?_)
    · rw [if_neg (by decide)]
      refine s_MisInner V (fun i hi e => ?_) ?_
      · rw [if_neg (by decide), e]
        refine ⟨(zin_iff (by omega)).mpr (by omega), ?_⟩
        obtain ⟨p, d, d2, hI⟩ := V.tok hi
        obtain ⟨i1, -⟩ := V.inp hI
        rw [zi_tn (show i < 2147483648 by omega), V.2.2.2.2.2.2.1 i (by omega)]
        refine ⟨(zin_iff (by omega)).mpr (by omega), fun v3 ev3 => ?_⟩
        rw [zi_tn (show og i < 2147483648 by omega)] at ev3
        intro P43 h43
        have end0 : ∀ v, v < 0 → P43 v := fun v hv0 => by
          refine h43 v ?_
          intro P67 h67
          rw [if_pos hv0]
          refine h67 ?_
          split
          · exact h _
          · exact h _
        have main : ∀ (p c d : Nat), InP N R c p d → P43 (zi c) := by
          intro p
          induction p using Nat.strongRecOn with
          | ind p ih =>
            intro c d hc
            obtain ⟨c1, -⟩ := V.inp hc
            have hin : vp_in (zi c) 3700 := (zin_iff (by omega)).mpr (by omega)
            refine h43 _ ?_
            intro P67 h67
            have fin : P67 := h67 (by
              split
              · exact h _
              · exact h _)
            rw [if_neg (zi_pos (by omega))]
            refine ⟨hin, ?_⟩
            split
            · exact fin
            · refine ⟨hin, fun v ev => ?_⟩
              rw [zi_tn (show c < 2147483648 by omega)] at ev
              rcases V.par hc with ⟨b1, b2, b3⟩ | ⟨q, y, j, b1, b2, b3, b4, b5, b6⟩
              · rw [ev, b3]
                exact end0 _ (by decide)
              · rw [ev, b4]
                exact ih q b2 y _ b3
        rcases V.par hI with ⟨b1, b2, b3⟩ | ⟨q, y, j, b1, b2, b3, b4, b5, b6⟩
        · omega
        · rw [ev3, b4]
          exact main q y _ b3
      · rw [if_pos rfl]
        exact h _
    · rw [if_pos rfl]
      exact h _
  · rw [if_pos rfl]
    exact h _
theorem m_path {a b : Int32} {m R n : Nat} {N : Nat → Nd} {og : Nat → Nat} {I : zI} {K : Int32 → Prop} (V : Vw I m R n N og) (h : ∀ v, K v) : w_M_path a b I K := by
  obtain ⟨l1, l2, l3, l4, l5, l6, l7⟩ := V.len
  have hm := V.2.2.1
  refine s_MisInner V (fun i hi e => ?_) ?_
  · rw [if_neg (by decide), e]
    have hin : vp_in (zi i) 110 := (zin_iff (by omega)).mpr (by omega)
    refine ⟨hin, ?_⟩
    obtain ⟨p, d, d2, hI⟩ := V.tok hi
    obtain ⟨i1, i2, i3, -⟩ := V.inp hI
    have dle : ∀ (p c d : Nat), InP N R c p d → d ≤ p + 1 := by
      intro p
      induction p using Nat.strongRecOn with
      | ind p ih =>
        intro c d hc
        rcases V.par hc with ⟨b1, -⟩ | ⟨q, y, j, b1, b2, b3, -⟩
        · omega
        · have := ih q b2 y _ b3
          omega
    have hd := dle p _ d hI
    rw [zi_tn (show i < 2147483648 by omega), V.2.2.2.2.2.2.1 i (by omega)]
    refine s_deepOf V hI ?_
    refine s_in (fun c => ?_) (fun _ => ?_)
    · obtain ⟨k, hk, rfl⟩ := in_idx (by omega) c
      rw [if_neg (by decide)]
      refine ⟨hin, fun v4 ev4 v5 ev5 => ?_⟩
      rw [show zi d - 1 = zi (d - 1) from zi_sub (b := 1) (by omega)] at ev5
      intro P47 h47
      rw [ev4, ev5]
      have main : ∀ (e c p : Nat), InP N R c p (e + 1) → e < 1000 → P47 (zi c) (zi e) := by
        intro e
        induction e with
        | zero =>
          intro c p hc _
          refine h47 _ _ ?_
          rw [if_pos ((zi_le (by omega) (by omega)).mpr (by omega))]
          exact h _
        | succ e ih =>
          intro c p hc he
          obtain ⟨c1, -⟩ := V.inp hc
          refine h47 _ _ ?_
          by_cases u : e + 1 ≤ k
          · rw [if_pos ((zi_le (by omega) (by omega)).mpr u)]
            exact h _
          · rw [if_neg (fun w => u ((zi_le (by omega) (by omega)).mp w))]
            refine ⟨(zin_iff (by omega)).mpr (by omega), fun v ev v' ev' => ?_⟩
            rw [zi_tn (show c < 2147483648 by omega)] at ev
            rcases V.par hc with ⟨b1, -⟩ | ⟨q, y, j, b1, b2, b3, b4, b5, b6⟩
            · omega
            · rw [ev, b4, ev', ← Int32.sub_eq_add_neg, show zi (e + 1) - 1 = zi e from zi_sub (b := 1) (by omega)]
              exact ih y q b3 (by omega)
      exact main (d - 1) (og i) p (by rw [show d - 1 + 1 = d by omega]; exact hI) (by omega)
    · rw [if_pos rfl]
      exact h _
  · rw [if_pos rfl]
    exact h _
