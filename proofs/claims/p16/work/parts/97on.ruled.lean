/-! ===== ruled: the class has counted, the model counts ===== -/
def vRuled (x : Sg) (b : Int32) : Int32 := match ixI 11 b with
  | some r => zi (cnR (sgN x) r (FF x))
  | none => -1
theorem t_ruled {x : Sg} {b : Int32} {I : zI} {K : Int32 → Prop} (_ : Iv x) (hR : RX I x) (h : K (vRuled x b)) : w_Desk_ruled b I K := by
  unfold w_Desk_ruled
  unfold vRuled at h
  rcases ix_cs (n := 11) (by decide) b with ⟨r, hr, rfl, eb⟩ | ⟨eb, c | ⟨c, d⟩⟩
  · rw [eb] at h
    dsimp only at h
    rw [if_neg (zi_pos (by omega)), if_neg (show ¬ (11 : Int32) ≤ zi r from nle_zi (n := 11) hr (by decide))]
    refine (w_get (by decide)).mpr ?_
    rw [rg_in (by decide) hr, show I.1 (60 + 1) r = zi (cnR (sgN x) r (FF x)) from hR.2.2.1.2.2.2.2.2.1 r hr]
    exact h
  · rw [eb] at h
    dsimp only at h
    rw [if_pos c]
    exact h
  · rw [eb] at h
    dsimp only at h
    rw [if_neg c, if_pos (show (11 : Int32) ≤ b from d)]
    exact h
/-- a node's RULE as the model keeps it is r just if it is -/
theorem nd_rule {m c r : Nat} {N : Nat → Nd} (hN : NdOk m N) (hc : c < m) (hr : r < 100) : Int32.ofInt (ndR (N c)) = zi r ↔ ndR (N c) = (r : Int) := by
  constructor
  · intro w
    rcases hN c hc with ⟨f1, -⟩ | ⟨r0, s', f1, -, f3, -⟩
    · rw [f1] at w
      have h0 : Int32.ofInt (-2) < 0 := by decide
      rw [w] at h0
      exact absurd h0 (zi_pos (by omega))
    · rw [f3, zi_int] at w
      have := (zi_eq (by omega) (by omega)).mp w
      rw [f3]
      omega
  · intro u
    rw [u, zi_int]
theorem u_ruled {x : Sg} {b : Int32} {I : zI} {K : Int32 → Prop} (hv : Iv x) (hR : RM I x) (h : K (vRuled x b)) : w_M_ruled b I K := by
  have V := hR.view hv
  have hm := V.2.2.1
  have f248 := hv.f248
  have l3 : I.1 491 43 = zi (FF x).length := V.len.2.2.1
  unfold w_M_ruled
  unfold vRuled at h
  refine u_in (n := 11) (by decide) (fun r hr er e3 => ?_) (fun eb => ?_)
  · rw [e3] at h
    dsimp only at h
    rw [if_neg (by decide)]
    intro P16 h16
    have main : ∀ (d p c : Nat), p + d = (FF x).length → c + cnR (sgN x) r ((FF x).drop p) = cnR (sgN x) r (FF x) → P16 (zi c) (zi p) := by
      intro d
      induction d with
      | zero =>
        intro p c hp hc
        refine h16 _ _ ?_
        rw [l3, if_pos ((zi_le (by omega) (by omega)).mpr (by omega))]
        rw [List.drop_of_length_le (by omega)] at hc
        change c + 0 = _ at hc
        rw [show c = cnR (sgN x) r (FF x) by omega]
        exact h
      | succ d ih =>
        intro p c hp hc
        refine h16 _ _ ?_
        have hx := ffA_is (x := x) (p := p) (by omega)
        have hpl : p < (FF x).length := by omega
        have hlt := (hv.fg.1.2 p _ hx).1
        have hdr : (FF x).drop p = ffA x p :: (FF x).drop (p + 1) := by
          rw [List.drop_eq_getElem_cons hpl, (List.getElem?_eq_some_iff.mp hx).2]
        rw [hdr, cnR_cons] at hc
        rw [l3, if_neg (nle_zi (by omega) (by omega))]
        refine ⟨(zin_iff (by omega)).mpr (by omega), ?_⟩
        rw [zi_tn (show p < 2147483648 by omega), show I.1 521 p = zi (ffA x p).1 from (V.2.2.2.2.1.2.1.2.1 p _ hpl hx).1]
        refine ⟨(zin_iff (by omega)).mpr (by omega), ?_⟩
        rw [zi_tn (show (ffA x p).1 < 2147483648 by omega), show I.1 509 (ffA x p).1 = Int32.ofInt (ndR (sgN x (ffA x p).1)) from (V.1.2 _ hlt).1, er]
        intro P42 h42
        by_cases u : ndR (sgN x (ffA x p).1) = (r : Int)
        · rw [if_pos u] at hc
          rw [if_pos ((nd_rule hv.2.1 hlt (by omega)).mpr u)]
          intro v ev
          refine h42 _ (fun v' ev' => ?_)
          rw [ev', ev, zi_succ, zi_succ]
          exact ih (p + 1) (c + 1) (by omega) (by omega)
        · rw [if_neg u, Nat.zero_add] at hc
          rw [if_neg (fun w => u ((nd_rule hv.2.1 hlt (by omega)).mp w))]
          refine h42 _ (fun v' ev' => ?_)
          rw [ev', zi_succ]
          exact ih (p + 1) c (by omega) (by omega)
    exact main (FF x).length 0 0 (by omega) (by rw [List.drop_zero, Nat.zero_add])
  · rw [eb] at h
    dsimp only at h
    rw [if_pos rfl]
    exact h
