/-! node -/
def nodV (x : Sg) (k : Nat) (a : Int32) : Nat → Int32
  | 0 => Int32.ofInt (ndR (sgN x k))
  | 1 => zi (ndM (sgN x k))
  | 2 => zi (ndC (sgN x k)).length
  | 3 => Int32.ofInt (ndS (sgN x k))
  | 4 => zi (ndT (sgN x k))
  | 5 => zi (ndB (sgN x k))
  | 6 => if k = 0 then 1 else (match inT x a with
    | some _ => 1
    | none => 0)
  | 7 => (match inT x a with
    | some p => if p = 0 then -2 else zi (ffA x (ffA x p).2.1).1
    | none => -2)
  | _ => if k = 0 then zi (nG x - 1) else (match inT x a with
    | some p => if ndT (sgN x k) = 0 then -2 else zi (fsT x p)
    | none => -2)
def vNode (x : Sg) (a b : Int32) : Int32 := match ixI (sgM x) a with
  | some k => (match ixI 9 b with
    | some j => nodV x k a j
    | none => -1000)
  | none => -1000
theorem t_isEnd {x : Sg} {k : Nat} {I : zI} {K : Int32 → Prop} (hv : Iv x) (hw : Ev x) (hR : RX I x) (hk : k < sgM x) (h1 : k = 0 → K 1) (h0 : k ≠ 0 → K 0) : w_Desk_isEnd (zi k) I K := by
  have hm := hv.2.2.2.1
  unfold w_Desk_isEnd
  refine (w_get (by decide)).mpr ?_
  rw [rg_in (by decide) (show k < 3400 by omega), show I.1 (27 + 1) k = zi (ndM (sgN x k)) from (hR.2.1.2 k hk).2.1]
  have hM := hv.2.1.sym k hk
  by_cases u : ndM (sgN x k) = 15
  · rw [if_pos (show zi (ndM (sgN x k)) = 15 by rw [u]; rfl)]
    exact h1 ((hw.2.1 k hk).mp u)
  · rw [if_neg (show ¬ zi (ndM (sgN x k)) = 15 from zi_ne (b := 15) (by omega) (by decide) u)]
    exact h0 (fun v => u ((hw.2.1 k hk).mpr v))
theorem ix9 {b : Int32} : (∃ j, j < 9 ∧ b = zi j ∧ ixI 9 b = some j) ∨ (ixI 9 b = none ∧ ∀ j, j < 9 → b ≠ zi j) := by
  rcases ix_cs (n := 9) (by decide) b with ⟨j, hj, e, e2⟩ | ⟨e, -⟩
  · exact Or.inl ⟨j, hj, e, e2⟩
  · refine Or.inr ⟨e, fun j hj u => ?_⟩
    rw [u, ixI_some (by decide) hj] at e
    cases e
theorem t_node {x : Sg} {a b : Int32} {I : zI} {K : Int32 → Prop} (hv : Iv x) (hw : Ev x) (hR : RX I x) (h : K (vNode x a b)) : w_Desk_node a b I K := by
  have hm := hv.2.2.2.1
  have rep := hR.2.1
  unfold w_Desk_node
  unfold vNode at h
  refine t_has (n := sgM x) (by omega) rep.1 (fun k hk e e2 => ?_) (fun e => ?_)
  · rw [e2] at h
    dsimp only at h
    have nd := rep.2 k hk
    have inr : ∀ n : Nat, k < 3400 := fun _ => by omega
    rw [if_neg (by decide), e]
    rw [e] at h
    rcases ix9 (b := b) with ⟨j, hj, eb, e3⟩ | ⟨e3, no⟩
    · rw [e3] at h
      dsimp only at h
      rw [eb]
      match j, hj with
      | 0, _ =>
        rw [if_pos (show zi 0 = 0 from rfl)]
        refine (w_get (by decide)).mpr ?_
        rw [rg_in (by decide) (inr 0), show I.1 (25 + 1) k = _ from nd.1]
        exact h
      | 1, _ =>
        rw [if_neg (by decide), if_pos (show zi 1 = 1 from rfl)]
        refine (w_get (by decide)).mpr ?_
        rw [rg_in (by decide) (inr 0), show I.1 (27 + 1) k = _ from nd.2.1]
        exact h
      | 2, _ =>
        rw [if_neg (by decide), if_neg (by decide), if_pos (show zi 2 = 2 from rfl)]
        exact s_childrenOf rep hv.2.1 (by omega) hk h
      | 3, _ =>
        rw [if_neg (by decide), if_neg (by decide), if_neg (by decide), if_pos (show zi 3 = 3 from rfl)]
        refine (w_get (by decide)).mpr ?_
        rw [rg_in (by decide) (inr 0), show I.1 (29 + 1) k = _ from nd.2.2.1]
        exact h
      | 4, _ =>
        rw [if_neg (by decide), if_neg (by decide), if_neg (by decide), if_neg (by decide), if_pos (show zi 4 = 4 from rfl)]
        refine (w_get (by decide)).mpr ?_
        rw [rg_in (by decide) (inr 0), show I.1 (31 + 1) k = _ from nd.2.2.2.1]
        exact h
      | 5, _ =>
        rw [if_neg (by decide), if_neg (by decide), if_neg (by decide), if_neg (by decide), if_neg (by decide), if_pos (show zi 5 = 5 from rfl)]
        refine (w_get (by decide)).mpr ?_
        rw [rg_in (by decide) (inr 0), show I.1 (33 + 1) k = _ from nd.2.2.2.2.1]
        exact h
      | 6, _ =>
        rw [if_neg (by decide), if_neg (by decide), if_neg (by decide), if_neg (by decide), if_neg (by decide), if_neg (by decide), if_pos (show zi 6 = 6 from rfl)]
        change K (if k = 0 then 1 else (match inT x (zi k) with
          | some _ => 1
          | none => 0)) at h
        refine t_isEnd hv hw hR hk (fun u => ?_) (fun u => ?_)
        · rw [if_pos u] at h
          rw [if_neg (by decide)]
          exact h
        · rw [if_neg u] at h
          rw [if_pos rfl]
          refine t_holds hv hR (fun p f hp ea hlt e4 => ?_) (fun e4 => ?_)
          · rw [e4] at h
            rw [if_neg (by decide)]
            exact h
          · rw [e4] at h
            rw [if_pos rfl]
            exact h
      | 7, _ =>
        rw [if_neg (by decide), if_neg (by decide), if_neg (by decide), if_neg (by decide), if_neg (by decide), if_neg (by decide), if_neg (by decide), if_pos (show zi 7 = 7 from rfl)]
        change K (match inT x (zi k) with
          | some p => if p = 0 then -2 else zi (ffA x (ffA x p).2.1).1
          | none => -2) at h
        cases e4 : inT x (zi k) with
        | none =>
          rw [e4] at h
          exact t_parN hv hR e4 h
        | some p =>
          rw [e4] at h
          dsimp only at h
          obtain ⟨f, hp, ea⟩ := inT_is e4 (by omega)
          rw [ea]
          rw [ffA_at hp] at h
          refine t_parP hv hR hp (fun w => ?_) (fun z1 z2 z3 => ?_)
          · rw [if_pos w] at h
            exact h
          · rw [if_neg (by omega)] at h
            exact h
      | 8, _ =>
        rw [if_neg (by decide), if_neg (by decide), if_neg (by decide), if_neg (by decide), if_neg (by decide), if_neg (by decide), if_neg (by decide), if_neg (by decide), if_pos (show zi 8 = 8 from rfl)]
        change K (if k = 0 then zi (nG x - 1) else (match inT x (zi k) with
          | some p => if ndT (sgN x k) = 0 then -2 else zi (fsT x p)
          | none => -2)) at h
        refine t_isEnd hv hw hR hk (fun u => ?_) (fun u => ?_)
        · rw [if_pos u] at h
          rw [if_neg (by decide)]
          obtain ⟨s, hA⟩ := hR.now
          refine s_now hA.1 hA.2.1 ?_
          have n1 : 1 ≤ nG x := hv.tr.2.2.2.2.2.2.1
          rw [show I.1 (zmom s) 6 = zi (nG x) from hA.2.2.2.2.2.2.1, show zi (nG x) - 1 = zi (nG x - 1) from zi_sub (b := 1) n1]
          exact h
        · rw [if_neg u] at h
          rw [if_pos rfl]
          cases e4 : inT x (zi k) with
          | none =>
            rw [e4] at h
            unfold w_TreeView_firstOf
            refine t_holds hv hR (fun p f hp ea hlt e5 => ?_) (fun _ => ?_)
            · rw [e4] at e5
              cases e5
            · rw [if_pos rfl]
              exact h
          | some p =>
            rw [e4] at h
            dsimp only at h
            obtain ⟨f, hp, ea⟩ := inT_is e4 (by omega)
            have hlt := (hv.fg.1.2 p f hp).1
            have ek : k = f.1 := (zi_eq (by omega) (by omega)).mp ea
            rw [ea]
            refine s_firstOf rep (by omega) hR.2.2.1.2.1 hv.fg.1 hp ?_
            rw [ek] at h
            rcases ff_fst hv hp with ⟨f1, f2⟩ | ⟨f1, f2, f3⟩
            · rw [if_pos f1] at h
              rw [f2]
              exact h
            · rw [if_neg (by omega)] at h
              rw [f2, zi_int]
              exact h
    · rw [e3] at h
      have nn : ∀ j : Nat, j < 9 → ¬ b = zi j := no
      rw [if_neg (show ¬ b = 0 from nn 0 (by decide)), if_neg (show ¬ b = 1 from nn 1 (by decide)), if_neg (show ¬ b = 2 from nn 2 (by decide)), if_neg (show ¬ b = 3 from nn 3 (by decide)), if_neg (show ¬ b = 4 from nn 4 (by decide)), if_neg (show ¬ b = 5 from nn 5 (by decide)), if_neg (show ¬ b = 6 from nn 6 (by decide)), if_neg (show ¬ b = 7 from nn 7 (by decide)), if_neg (show ¬ b = 8 from nn 8 (by decide))]
      exact h
  · rw [e] at h
    rw [if_pos rfl]
    exact h
theorem u_node {x : Sg} {a b : Int32} {I : zI} {K : Int32 → Prop} (hv : Iv x) (hR : RM I x) (h : K (vNode x a b)) : w_M_node a b I K := by
  have V := hR.view hv
  obtain ⟨l1, l2, l3, l4, l5, l6, l7⟩ := V.len
  have hm := V.2.2.1
  have f248 := hv.f248
  unfold w_M_node
  unfold vNode at h
  rw [l6]
  refine u_in (by omega) (fun k hk e e2 => ?_) (fun e => ?_)
  · rw [e2] at h
    dsimp only at h
    rw [e] at h
    have hin : vp_in (zi k) 3700 := (zin_iff (by omega)).mpr (by omega)
    rw [if_neg (by decide), e]
    refine u_in (n := 9) (by decide) (fun j hj ej e3 => ?_) (fun e3 => ?_)
    · rw [e3] at h
      dsimp only at h
      rw [if_neg (by decide), zi_tn (show k < 2147483648 by omega)]
      refine ⟨hin, ?_⟩
      intro P42 h42
      have nd := V.1.2 k hk
      have e9 : I.1 509 k = Int32.ofInt (ndR (sgN x k)) := nd.1
      have e23 : (∃ p f, (FF x)[p]? = some f ∧ f.1 = k ∧ inT x (zi k) = some p ∧ I.1 523 k = zi p) ∨ (inT x (zi k) = none ∧ I.1 523 k = -1) := by
        have e4 : inT x (zi k) = plT x k := by
          unfold inT
          rw [ixI_some (by omega) hk]
        cases ep : plT x k with
        | none => exact Or.inr ⟨by rw [e4, ep], V.2.2.2.2.1.2.1.2.2 k (by omega) (fun i y hi hy => plT_no ep i y hy)⟩
        | some q =>
          obtain ⟨g, g1, g2⟩ := plT_is ep
          have w := (V.2.2.2.2.1.2.1.2.1 q g (List.getElem?_eq_some_iff.mp g1).1 g1).2.1
          rw [g2] at w
          exact Or.inl ⟨q, g, g1, g2, by rw [e4, ep], w⟩
      have all : ∀ t : Int32, (t = 1 ∧ (∃ p f, (FF x)[p]? = some f ∧ f.1 = k ∧ inT x (zi k) = some p)) ∨ (t = 0 ∧ inT x (zi k) = none) → P42 t := by
        intro t ht
        refine h42 t ?_
        rw [ej]
        match j, hj with
        | 0, _ =>
          rw [if_pos (show zi 0 = 0 from rfl), e9]
          exact ⟨hin, h⟩
        | 1, _ =>
          rw [if_neg (by decide), if_pos (show zi 1 = 1 from rfl), e9]
          refine ⟨hin, ?_⟩
          change K (zi (ndM (sgN x k))) at h
          unfold ndM at h
          rcases hv.2.1 k hk with ⟨f1, -⟩ | ⟨r, s, hr, -, f3, -⟩
          · rw [f1, if_pos (by decide)] at h
            rw [f1, if_neg (by decide), show I.1 510 k = zi (ndK (sgN x k)) from (nd.2.2.2.2.2.2 (by omega)).1]
            refine ⟨hin, ?_⟩
            rw [show (5 : Int32) = zi 5 from rfl, zi_add]
            exact h
          · rw [f3, if_neg (by omega)] at h
            rw [f3, zi_int, if_pos (zi_ge (by omega))]
            exact ⟨hin, s_MsymbolOf hr h⟩
        | 2, _ =>
          rw [if_neg (by decide), if_neg (by decide), if_pos (show zi 2 = 2 from rfl)]
          rw [(V.chs hk).1]
          exact ⟨hin, h⟩
        | 3, _ =>
          rw [if_neg (by decide), if_neg (by decide), if_neg (by decide), if_pos (show zi 3 = 3 from rfl), show I.1 514 k = _ from nd.2.1]
          exact ⟨hin, h⟩
        | 4, _ =>
          rw [if_neg (by decide), if_neg (by decide), if_neg (by decide), if_neg (by decide), if_pos (show zi 4 = 4 from rfl), show I.1 515 k = _ from nd.2.2.1]
          exact ⟨hin, h⟩
        | 5, _ =>
          rw [if_neg (by decide), if_neg (by decide), if_neg (by decide), if_neg (by decide), if_neg (by decide), if_pos (show zi 5 = 5 from rfl), show I.1 516 k = _ from nd.2.2.2.1]
          exact ⟨hin, h⟩
        | 6, _ =>
          rw [if_neg (by decide), if_neg (by decide), if_neg (by decide), if_neg (by decide), if_neg (by decide), if_neg (by decide), if_pos (show zi 6 = 6 from rfl)]
          change K (if k = 0 then 1 else (match inT x (zi k) with
            | some _ => 1
            | none => 0)) at h
          rcases ht with ⟨t1, p, f, -, -, e4⟩ | ⟨t0, e4⟩
          · rw [e4] at h
            rw [t1, if_neg (by decide)]
            by_cases u : k = 0
            · rw [if_pos u] at h
              exact h
            · rw [if_neg u] at h
              exact h
          · rw [e4] at h
            rw [t0, if_pos rfl]
            by_cases u : k = 0
            · rw [if_pos u] at h
              rw [if_pos (show zi k = 0 by rw [u]; rfl)]
              exact h
            · rw [if_neg u] at h
              rw [if_neg (show ¬ zi k = 0 from zi_ne (b := 0) (by omega) (by decide) u)]
              exact h
        | 7, _ =>
          rw [if_neg (by decide), if_neg (by decide), if_neg (by decide), if_neg (by decide), if_neg (by decide), if_neg (by decide), if_neg (by decide), if_pos (show zi 7 = 7 from rfl)]
          change K (match inT x (zi k) with
            | some p => if p = 0 then -2 else zi (ffA x (ffA x p).2.1).1
            | none => -2) at h
          rcases ht with ⟨t1, p, f, f1, f2, e4⟩ | ⟨t0, e4⟩
          · rw [e4] at h
            dsimp only at h
            rw [ffA_at f1] at h
            rw [t1, if_neg (by decide)]
            refine ⟨hin, ?_⟩
            rw [← f2]
            rcases u_parP hv hR f1 with ⟨k1, k2⟩ | ⟨k1, -, -, k4, -⟩
            · rw [if_pos k1] at h
              rw [k2]
              exact h
            · rw [if_neg (by omega)] at h
              rw [k4]
              exact h
          · rw [e4] at h
            rw [t0, if_pos rfl]
            exact h
        | 8, _ =>
          rw [if_neg (by decide), if_neg (by decide), if_neg (by decide), if_neg (by decide), if_neg (by decide), if_neg (by decide), if_neg (by decide), if_neg (by decide)]
          change K (if k = 0 then zi (nG x - 1) else (match inT x (zi k) with
            | some p => if ndT (sgN x k) = 0 then -2 else zi (fsT x p)
            | none => -2)) at h
          by_cases u : k = 0
          · rw [if_pos u] at h
            rw [if_pos (show zi k = 0 by rw [u]; rfl), show I.1 491 19 = zi (nG x) from V.2.2.2.2.2.1, show zi (nG x) - 1 = zi (nG x - 1) from zi_sub (b := 1) l4]
            exact h
          · rw [if_neg u] at h
            rw [if_neg (show ¬ zi k = 0 from zi_ne (b := 0) (by omega) (by decide) u)]
            rcases ht with ⟨t1, p, f, f1, f2, e4⟩ | ⟨t0, e4⟩
            · rw [e4] at h
              dsimp only at h
              have hT := hv.2.2.2.2.1 k hk
              rw [t1, if_neg (by decide), show I.1 515 k = zi (ndT (sgN x k)) from nd.2.2.1]
              refine ⟨hin, ?_⟩
              rcases ff_fst hv f1 with ⟨g1, g2⟩ | ⟨g1, g2, g3⟩
              · rw [f2] at g1
                rw [if_pos g1] at h
                rw [if_pos (show zi (ndT (sgN x k)) ≤ 0 by rw [g1]; decide)]
                exact h
              · rw [f2] at g1
                rw [if_neg (by omega)] at h
                rw [if_neg (show ¬ zi (ndT (sgN x k)) ≤ 0 from fun w => by have := (zi_le (b := 0) (by omega) (by decide)).mp w; omega)]
                rw [show I.1 526 k = zi (fsT x p) by rw [← f2]; exact u_first hv hR f1 g2]
                exact ⟨hin, h⟩
            · rw [e4] at h
              rw [t0, if_pos rfl]
              exact h
      rcases e23 with ⟨p, f, f1, f2, e4, e5⟩ | ⟨e4, e5⟩
      · have hpl := (List.getElem?_eq_some_iff.mp f1).1
        rw [e5, if_neg (zi_pos (by omega))]
        exact all 1 (Or.inl ⟨rfl, p, f, f1, f2, e4⟩)
      · rw [e5, if_pos (by decide)]
        exact all 0 (Or.inr ⟨rfl, e4⟩)
    · rw [e3] at h
      rw [if_pos rfl]
      exact h
  · rw [e] at h
    rw [if_pos rfl]
    exact h
