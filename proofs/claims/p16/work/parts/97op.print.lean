/-! ===== print: both sides write the same ===== -/
theorem sgn_45 {b : Int32} : (sgn b = 4 → b = 43) ∧ (sgn b = 5 → b = 42) := by
  unfold sgn
  constructor
  · intro h
    repeat' split at h
    all_goals first | assumption | exact absurd h (by decide)
  · intro h
    repeat' split at h
    all_goals first | assumption | exact absurd h (by decide)
theorem tkP_45 {t : Nat → Int32} {n i : Nat} : ((tkP t n i).1 = 4 → t i = 43) ∧ ((tkP t n i).1 = 5 → t i = 42) := by
  unfold tkP
  constructor
  · intro h
    repeat' split at h
    all_goals first | exact sgn_45.1 h | exact absurd (show (11 : Nat) = 4 from h) (by decide) | exact absurd (show (0 : Nat) = 4 from h) (by decide) | exact absurd (show (1 : Nat) = 4 from h) (by decide)
  · intro h
    repeat' split at h
    all_goals first | exact sgn_45.2 h | exact absurd (show (11 : Nat) = 5 from h) (by decide) | exact absurd (show (0 : Nat) = 5 from h) (by decide) | exact absurd (show (1 : Nat) = 5 from h) (by decide)
theorem lexF_45 {t : Nat → Int32} {n : Nat} : ∀ f i, ∀ x ∈ lexF t n f i, (x.1 = 4 → t x.2.1 = 43) ∧ (x.1 = 5 → t x.2.1 = 42)
  | 0, i, x, hx => by cases hx
  | f + 1, i, x, hx => by
    rw [lexF] at hx
    by_cases h : n ≤ i
    · rw [if_pos h] at hx
      cases hx
    · rw [if_neg h] at hx
      by_cases hB : isB (t i) = true
      · rw [if_pos hB] at hx
        exact lexF_45 f _ x hx
      · rw [if_neg hB] at hx
        rcases List.mem_cons.mp hx with rfl | hx
        · exact tkP_45
        · exact lexF_45 f _ x hx
theorem lex_45 {t : Nat → Int32} {n : Nat} : ∀ x ∈ lex t n, (x.1 = 4 → t x.2.1 = 43) ∧ (x.1 = 5 → t x.2.1 = 42) := by
  intro x hx
  unfold lex at hx
  rcases List.mem_append.mp hx with h | h
  · exact lexF_45 _ _ x h
  · cases List.mem_singleton.mp h
    exact ⟨fun u => absurd (show (10 : Nat) = 4 from u) (by decide), fun u => absurd (show (10 : Nat) = 5 from u) (by decide)⟩
/-- a token's node in the TREE -/
theorem tok_of {x : Sg} (hv : Iv x) {p : Nat} {f : Fl} (hp : (FF x)[p]? = some f) (hr : ndR (sgN x f.1) < 0) : ∃ i, i + 1 < nG x ∧ moO (sgC x) i = f.1 ∧ f.2.2.1 = (i : Int) := by
  have hlt := (hv.fg.1.2 p f hp).1
  obtain ⟨-, -, o, o1, o2, o3, -⟩ := fl_in hv.2.1 _ hv.tr.1 _ _ _ _ _ _ hp
  have hT : ndT (sgN x f.1) = 1 := by
    rcases hv.2.1 _ hlt with ⟨-, -, -, e, -⟩ | ⟨r, s, -, -, e3, -⟩
    · exact e
    · omega
  have hT0 := hv.tr.tk hv.2.1
  rw [hT] at o1 o3
  rw [yl_eq hv.2.1 hlt, if_pos hr, hv.tr.2.2.1] at o3
  have hol : o < nG x - 1 := by omega
  refine ⟨o, by omega, ?_, ?_⟩
  · have h0 := congrArg (fun l : List Nat => l[0]?) o3
    change some f.1 = _ at h0
    rw [List.getElem?_take_of_lt (by decide), List.getElem?_drop, Nat.add_zero, List.getElem?_map, List.getElem?_range hol] at h0
    exact (Option.some.inj h0).symm
  · rw [o2]
    show (if ndT (sgN x f.1) = 0 then (-2 : Int) else ((0 + o : Nat) : Int)) = (o : Int)
    rw [if_neg (by omega), Nat.zero_add]
/-- its bytes -/
theorem tok_Y {x : Sg} (hv : Iv x) {i : Nat} (hi : i < nG x) : ndY (sgN x (moO (sgC x) i)) = tkBs (txF (moG (sgC x))) (tkG x i) ∧ ndK (sgN x (moO (sgC x) i)) = (tkG x i).1 ∧ tkOk (txF (moG (sgC x))) (tkG x i) ∧ (tkG x i).2.1 + (tkG x i).2.2 ≤ (moG (sgC x)).length := by
  have hw := tkG_at (x := x) (k := i) hi
  have o2 := hv.2.2.2.2.2.2.2.1.2.1
  obtain ⟨k1, k2⟩ := hv.2.2.2.2.2.2.2.1.2.2.2.2 _ _ hw
  obtain ⟨q1, q2⟩ := lex_ok o2.2.1 _ (List.mem_of_getElem? hw)
  exact ⟨k2, k1, q1, q2⟩
/-- the sign of a sum, of a product -/
theorem op_Y {x : Sg} (hv : Iv x) {p : Nat} {f : Fl} (hp : (FF x)[p]? = some f) (h : ndM (sgN x f.1) = 9 ∨ ndM (sgN x f.1) = 10) : prt (sgN x) f.1 = [if ndM (sgN x f.1) = 9 then 43 else 42] := by
  have hlt := (hv.fg.1.2 p f hp).1
  obtain ⟨h1, -⟩ := nd_tk5 hv.2.1 hlt (by omega)
  obtain ⟨i, i1, i2, -⟩ := tok_of hv hp h1
  have hi : i < nG x := by omega
  obtain ⟨y1, y2, y3, y4⟩ := tok_Y hv hi
  have h45 := lex_45 _ (List.mem_of_getElem? (tkG_at (x := x) (k := i) hi))
  rw [i2] at y1 y2
  have hM : ndM (sgN x f.1) = 5 + (tkG x i).1 := by
    unfold ndM
    rw [if_pos h1, y2]
  have hw : (tkG x i).2.2 = 1 := y3.2.2.2.2.2.2 (by omega) (by omega) (by omega)
  rw [prt_eq hv.2.1 hlt, if_pos h1, y1]
  have hb : tkBs (txF (moG (sgC x))) (tkG x i) = [txF (moG (sgC x)) (tkG x i).2.1] := by
    unfold tkBs
    rw [hw]
    rfl
  rw [hb]
  by_cases c : ndM (sgN x f.1) = 9
  · rw [if_pos c, h45.1 (by omega)]
  · rw [if_neg c, h45.2 (by omega)]
def Qpz (a _j : Nat) : Prop := a = 543
theorem u_pushes {e : Nat} {w : List Nat} {I : zI} {K : Int32 → zI → Prop} (hl : w.length < 700) (h : StkP I w) (hK : ∀ J, eqQ Qpz I J → StkP J (e :: w) → K (zi (e :: w).length) J) : w_M_pushes (zi w.length) (zi e) I K := by
  unfold w_M_pushes
  refine ⟨(zin_iff (by omega)).mpr (by omega), fun I1 e1 => ?_⟩
  rw [zi_tn (show w.length < 2147483648 by omega)] at e1
  rw [zi_succ]
  refine hK I1 (by rw [e1]; exact eqQ.rf.zu rfl) ⟨by rw [e1, zu_self], h.kp (fun j hj => by rw [e1, zu_at, if_neg (by omega)])⟩
theorem u_says {v : Int32} {W : List Int32} {I : zI} {K : zI → Prop} (hk : W.length < 1000) (h80 : I.1 491 80 = zi W.length) (hO : OutX 544 I W) (hK : ∀ J, eqQ Qpp I J → J.1 491 80 = zi (W ++ [v]).length → (∀ j, J.1 543 j = I.1 543 j) → OutX 544 J (W ++ [v]) → K J) : w_M_says v I K := by
  unfold w_M_says
  rw [h80]
  refine ⟨(zin_iff (by omega)).mpr (by omega), fun I1 e1 I2 e2 => ?_⟩
  rw [zi_tn (show W.length < 2147483648 by omega)] at e1
  have g : I1.1 491 80 = zi W.length := by rw [e1, zu_oo (by decide)]; exact h80
  rw [g, zi_succ] at e2
  refine hK I2 ?_ (by rw [e2, zu_self, List.length_append]; rfl) (fun j => by rw [e2, zu_oo (by decide), e1, zu_oo (by decide)]) (fun i u hi => ?_)
  · rw [e2, e1]
    exact (eqQ.rf.zu (Or.inr (Or.inl rfl))).zu (Or.inr (Or.inr ⟨rfl, rfl⟩))
  · rw [e2, zu_oo (by decide), e1]
    rcases snoc_at hi with hi | ⟨rfl, rfl⟩
    · have hil := (List.getElem?_eq_some_iff.mp hi).1
      rw [zu_at, if_neg (by omega)]
      exact hO i u hi
    · exact zu_self
theorem u_saysToken {x : Sg} {p : Nat} {f : Fl} {W : List Int32} {I : zI} {K : zI → Prop} (hv : Iv x) (hR : RM I x) (hp : (FF x)[p]? = some f) (hr : ndR (sgN x f.1) < 0) (hl : W.length + 8 ≤ 1000) (h80 : I.1 491 80 = zi W.length) (hO : OutX 544 I W) (hK : ∀ J, eqQ Qpp I J → J.1 491 80 = zi (W ++ ndY (sgN x f.1)).length → (∀ j, J.1 543 j = I.1 543 j) → OutX 544 J (W ++ ndY (sgN x f.1)) → K J) : w_M_saysToken (zi f.1) I K := by
  have hm := hv.2.2.2.1
  have hlt := (hv.fg.1.2 p f hp).1
  have l100 : nG x ≤ 100 := hv.2.2.2.2.2.2.2.1.2.1.2.2
  have l300 : (moG (sgC x)).length ≤ 300 := hv.2.2.2.2.2.2.2.1.2.1.1
  obtain ⟨o, o1, o2, o3⟩ := tok_of hv hp hr
  have ho : o < nG x := by omega
  have hw := tkG_at (x := x) (k := o) ho
  obtain ⟨y1, -, y3, y4⟩ := tok_Y hv ho
  rw [o2] at y1
  have hf : fsT x p = o := by
    unfold fsT
    rw [ffA_at hp, o3, Int.toNat_natCast]
  have g526 : I.1 526 f.1 = zi o := by
    rw [u_first hv hR hp (by rw [hf]; exact o3), hf]
  obtain ⟨-, g1, g2, -⟩ := hR.2.2.2.2.2.2.2.1.2.2.2.2.2.2.1.2 _ _ hw
  have gT : ∀ j, j < (moG (sgC x)).length → I.1 495 j = txF (moG (sgC x)) j := hR.2.2.2.2.2.2.2.1.2.2.2.2.2.1
  have w8 := y3.2.1
  rw [y1] at hK
  generalize tkG x o = w at g1 g2 y4 w8 hK
  unfold w_M_saysToken
  refine ⟨(zin_iff (by omega)).mpr (by omega), fun v2 ev2 => ?_⟩
  rw [zi_tn (show f.1 < 2147483648 by omega), g526] at ev2
  rw [ev2]
  have hin : vp_in (zi o) 110 := (zin_iff (by omega)).mpr (by omega)
  refine ⟨hin, fun v3 ev3 => ?_⟩
  rw [zi_tn (show o < 2147483648 by omega)] at ev3 ⊢
  rw [g1] at ev3
  intro P14 h14
  have Yl : (tkBs (txF (moG (sgC x))) w).length = w.2.2 := tkBs_len
  have main : ∀ (e k : Nat) (J : zI), k + e = w.2.2 → eqQ Qpp I J → J.1 491 80 = zi (W ++ (tkBs (txF (moG (sgC x))) w).take k).length → (∀ j, J.1 543 j = I.1 543 j) → OutX 544 J (W ++ (tkBs (txF (moG (sgC x))) w).take k) → P14 (zi (w.2.1 + k)) J := by
    intro e
    induction e with
    | zero =>
      intro k J hk q q80 q3 qO
      refine h14 _ _ ⟨hin, hin, ?_⟩
      rw [show J.1 505 o = zi w.2.1 by rw [q.1 505 o (by unfold Qpp; omega)]; exact g1, show J.1 506 o = zi w.2.2 by rw [q.1 506 o (by unfold Qpp; omega)]; exact g2, zi_add, if_pos ((zi_le (by omega) (by omega)).mpr (by omega))]
      rw [List.take_of_length_le (by omega)] at q80 qO
      exact hK J q q80 q3 qO
    | succ e ih =>
      intro k J hk q q80 q3 qO
      refine h14 _ _ ⟨hin, hin, ?_⟩
      rw [show J.1 505 o = zi w.2.1 by rw [q.1 505 o (by unfold Qpp; omega)]; exact g1, show J.1 506 o = zi w.2.2 by rw [q.1 506 o (by unfold Qpp; omega)]; exact g2, zi_add, if_neg (nle_zi (by omega) (by omega))]
      refine ⟨(zin_iff (by omega)).mpr (by omega), ?_⟩
      rw [zi_tn (show w.2.1 + k < 2147483648 by omega), show J.1 495 (w.2.1 + k) = txF (moG (sgC x)) (w.2.1 + k) by rw [q.1 495 _ (by unfold Qpp; omega)]; exact gT _ (by omega)]
      refine u_says (by rw [List.length_append, List.length_take]; omega) q80 qO (fun J2 qq e80 e3 eO => ?_)
      intro v ev
      have hg : (tkBs (txF (moG (sgC x))) w)[k]? = some (txF (moG (sgC x)) (w.2.1 + k)) := by
        unfold tkBs
        rw [List.getElem?_map, List.getElem?_range (by omega)]
        rfl
      have ht : W ++ (tkBs (txF (moG (sgC x))) w).take k ++ [txF (moG (sgC x)) (w.2.1 + k)] = W ++ (tkBs (txF (moG (sgC x))) w).take (k + 1) := by
        rw [List.take_add_one, hg, List.append_assoc]
        rfl
      rw [ht] at e80 eO
      rw [ev, zi_succ, Nat.add_assoc]
      exact ih (k + 1) J2 (by omega) (q.tr qq) e80 (fun j => (e3 j).trans (q3 j)) eO
  rw [ev3]
  exact main w.2.2 0 I (by omega) eqQ.rf (by rw [List.take_zero, List.append_nil]; exact h80) (fun _ => rfl) (by rw [List.take_zero, List.append_nil]; exact hO)
theorem u_prints {x : Sg} {p0 : Nat} {f0 : Fl} {I : zI} {K : zI → Prop} (hv : Iv x) (hR : RM I x) (hp0 : (FF x)[p0]? = some f0) (hK : ∀ J, eqQ Qpp I J → J.1 491 80 = zi (prt (sgN x) f0.1).length → OutX 544 J (prt (sgN x) f0.1) → K J) : w_M_prints (zi f0.1) I K := by
  have hN := hv.2.1
  have hm := hv.2.2.2.1
  have V := hR.view hv
  have hlt0 := (hv.fg.1.2 p0 f0 hp0).1
  have inF : ∀ c, c ∈ po (sgN x) (moR (sgC x)) → ∃ (q : Nat) (g : Fl), (FF x)[q]? = some g ∧ g.1 = c := fun c hc => by
    obtain ⟨q, d, g, g1, g2, -⟩ := V.ofpo hc
    exact ⟨q, g, g1, g2⟩
  have hpo0 : f0.1 ∈ po (sgN x) (moR (sgC x)) := fl_po hN hv.tr.1 hp0
  obtain ⟨pl, psz, -⟩ := prt_in hN hv.2.2.2.2.2.2.2.1 hpo0
  obtain ⟨-, bT, -, -⟩ := below_ok hN (moR (sgC x)) hv.tr.1 f0.1 hpo0
  have hTR := hv.tr.tk hN
  have l100 : nG x ≤ 100 := hv.2.2.2.2.2.2.2.1.2.1.2.2
  unfold w_M_prints
  intro I1 e1
  have q1 : eqQ Qpp I I1 := by rw [e1]; exact eqQ.rf.zu (Or.inr (Or.inr ⟨rfl, rfl⟩))
  rw [show (1000 : Int32) + zi f0.1 = zi (1000 + f0.1) by rw [show (1000 : Int32) = zi 1000 from rfl, zi_add]]
  refine u_pushes (w := []) (by decide) trivial (fun J q sp => ?_)
  intro P16 h16
  have main : ∀ (f : Nat) (w : List Nat) (W : List Int32) (J : zI), sM (sgN x) w ≤ f → EnV (sgN x) (moR (sgC x)) w → sP (sgN x) w ≤ 347 → W ++ outW (sgN x) w = prt (sgN x) f0.1 → StkP J w → J.1 491 80 = zi W.length → OutX 544 J W → eqQ Qpp I J → P16 (zi w.length) J := by
    intro f
    have nil : ∀ (W : List Int32) (J : zI), W ++ outW (sgN x) [] = prt (sgN x) f0.1 → J.1 491 80 = zi W.length → OutX 544 J W → eqQ Qpp I J → P16 (zi ([] : List Nat).length) J := by
      intro W J ho h80 hO hq
      have hW : W = prt (sgN x) f0.1 := by
        rw [← ho]
        exact (List.append_nil W).symm
      refine h16 _ _ ?_
      rw [if_pos (show zi ([] : List Nat).length ≤ 0 by decide)]
      rw [hW] at h80 hO
      exact hK J hq h80 hO
    induction f with
    | zero =>
      intro w W J hf hw hp ho hS h80 hO hq
      cases w with
      | nil => exact nil W J ho h80 hO hq
      | cons e w =>
        have := (EnV.pos V hw).2
        rw [sM_cons] at hf
        omega
    | succ f ih =>
      intro w W J hf hw hp ho hS h80 hO hq
      cases w with
      | nil => exact nil W J ho h80 hO hq
      | cons e w =>
        have RJ := hR.al hv (Qpp_al hq)
        have V1 := RJ.view hv
        have hl := EnV.len V hw
        rw [List.length_cons] at hl
        have hw' : EnV (sgN x) (moR (sgC x)) w := fun y hy => hw y (List.mem_cons_of_mem _ hy)
        rw [sM_cons] at hf
        rw [sP_cons] at hp hl
        rw [outW_cons] at ho
        have hWl : W.length + ((pO (sgN x) e).length + (outW (sgN x) w).length) ≤ 498 := by
          have := congrArg List.length ho
          rw [List.length_append, List.length_append] at this
          omega
        refine h16 _ _ ?_
        rw [List.length_cons, if_neg (show ¬ zi (w.length + 1) ≤ 0 from nle_zi (k := 0) (by omega) (by omega))]
        intro v6 ev6
        rw [← Int32.sub_eq_add_neg, show zi (w.length + 1) - 1 = zi w.length from zi_sub (b := 1) (by omega)] at ev6
        rw [ev6]
        refine ⟨(zin_iff (by omega)).mpr (by omega), fun v7 ev7 => ?_⟩
        rw [zi_tn (show w.length < 2147483648 by omega), hS.1] at ev7
        rw [ev7]
        rcases hw e (List.mem_cons_self ..) with u | ⟨c, p, d, u, hI⟩
        · have := b_by (N := sgN x) u
          have he : pO (sgN x) e = [zi e] := by
            unfold pO
            rw [if_neg (by omega)]
          rw [he] at ho hWl
          have hWl' : W.length + (1 + (outW (sgN x) w).length) ≤ 498 := hWl
          rw [if_neg (fun v => by have := (ge1000 (by omega)).mp v; omega)]
          refine u_says (by omega) h80 hO (fun J2 q2 e80 e3 eO => ?_)
          exact ih w (W ++ [zi e]) J2 (by omega) hw' (by omega) (by rw [List.append_assoc]; exact ho) (hS.2.kp (fun j _ => e3 j)) e80 eO (hq.tr q2)
        · obtain ⟨g, g1, rfl, -⟩ := id hI
          have i1 := (hv.fg.1.2 p g g1).1
          have gpo : g.1 ∈ po (sgN x) (moR (sgC x)) := fl_po hN hv.tr.1 g1
          rw [u, bM_nd] at hf
          rw [u, bP_nd] at hp hl
          rw [u, pO_nd] at ho hWl
          have szp := sz_pos hN i1
          rw [u, if_pos ((ge1000 (by omega)).mpr (by omega))]
          intro v4 ev4
          rw [show zi (1000 + g.1) - 1000 = zi g.1 by rw [show zi (1000 + g.1) - 1000 = zi (1000 + g.1 - 1000) from zi_sub (b := 1000) (by omega), Nat.add_sub_cancel_left]] at ev4
          rw [ev4]
          have hin : vp_in (zi g.1) 3700 := (zin_iff (by omega)).mpr (by omega)
          refine ⟨hin, fun v5 ev5 => ?_⟩
          rw [zi_tn (show g.1 < 2147483648 by omega), show J.1 509 g.1 = Int32.ofInt (ndR (sgN x g.1)) from (V1.1.2 g.1 i1).1] at ev5
          rw [ev5]
          rcases hN g.1 i1 with ⟨r1, r2, r3, r4, r5⟩ | ⟨r, s, r1, r2, r3, r4, r5, r6, r7, r8⟩
          · have hneg : ndR (sgN x g.1) < 0 := by omega
            have hpY : prt (sgN x) g.1 = ndY (sgN x g.1) := by rw [prt_eq hN i1, if_pos hneg]
            rw [hpY] at ho hWl
            rw [r1, if_neg (by decide)]
            refine u_saysToken hv RJ g1 hneg (by omega) h80 hO (fun J2 q2 e80 e3 eO => ?_)
            exact ih w _ J2 (by omega) hw' (by omega) (by rw [List.append_assoc]; exact ho) (hS.2.kp (fun j _ => e3 j)) e80 eO (hq.tr q2)
          · have hnn : ¬ ndR (sgN x g.1) < 0 := by omega
            rw [r3, zi_int r, if_pos (zi_ge (by omega))]
            have hsz := sz_eq hN i1
            have hch4 := hN.ch g.1 i1
            have child : ∀ {A : zI} {i z : Nat} {K' : Int32 → Prop}, eqQ Qpp I A → (ndC (sgN x g.1))[i]? = some z → K' (zi z) → w_M_childOf (zi g.1) (zi i) A K' := fun {A i z K'} qA hz hk' => s_MchildOf (k := i) ((hR.al hv (Qpp_al qA)).view hv).1 (by omega) i1 hch4 hz hk'
            have k1000 : ∀ z : Nat, (1000 : Int32) + zi z = zi (1000 + z) := fun z => by rw [show (1000 : Int32) = zi 1000 from rfl, zi_add]
            have eqr : ∀ k : Nat, k < 100 → (zi r = zi k ↔ r = k) := fun k hk => zi_eq (by omega) (by omega)
            rw [prt_eq hN i1, if_neg hnn] at ho
            have kp : ∀ {A : zI}, eqQ Qpz J A → A.1 491 80 = zi W.length ∧ OutX 544 A W ∧ eqQ Qpp I A := fun {A} q => ⟨(q.1 491 80 (by unfold Qpz; decide)).trans h80, fun i v hi => (q.1 544 i (by unfold Qpz; decide)).trans (hO i v hi), hq.tr (q.mono (fun a j h => Or.inl h))⟩
            have mem_le : ∀ z, z ∈ ndC (sgN x g.1) → ndT (sgN x z) ≤ ndT (sgN x g.1) ∧ sz (sgN x) z + 1 ≤ sz (sgN x) g.1 := by
              intro z hz
              have h1 := tkS_mem (N := sgN x) hz
              rw [← r8] at h1
              refine ⟨h1, ?_⟩
              obtain ⟨L1, L2, hL⟩ := List.append_of_mem hz
              rw [hsz, hL]
              unfold szS
              rw [List.map_append, List.map_cons, List.sum_append, List.sum_cons]
              omega
            intro P88 h88
            have op : (r = 4 ∨ r = 6) → P88 := by
              intro hr46
              have hR46 : ndR (sgN x g.1) = 4 ∨ ndR (sgN x g.1) = 6 := by omega
              obtain ⟨a, b, e2, hC, hb, hbc⟩ := op_ch hN i1 hR46
              have hbm : b < sgM x := by omega
              have hb5 : 5 ≤ ndM (sgN x b) := by rw [hb]; split <;> decide
              have hbT := (nd_tk5 hN hbm hb5).2
              have hbs := sz_pos hN hbm
              have hU : ndU (sgN x g.1) = [a, b, e2] := by
                unfold ndU
                rw [if_neg (by omega), hC]
              have mb : b ∈ ndC (sgN x g.1) := by rw [hC]; exact List.mem_cons_of_mem _ (List.mem_cons_self ..)
              obtain ⟨qb, gb, gb1, gb2⟩ := inF b (po_sub hN _ hv.tr.1 _ gpo b mb)
              have pb : prt (sgN x) b = [if r = 4 then 43 else 42] := by
                have := op_Y hv gb1 (by rw [gb2, hb]; split <;> omega)
                rw [gb2, hb] at this
                rw [this]
                by_cases u4 : r = 4
                · rw [if_pos u4, if_pos (show ndR (sgN x g.1) = 4 by omega), if_pos rfl]
                · rw [if_neg u4, if_neg (show ¬ ndR (sgN x g.1) = 4 by omega), if_neg (by decide)]
              rw [if_pos hR46, hU] at ho
              have ho' : W ++ (40 :: (((prt (sgN x) a ++ (prt (sgN x) b ++ (prt (sgN x) e2 ++ []))) ++ [41]) ++ outW (sgN x) w)) = prt (sgN x) f0.1 := ho
              have eT : ndT (sgN x g.1) = ndT (sgN x a) + (ndT (sgN x b) + ndT (sgN x e2)) := by
                rw [r8, hC, tkS_cons, tkS_cons, tkS_cons]
                rfl
              have eS : sz (sgN x) g.1 = 1 + (sz (sgN x) a + (sz (sgN x) b + sz (sgN x) e2)) := by
                rw [hsz, hC, szS_cons, szS_cons, szS_cons]
                rfl
              obtain ⟨pa, da, ha⟩ := V.ch hI (show a ∈ ndC (sgN x g.1) by rw [hC]; exact List.mem_cons_self ..)
              obtain ⟨pe, de, he⟩ := V.ch hI (show e2 ∈ ndC (sgN x g.1) by rw [hC]; exact List.mem_cons_of_mem _ (List.mem_cons_of_mem _ (List.mem_cons_self ..)))
              refine h88 ?_
              refine u_pushes (e := 41) (by omega) hS.2 (fun A1 s1 sA1 => ?_)
              refine child (i := 2) (kp s1).2.2 (by rw [hC]; rfl) ?_
              rw [k1000]
              refine u_pushes (by rw [List.length_cons]; omega) sA1 (fun A2 qA2 sA2 => ?_)
              have s2 := s1.tr qA2
              intro P128 h128
              have both : ∀ t : Nat, t < 1000 → prt (sgN x) b = [zi t] → P128 (zi t) := by
                intro t ht hpt
                refine h128 _ ?_
                refine u_pushes (by rw [List.length_cons, List.length_cons]; omega) sA2 (fun A3 qA3 sA3 => ?_)
                have s3 := s2.tr qA3
                refine child (i := 0) (kp s3).2.2 (by rw [hC]; rfl) ?_
                rw [k1000]
                refine u_pushes (by rw [List.length_cons, List.length_cons, List.length_cons]; omega) sA3 (fun A4 qA4 sA4 => ?_)
                have s4 := s3.tr qA4
                refine u_pushes (e := 40) (by rw [List.length_cons, List.length_cons, List.length_cons, List.length_cons]; omega) sA4 (fun A5 qA5 sA5 => ?_)
                obtain ⟨z80, zO, zQ⟩ := kp (s4.tr qA5)
                have b1 := b_by (N := sgN x) ht
                have b40 := b_by (N := sgN x) (e := 40) (by decide)
                have b41 := b_by (N := sgN x) (e := 41) (by decide)
                refine ih _ W A5 ?_ (((((hw'.cons (Or.inl (by decide))).cons (Or.inr ⟨e2, pe, de, rfl, he⟩)).cons (Or.inl ht)).cons (Or.inr ⟨a, pa, da, rfl, ha⟩)).cons (Or.inl (by decide))) ?_ ?_ sA5 z80 zO zQ
                · rw [sM_cons, sM_cons, sM_cons, sM_cons, sM_cons, bM_nd, bM_nd]
                  omega
                · rw [sP_cons, sP_cons, sP_cons, sP_cons, sP_cons, bP_nd, bP_nd]
                  omega
                · have ot : pO (sgN x) t = [zi t] := by
                    unfold pO
                    rw [if_neg (by omega)]
                  rw [← ho', outW_cons, outW_cons, outW_cons, outW_cons, outW_cons, pO_nd, pO_nd, hpt, ot, show pO (sgN x) 40 = [40] from rfl, show pO (sgN x) 41 = [41] from rfl]
                  simp only [List.append_assoc, List.cons_append, List.nil_append, List.append_nil]
              by_cases u4 : r = 4
              · rw [if_pos (show zi r = 4 from (eqr 4 (by decide)).mpr u4)]
                exact both 43 (by decide) (by rw [pb, if_pos u4]; rfl)
              · rw [if_neg (show ¬ zi r = 4 from fun v => u4 ((eqr 4 (by decide)).mp v))]
                exact both 42 (by decide) (by rw [pb, if_neg u4]; rfl)
            by_cases u4 : r = 4
            · rw [if_pos (show zi r = 4 from (eqr 4 (by decide)).mpr u4)]
              exact op (Or.inl u4)
            rw [if_neg (show ¬ zi r = 4 from fun v => u4 ((eqr 4 (by decide)).mp v))]
            by_cases u6 : r = 6
            · rw [if_pos (show zi r = 6 from (eqr 6 (by decide)).mpr u6)]
              exact op (Or.inr u6)
            rw [if_neg (show ¬ zi r = 6 from fun v => u6 ((eqr 6 (by decide)).mp v))]
            rw [if_neg (show ¬ (ndR (sgN x g.1) = 4 ∨ ndR (sgN x g.1) = 6) by omega)] at ho
            by_cases u10 : r = 10
            · rw [if_pos (show zi r = 10 from (eqr 10 (by decide)).mpr u10)]
              obtain ⟨z, z1, -, z2⟩ := hN.child (r := 10) (k := 1) (y := 2) i1 (by rw [r3, u10]) rfl
              have hz := List.mem_of_getElem? z1
              obtain ⟨pz, dz, hIz⟩ := V.ch hI hz
              obtain ⟨m1, m2⟩ := mem_le z hz
              have hU : ndU (sgN x g.1) = [z] := by
                unfold ndU
                obtain ⟨w1, w2⟩ := List.getElem?_eq_some_iff.mp z1
                rw [if_pos (by omega), List.drop_eq_getElem_cons w1, w2]
                rfl
              have ho' : W ++ ((prt (sgN x) z ++ []) ++ outW (sgN x) w) = prt (sgN x) f0.1 := by
                rw [hU] at ho
                exact ho
              rw [List.append_nil] at ho'
              refine child (i := 1) hq z1 ?_
              rw [k1000]
              refine u_pushes (by omega) hS.2 (fun A1 s1 sA1 => ?_)
              obtain ⟨z80, zO, zQ⟩ := kp s1
              refine ih _ W A1 ?_ (hw'.cons (Or.inr ⟨z, pz, dz, rfl, hIz⟩)) ?_ (by rw [outW_cons, pO_nd]; exact ho') sA1 z80 zO zQ
              · rw [sM_cons, bM_nd]
                omega
              · rw [sP_cons, bP_nd]
                omega
            · rw [if_neg (show ¬ zi r = 10 from fun v => u10 ((eqr 10 (by decide)).mp v))]
              have hU : ndU (sgN x g.1) = ndC (sgN x g.1) := by
                unfold ndU
                rw [if_neg (by omega)]
              rw [hU] at ho
              refine ⟨hin, fun v6 ev6 => ?_⟩
              rw [zi_tn (show g.1 < 2147483648 by omega), (V1.chs i1).1] at ev6
              intro P198 h198
              have inner : ∀ (j : Nat) (A : zI), j ≤ (ndC (sgN x g.1)).length → eqQ Qpz J A → StkP A (((ndC (sgN x g.1)).drop j).map (fun c => 1000 + c) ++ w) → P198 (zi (((ndC (sgN x g.1)).drop j).map (fun c => 1000 + c) ++ w).length) (zi j - 1) A := by
                intro j
                induction j with
                | zero =>
                  intro A hj qA sA
                  obtain ⟨z80, zO, zQ⟩ := kp qA
                  refine h198 _ _ _ ?_
                  rw [if_pos (show zi 0 - 1 < 0 by decide)]
                  rw [List.drop_zero] at sA ⊢
                  obtain ⟨s1, s2, s3⟩ := s_ch (N := sgN x) (w := w) (l := ndC (sgN x g.1))
                  refine ih _ W A ?_ (fun y hy => ?_) ?_ (by rw [outW_ch]; exact ho) sA z80 zO zQ
                  · rw [s3, ← r8]
                    omega
                  · rcases List.mem_append.mp hy with hy | hy
                    · obtain ⟨z, hz, rfl⟩ := List.mem_map.mp hy
                      obtain ⟨pz, dz, hIz⟩ := V.ch hI hz
                      exact Or.inr ⟨z, pz, dz, rfl, hIz⟩
                    · exact hw' y hy
                  · rw [s2, ← r8]
                    omega
                | succ j ih2 =>
                  intro A hj qA sA
                  refine h198 _ _ _ ?_
                  rw [show zi (j + 1) - 1 = zi j from zi_sub (b := 1) (by omega), if_neg (zi_pos (by omega))]
                  have hz : (ndC (sgN x g.1))[j]? = some ((ndC (sgN x g.1))[j]'(by omega)) := List.getElem?_eq_getElem (by omega)
                  generalize (ndC (sgN x g.1))[j]'(by omega) = z at hz
                  refine child (i := j) (kp qA).2.2 hz ?_
                  rw [k1000]
                  have hlen : (((ndC (sgN x g.1)).drop (j + 1)).map (fun c => 1000 + c) ++ w).length < 700 := by
                    rw [List.length_append, List.length_map, List.length_drop]
                    omega
                  refine u_pushes hlen sA (fun A1 qA1 sA1 => ?_)
                  intro v ev
                  rw [ev, ← Int32.sub_eq_add_neg]
                  have hd : (ndC (sgN x g.1)).drop j = z :: (ndC (sgN x g.1)).drop (j + 1) := by
                    rw [List.drop_eq_getElem_cons (by omega : j < (ndC (sgN x g.1)).length)]
                    have := (List.getElem?_eq_some_iff.mp hz).2
                    rw [this]
                  have := ih2 A1 (by omega) (qA.tr qA1) (by rw [hd]; exact sA1)
                  rw [hd] at this
                  exact this
              have := inner (ndC (sgN x g.1)).length J (Nat.le_refl _) eqQ.rf (by rw [List.drop_length]; exact hS.2)
              rw [List.drop_length] at this
              rw [ev6]
              exact this
  have hI0 : InP (sgN x) (moR (sgC x)) f0.1 p0 f0.2.2.2.1 := ⟨f0, hp0, rfl, rfl⟩
  refine main _ [1000 + f0.1] [] J (Nat.le_refl _) (fun y hy => ?_) ?_ ?_ sp ?_ (fun i v hi => by cases hi) (q1.tr (q.mono (fun a j h => Or.inl h)))
  · cases List.mem_singleton.mp hy
    exact Or.inr ⟨f0.1, p0, _, rfl, hI0⟩
  · rw [sP_cons, bP_nd]
    show _ + 0 ≤ 347
    omega
  · rw [outW_cons, pO_nd]
    exact List.append_nil _
  · rw [q.1 491 80 (by unfold Qpz; decide), e1, zu_self]
    rfl
/-! ===== print ===== -/
def prR (x : Sg) : List Int32 := prt (sgN x) (moR (sgC x))
def vPrint (x : Sg) (a : Int32) : Int32 := match ixI (prR x).length a with
  | some i => (prR x).getD i 0
  | none => -1
theorem prR_len {x : Sg} (hv : Iv x) : (prR x).length ≤ 498 := (prt_in hv.2.1 hv.2.2.2.2.2.2.2.1 (by
  rw [po_eq hv.2.1 hv.tr.1]
  exact List.mem_cons_self ..)).1
theorem t_print {x : Sg} {a : Int32} {I : zI} {K : Int32 → Prop} (hv : Iv x) (hR : RX I x) (h : K (vPrint x a)) : w_Desk_print a I K := by
  have hl := prR_len hv
  obtain ⟨p1, p2⟩ := hR.2.2.1.2.2.2.2.2.2.2
  unfold w_Desk_print
  unfold vPrint at h
  rw [show I.1 0 18 = zi (prR x).length from p1]
  rcases ix_cs (n := (prR x).length) (by omega) a with ⟨i, hi, rfl, ea⟩ | ⟨ea, c | ⟨c, d⟩⟩
  · rw [ea] at h
    dsimp only at h
    rw [if_neg (zi_pos (by omega)), if_neg (nle_zi (by omega) (by omega))]
    refine (w_get (by decide)).mpr ?_
    have hg : (prR x)[i]? = some ((prR x).getD i 0) := by
      rw [List.getD_eq_getElem?_getD, List.getElem?_eq_getElem hi]
      rfl
    rw [rg_in (by decide) (show i < 700 by omega), show I.1 (109 + 1) i = (prR x).getD i 0 from p2 i _ hg]
    exact h
  · rw [ea] at h
    dsimp only at h
    rw [if_pos c]
    exact h
  · rw [ea] at h
    dsimp only at h
    rw [if_neg c, if_pos d]
    exact h
theorem u_print {x : Sg} {a : Int32} {I : zI} {K : Int32 → zI → Prop} (hv : Iv x) (hR : RM I x) (hK : ∀ J, eqQ Qmo I J → RM J x → K (vPrint x a) J) : w_M_print a I K := by
  have V := hR.view hv
  have hl := prR_len hv
  unfold w_M_print
  unfold vPrint at hK
  rw [show I.1 491 37 = zi (moR (sgC x)) from V.2.2.2.2.1.1]
  obtain ⟨f0, f1, f2, -⟩ := V.root
  rw [← f2]
  refine u_prints hv hR f1 (fun J q h80 hO => ?_)
  rw [f2] at h80 hO
  have done := hK J (Qal_mo (Qpp_al q)) (hR.al hv (Qpp_al q))
  rw [show J.1 491 80 = zi (prR x).length from h80]
  refine u_in (n := (prR x).length) (by omega) (fun i hi e e2 => ?_) (fun e => ?_)
  · rw [e2] at done
    dsimp only at done
    have hg : (prR x)[i]? = some ((prR x).getD i 0) := by
      rw [List.getD_eq_getElem?_getD, List.getElem?_eq_getElem hi]
      rfl
    rw [if_neg (by decide), e, zi_tn (show i < 2147483648 by omega), show J.1 544 i = (prR x).getD i 0 from hO i _ hg]
    exact ⟨(zin_iff (by omega)).mpr (by omega), done⟩
  · rw [e] at done
    dsimp only at done
    rw [if_pos rfl]
    exact done
