theorem vToken_at {x : Sg} {i : Nat} (hv : Iv x) (h : i < (lexL (moT (sgC x))).length) : vToken x (zi i) 0 = zi (tkT x i).1 ∧ vToken x (zi i) 1 = zi (tkT x i).2.1 ∧ vToken x (zi i) 2 = zi (tkT x i).2.2 := by
  have z100 := (sz_300 hv).2
  unfold vToken
  rw [ixI_some (by omega) h]
  dsimp only
  exact ⟨if_pos rfl, by rw [if_neg (show ¬ (1 : Int32) = 0 by decide)]; exact if_pos rfl, by rw [if_neg (show ¬ (2 : Int32) = 0 by decide), if_neg (show ¬ (2 : Int32) = 1 by decide)]; exact if_pos rfl⟩
theorem tkT_in {x : Sg} {i : Nat} (hv : Iv x) (h : i < (lexL (moT (sgC x))).length) : (tkT x i).2.1 + (tkT x i).2.2 ≤ (moT (sgC x)).length ∧ (tkT x i).1 < 12 := by
  have h1 := tkT_at h
  exact ⟨lexL_in hv.2.2.2.2.2.2.2.1.1 h1, (lex_ok hv.2.2.2.2.2.2.2.1.1.2.1 _ (List.mem_of_getElem? h1)).1.1⟩
theorem tkT_nG {x : Sg} {i : Nat} (hv : Iv x) (hb : moB (sgC x) = true) : (lexL (moT (sgC x))).length = nG x := by
  have hC := hv.2.2.2.2.2.2.2.1
  rw [hC.2.2.1 hb]
/-- the NAME that is given -/
theorem nm_zz {c : Nat} (hc : c < 8) : nmOk [122, 122, zi (97 + c)] = true := by
  revert c
  decide
theorem s_846 {x : Sg} {S : List zC} {I : zI} {c0 u0 k t kw kt : Nat} {l : List Int32} {v6 v7 v10 : Int32} {P1422 : Int32 → Int32 → List zC → Nat → Nat → zI → Prop} (hs : Lsv x) (hR : RX I x) (hz : zZ I S.length) (h491 : 491 ≤ S.length) (hT : sgT x = []) (hp : Pb x) (hE : sgE x ≤ 39) (ht : t < nG x)
    (hA : AtL S I kw (moT (sgC x))) (hA2 : AtL S I kt l) (hkt : 491 ≤ kt) (hl3 : l.length = 3) (hnm : nmOk l = true) (hbl : BtL l) (hS : S.length ≤ 600000) (hP : ∀ x2 is J, Nxt x S c0 u0 x2 is S c0 u0 J → P1422 1 is S c0 u0 J) {nm : Bool} (hnmx : nm = true ↔ (moB (sgC x) = true ∧ vToken x (zi t) 0 = 0)) :
    ∀ P846 : Int32 → Int32 → Prop, (∀ (v22 v23 : Int32), w_law_846 (zi k) (zi (moT (sgC x)).length) v6 v7 v10 (zi (sgM x)) (zi (rnR x).length) kw (moT (sgC x)).length (zi t) (b01 nm) (vValue x (zi t)) (vSets x (zi t)) (vFresh x) kt l.length v22 v23 P1422 P846 c0 u0 S I → P846 v22 v23) → P846 1 0 := by
  intro P846 h846
  have hv := hs.1
  have hm := hv.2.2.2.1
  obtain ⟨z300, z100⟩ := sz_300 hv
  -- the end: it is changed
  have fin : ∀ (o : Bool), (o = true → ∀ p ∈ tkx (moT (sgC x)), p.1 = 0 → p.2 ≠ l) → P846 (b01 o) (zi (lexL (moT (sgC x))).length) := by
    intro o ho
    refine h846 _ _ ?_
    refine k_1 hR ?_
    rw [if_pos (show zi (lexL (moT (sgC x))).length ≤ zi (lexL (moT (sgC x))).length from (zi_le (by omega) (by omega)).mpr (Nat.le_refl _))]
    refine s_tape hs hR hA2 hkt hbl (by rw [hT, hl3]; decide) (fun J1 q1 r1 => ?_)
    rw [hT, List.nil_append] at r1
    have hsx : Lsv (l, x.2) := tape_ls hs (by omega) hbl
    have hpx : Pb (l, x.2) := hp
    refine s_rename hsx.1 r1 (show sgE x < 512 by omega) (fun J q2 r => ?_)
    have q := q1.tr q2
    -- refused: the tape is emptied
    have ref : renR (l, x.2) (zi t) = (-1, (l, x.2)) → (nm = false ∨ 90 < (moT (sgC x)).length ∨ 3000 ≤ sgM x) → ∀ (is : Int32) (J : zI), is = (renR (l, x.2) (zi t)).1 → eqQ Qcl I J → RX J (renR (l, x.2) (zi t)).2 → ∀ (P984 : Int32 → Prop), (∀ (t_471 : Int32), (∀ (P1086 : Int32 → zI → Prop), (∀ (t_472 : Int32) (I_473 : zI), (P1422 t_472 is S c0 u0 I_473) → P1086 t_472 I_473) → ∀ (P1085 : zI → Prop), (∀ (I_474 : zI), (P1086 0 I_474) → P1085 I_474) → (if t_471 = 0 then P1085 J else (∀ (P1081 : zI → Prop), (∀ (I_475 : zI), (P1086 1 I_475) → P1081 I_475) → (if 0 ≤ is then (w_Desk_count 7 J (fun r_476 => (if r_476 = 0 then (w_Desk_token (zi t) 2 J (fun r_477 => (if r_477 = 3 then (w_Desk_fresh J (fun r_478 => (if r_478 = vFresh x then (w_Desk_runs J (fun r_479 => (if r_479 = zi (rnR x).length then (w_Desk_sets (zi t) J (fun r_480 => (if r_480 < vSets x (zi t) then P1085 J else (if b01 o = 0 then P1081 J else (w_Desk_sets (zi t) J (fun r_481 => (if r_481 = vSets x (zi t) then (w_Desk_value (zi t) J (fun r_482 => (if r_482 = vValue x (zi t) then P1081 J else P1085 J))) else P1085 J))))))) else P1085 J))) else P1085 J))) else P1085 J))) else P1085 J))) else (w_Desk_back 3 J (fun r_491 I_492 => (if r_491 = 0 then P1081 I_492 else P1085 I_492))))))) → P984 t_471) → ∀ (P983 : Prop), ((P984 0) → P983) → (if 0 < is then P983 else (∀ (P954 : Prop), ((∀ (P979 : Prop), ((P984 1) → P979) → (if is = 0 then P979 else (if b01 nm = 0 then P979 else (if 90 < zi (moT (sgC x)).length then P979 else (if zi (sgM x) < 3000 then P983 else P979))))) → P954) → (if is < 0 then P954 else (if b01 nm = 0 then P983 else P954)))) := by
      intro e why is J eis q r P984 h984 P983 _
      rw [e] at eis r
      have eis : is = -1 := eis
      have r : RX J (l, x.2) := r
      subst eis
      rw [if_neg (show ¬ (0 : Int32) < -1 by decide)]
      intro P954 h954
      rw [if_pos (show (-1 : Int32) < 0 by decide)]
      refine h954 ?_
      intro P979 h979
      rw [if_neg (show ¬ (-1 : Int32) = 0 by decide)]
      have go : P979 := by
        refine h979 (h984 1 ?_)
        intro P1086 h1086 P1085 _
        rw [if_neg (show ¬ (1 : Int32) = 0 by decide)]
        intro P1081 h1081
        rw [if_neg (show ¬ (0 : Int32) ≤ -1 by decide)]
        have hTap : TapX J l := r.1
        refine s_back hTap (by omega) (fun n hn J2 q2 t2 => ?_) (fun u => ?_)
        · obtain ⟨e1, e2⟩ := backN_le (by omega) hn
          have e3 : n = 3 := ((zi_eq (show n < 2147483648 by omega) (b := 3) (by decide)).mp e1.symm)
          subst e3
          rw [hl3] at t2 ⊢
          rw [if_pos (show zi (3 - 3) = 0 from rfl)]
          refine h1081 _ (h1086 _ _ ?_)
          have t2 : TapX J2 [] := t2
          have r2 : RX J2 ([], x.2) := RX.tp (x := (l, x.2)) hsx.1 r q2 t2
          have hx0 : x = ([], x.2) := Prod.ext hT rfl
          rw [← hx0] at r2
          exact hP x (-1) J2 (cl_id h491 hz (q.tr (q2.mono (fun a j u => by unfold Qtx at u; unfold Qcl; omega))) hs r2 hT hp (Or.inr (Or.inl ⟨rfl, rfl⟩)))
        · unfold backN at u
          rw [if_neg (by decide), if_neg (by rw [hl3]; decide)] at u
          cases u
      rcases why with hn | hn | hn
      · rw [hn, if_pos b01_f]
        exact go
      · by_cases hb : b01 nm = 0
        · rw [if_pos hb]
          exact go
        · rw [if_neg hb, if_pos (show (90 : Int32) < zi (moT (sgC x)).length from (zi_lt (a := 90) (by decide) (by omega)).mpr hn)]
          exact go
      · by_cases hb : b01 nm = 0
        · rw [if_pos hb]
          exact go
        · rw [if_neg hb]
          split
          · exact go
          · rw [if_neg (show ¬ zi (sgM x) < 3000 from fun w => by have := (zi_lt (b := 3000) (by omega) (by decide)).mp w; omega)]
            exact go
    by_cases hname : nm = true
    · obtain ⟨hb, h0⟩ := hnmx.mp hname
      have hlen := tkT_nG (i := 0) hv hb
      have htl : t < (lexL (moT (sgC x))).length := by omega
      have hk0 : (tkT x t).1 = 0 := by
        rw [(vToken_at hv htl).1] at h0
        exact (zi_eq (by have := (tkT_in hv htl).2; omega) (b := 0) (by decide)).mp h0
      have hti : t < (toks (moT (sgC x))).length := by
        have hl := lex_len (l := moT (sgC x))
        rcases Nat.lt_or_ge t (toks (moT (sgC x))).length with w | w
        · exact w
        · exfalso
          have e : t = (toks (moT (sgC x))).length := by omega
          have : (tkT x t).1 = 10 := by
            unfold tkT
            rw [lexL_toks, List.getD_eq_getElem?_getD, List.getElem?_append_right (by omega), e, Nat.sub_self]
            rfl
          omega
      have hk : ((toks (moT (sgC (l, x.2)))).getD t (10, 0, 0)).1 = 0 := by
        have h := hk0
        unfold tkT at h
        rw [toks_lex hti] at h
        exact h
      obtain ⟨g1, g2, g3, g4⟩ := ren_full (x := (l, x.2)) hsx hpx hE hnm hl3 hb hti hk
      by_cases hr : refu (l, x.2) (renD (l, x.2) t)
      · rw [doC_ref hr] at g1
        exact ref g1 (Or.inr (g3 hr)) _ J rfl q r
      · obtain ⟨a1, a2, a3, a4, a5, a6, a7⟩ := g4 hr
        rw [g1] at r ⊢
        have nx : Nxt x S c0 u0 (doC (l, x.2) (renD (l, x.2) t) true).2 0 S c0 u0 J := by
          have h := doc_turn (x := x) (y := (l, x.2)) (bt := true) rfl hsx.1 g2
          rw [a1] at h
          exact cl_id h491 hz q (doC_ls hsx g2 (show sgE x < 512 by omega)).1 r a2 (doC_pb hsx.1 g2 (show sgE x < 512 by omega) hpx) h
        rw [a1]
        generalize (doC (l, x.2) (renD (l, x.2) t) true).2 = x2 at *
        have a4 : vFresh x2 = vFresh x := a4
        have a5 : (rnR x2).length = (rnR x).length := a5
        have a6 : vSets x (zi t) ≤ vSets x2 (zi t) := a6
        have a7 : (∀ p ∈ tkx (moT (sgC x)), p.1 = 0 → p.2 ≠ l) → vSets x2 (zi t) = vSets x (zi t) ∧ vValue x2 (zi t) = vValue x (zi t) := a7
        intro P984 h984 P983 _
        rw [if_neg (show ¬ (0 : Int32) < 0 by decide)]
        intro P954 h954
        rw [if_neg (show ¬ (0 : Int32) < 0 by decide), hname, if_neg (show ¬ b01 true = 0 by decide)]
        refine h954 ?_
        intro P979 h979
        rw [if_pos rfl]
        refine h979 (h984 1 ?_)
        intro P1086 h1086 P1085 _
        rw [if_neg (show ¬ (1 : Int32) = 0 by decide)]
        intro P1081 h1081
        have done : P1081 J := h1081 _ (h1086 _ _ (hP _ _ _ nx))
        rw [if_pos (show (0 : Int32) ≤ 0 by decide)]
        refine k_7 r ?_
        rw [a2, if_pos (show zi ([] : List Int32).length = 0 from rfl)]
        refine t_token nx.1.1 r ?_
        rw [a3, if_pos rfl]
        refine t_fresh r ?_
        rw [a4, if_pos rfl]
        refine t_runs r ?_
        rw [if_pos (show vRuns x2 = zi (rnR x).length by unfold vRuns; rw [a5])]
        refine t_sets nx.1.1 r ?_
        rw [if_neg (show ¬ vSets x2 (zi t) < vSets x (zi t) from Int32.not_lt.mpr a6)]
        cases o with
        | false =>
          rw [if_pos b01_f]
          exact done
        | true =>
          rw [if_neg (show ¬ b01 true = 0 by decide)]
          obtain ⟨e1, e2⟩ := a7 (ho rfl)
          refine t_sets nx.1.1 r ?_
          rw [if_pos e1]
          refine t_value nx.1.1 r ?_
          rw [if_pos e2]
          exact done
    · have e : renR (l, x.2) (zi t) = (-1, (l, x.2)) := by
        unfold renR
        rw [if_neg]
        rintro ⟨b1, ⟨-, b2⟩, b3, -⟩
        have b1 : moB (sgC x) = true := b1
        have hlen := tkT_nG (i := 0) hv b1
        have htl : t < (lexL (moT (sgC x))).length := by omega
        rw [zi_tn (by omega)] at b3
        have b3 : (tkT x t).1 = 0 := b3
        refine hname (hnmx.mpr ⟨b1, ?_⟩)
        rw [(vToken_at hv htl).1, b3]
        rfl
      refine ref e (Or.inl ?_) _ J rfl q r
      cases nm with
      | false => rfl
      | true => exact absurd rfl hname
  -- is there one alike
  have lp : ∀ (d i : Nat) (o : Bool), d + i = (lexL (moT (sgC x))).length → (o = true → ∀ j, j < i → (tkT x j).2.2 = 3 → tkBs (txF (moT (sgC x))) (tkT x j) ≠ l) → P846 (b01 o) (zi i) := by
    intro d
    induction d with
    | zero =>
      intro i o hi ho
      have e : i = (lexL (moT (sgC x))).length := by omega
      subst e
      refine fin o (fun h p hpm _ e => ?_)
      have hX : tkx (moT (sgC x)) = (toks (moT (sgC x))).map (tkB (moT (sgC x))) := rfl
      rw [hX] at hpm
      obtain ⟨y, hy, rfl⟩ := List.mem_map.mp hpm
      obtain ⟨j, hj⟩ := List.getElem?_of_mem hy
      have hjl := (List.getElem?_eq_some_iff.mp hj).1
      have ey : tkT x j = y := by
        unfold tkT
        rw [toks_lex hjl, List.getD_eq_getElem?_getD, hj]
        rfl
      have e : tkBs (txF (moT (sgC x))) y = l := e
      refine ho h j (by have := lex_len (l := moT (sgC x)); omega) ?_ ?_
      · rw [ey]
        have := congrArg List.length e
        rw [tkBs_len] at this
        omega
      · rw [ey]
        exact e
    | succ d ih =>
      intro i o hi ho
      have hil : i < (lexL (moT (sgC x))).length := by omega
      obtain ⟨-, t1, t2⟩ := vToken_at hv hil
      obtain ⟨tin, -⟩ := tkT_in hv hil
      refine h846 _ _ ?_
      refine k_1 hR ?_
      rw [if_neg (show ¬ zi (lexL (moT (sgC x))).length ≤ zi i from nle_zi hil (by omega))]
      refine t_token hv hR (t_token hv hR ?_)
      rw [t1, t2]
      intro P919 h919
      have nx : ∀ o2 : Bool, (o2 = true → ∀ j, j < i + 1 → (tkT x j).2.2 = 3 → tkBs (txF (moT (sgC x))) (tkT x j) ≠ l) → P919 (b01 o2) := fun o2 h2 => h919 _ (fun v23 e23 => by
        subst e23
        rw [zi_succ]
        exact ih (i + 1) o2 (by omega) h2)
      have same : ¬ ((tkT x i).2.2 = 3 ∧ tkBs (txF (moT (sgC x))) (tkT x i) = l) → P919 (b01 o) := fun hne => nx o (fun h j hj h3 e => by
        by_cases ej : j = i
        · subst ej
          exact hne ⟨h3, e⟩
        · exact ho h j (by omega) h3 e)
      by_cases h3 : (tkT x i).2.2 = 3
      · rw [if_pos (show zi (tkT x i).2.2 = 3 by rw [h3]; rfl)]
        have tb : ∀ j, j < 3 → (tkBs (txF (moT (sgC x))) (tkT x i))[j]? = some (txF (moT (sgC x)) ((tkT x i).2.1 + j)) := fun j hj => tkBs_g (by omega)
        have rd : ∀ j, j < 3 → I.1 kw (Int32.toNatClampNeg (zi ((tkT x i).2.1 + j))) = txF (moT (sgC x)) ((tkT x i).2.1 + j) := fun j hj => by
          rw [zi_tn (by omega)]
          exact hA.2 _ (by omega)
        have ll : ∀ j, j < 3 → l[j]? = some (I.1 kt j) := fun j hj => by
          rw [hA2.2 j (by omega), List.getD_eq_getElem?_getD, List.getElem?_eq_getElem (by omega)]
          rfl
        have df : ∀ j, j < 3 → ¬ txF (moT (sgC x)) ((tkT x i).2.1 + j) = I.1 kt j → ¬ ((tkT x i).2.2 = 3 ∧ tkBs (txF (moT (sgC x))) (tkT x i) = l) := fun j hj hne q => hne (by
          have h := tb j hj
          rw [q.2, ll j hj] at h
          exact (Option.some.inj h).symm)
        refine ⟨⟨hA.1, (zin_iff (by omega)).mpr (by omega)⟩, ⟨hA2.1, (zin_iff (i := 0) (by decide)).mpr (by omega)⟩, ?_⟩
        rw [show I.1 kw (Int32.toNatClampNeg (zi (tkT x i).2.1)) = txF (moT (sgC x)) ((tkT x i).2.1 + 0) from rd 0 (by decide)]
        by_cases c0 : txF (moT (sgC x)) ((tkT x i).2.1 + 0) = I.1 kt 0
        · rw [if_pos c0, zi_succ]
          refine ⟨⟨hA.1, (zin_iff (by omega)).mpr (by omega)⟩, ⟨hA2.1, (zin_iff (i := 1) (by decide)).mpr (by omega)⟩, ?_⟩
          rw [rd 1 (by decide)]
          by_cases c1 : txF (moT (sgC x)) ((tkT x i).2.1 + 1) = I.1 kt 1
          · rw [if_pos c1, show zi (tkT x i).2.1 + 2 = zi ((tkT x i).2.1 + 2) from zi_add _ 2]
            refine ⟨⟨hA.1, (zin_iff (by omega)).mpr (by omega)⟩, ⟨hA2.1, (zin_iff (i := 2) (by decide)).mpr (by omega)⟩, ?_⟩
            rw [rd 2 (by decide)]
            by_cases c2 : txF (moT (sgC x)) ((tkT x i).2.1 + 2) = I.1 kt 2
            · rw [if_pos c2]
              exact nx false (fun q => by cases q)
            · rw [if_neg c2]
              exact same (df 2 (by decide) c2)
          · rw [if_neg c1]
            exact same (df 1 (by decide) c1)
        · rw [if_neg c0]
          exact same (df 0 (by decide) c0)
      · have h8 : (tkT x i).2.2 < 2147483648 := by omega
        rw [if_neg (show ¬ zi (tkT x i).2.2 = 3 from zi_ne (b := 3) h8 (by decide) h3)]
        exact same (fun q => h3 q.1)
  exact lp _ 0 true rfl (fun _ j hj => absurd hj (Nat.not_lt_zero _))
theorem zi_div {a b : Nat} (ha : a < 2147483648) (hb : b < 2147483648) : zi a / zi b = zi (a / b) := by
  first
  | exact (Int32.ofNat_div (by omega) (by omega)).symm
  | exact (Int32.ofNat_div ha hb).symm
theorem rem_zi {v : Int32} {c n : Nat} (hc : c < 2147483648) (hn : 1 ≤ n) (hn2 : n < 2147483648) : ∃ i, i < n ∧ (v &&& zi c) - (v &&& zi c) / zi n * zi n = zi i := by
  obtain ⟨d, hd, e⟩ := and_zi (x := v) hc
  refine ⟨d % n, Nat.mod_lt _ (by omega), ?_⟩
  rw [e, zi_div (by omega) (by omega), zi_mul, zi_sub (Nat.div_mul_le_self d n)]
  congr 1
  have := Nat.div_add_mod d n
  rw [Nat.mul_comm] at this
  omega
theorem vToken_out {x : Sg} {t : Nat} (hv : Iv x) (ht : t < 2147483648) (h : (lexL (moT (sgC x))).length ≤ t) (b : Int32) : vToken x (zi t) b = -1 := by
  have z100 := (sz_300 hv).2
  unfold vToken
  rw [ixI_none (fun q => by have := (zi_lt ht (by omega)).mp q.2; omega)]
theorem s_747 {x : Sg} {S : List zC} {I : zI} {c0 u0 k kw : Nat} {v6 v7 v10 : Int32} {P1422 : Int32 → Int32 → List zC → Nat → Nat → zI → Prop} (hs : Lsv x) (hR : RX I x) (hz : zZ I S.length) (h491 : 491 ≤ S.length) (hk : k < 44) (hT : sgT x = []) (hp : Pb x) (hE : sgE x ≤ 39) (hA : AtL S I kw (moT (sgC x))) (hS : S.length ≤ 599000) (hc : c0 ≤ 599000) (hu : u0 ≤ 7302000)
    (hP : ∀ x2 is S2 c2 u2 J, Nxt x S c0 u0 x2 is S2 c2 u2 J → P1422 1 is S2 c2 u2 J) : w_law_747 (zi k) (zi (moT (sgC x)).length) v6 v7 (b01 (moB (sgC x))) v10 (zi (sgM x)) (zi (rnR x).length) kw (moT (sgC x)).length P1422 c0 u0 S I := by
  have hv := hs.1
  obtain ⟨z300, z100⟩ := sz_300 hv
  obtain ⟨-, -, n1, n100⟩ := tr_rt hv
  refine ⟨(zin_iff (by omega)).mpr hk, fun v450 => k_3 hR ⟨zi_ne (b := 0) (by omega) (by decide) (by omega), fun v16 e16 => ?_⟩⟩
  obtain ⟨t, ht, et⟩ := rem_zi (v := v450 >>> ((4 : Int32) &&& (31 : Int32))) (c := 255) (n := nG x) (by decide) n1 (by omega)
  have e16 : v16 = zi t := e16.trans et
  subst e16
  intro P785 h785
  have lw := hA.lt
  -- the NAME laid out, and on
  have go : ∀ nm : Bool, (nm = true ↔ (moB (sgC x) = true ∧ vToken x (zi t) 0 = 0)) → P785 (b01 nm) := by
    intro nm hnm
    refine h785 _ ?_
    refine t_value hv hR (t_sets hv hR (t_fresh hR ?_))
    refine ⟨⟨hz, by decide, by decide, by omega, ?_⟩, fun S2 k2 n2 eS eK eN => ?_⟩
    · rw [show Int32.toNatClampNeg 3 = 3 from zi_tn (a := 3) (by decide)]
      omega
    have eN2 : n2 = 3 := eN.trans (show Int32.toNatClampNeg 3 = 3 from zi_tn (a := 3) (by decide))
    subst eN2
    subst eS
    subst eK
    refine ⟨⟨zAt_new, (zin_iff (i := 0) (by decide)).mpr (by decide)⟩, fun I1 e1 => ⟨⟨zAt_new, (zin_iff (i := 1) (by decide)).mpr (by decide)⟩, fun I2 e2 => ⟨(zin_iff (by omega)).mpr hk, fun v463 => ⟨⟨zAt_new, (zin_iff (i := 2) (by decide)).mpr (by decide)⟩, fun I3 e3 => ?_⟩⟩⟩⟩
    obtain ⟨c, hc7, ec⟩ := and_zi (x := v463 >>> ((12 : Int32) &&& (31 : Int32))) (c := 7) (by decide)
    have e97 : (97 : Int32) + ((v463 >>> ((12 : Int32) &&& (31 : Int32))) &&& (7 : Int32)) = zi (97 + c) := by
      rw [show (v463 >>> ((12 : Int32) &&& (31 : Int32))) &&& (7 : Int32) = zi c from ec]
      exact zi_add 97 c
    rw [e97] at e3
    have hB : Bd I S.length [122, 122, zi (97 + c)] 3 I3 := by
      rw [e3, e2, e1]
      exact ((Bd.start.next rfl).next rfl).next rfl
    obtain ⟨m1, a1⟩ := Bd.nw (l := [122, 122, zi (97 + c)]) hB hz
    have hR3 := m1.rx h491 hv hR
    have bt : BtL [122, 122, zi (97 + c)] := fun b hb => by
      simp only [List.mem_cons, List.not_mem_nil, or_false] at hb
      rcases hb with rfl | rfl | rfl
      · exact ⟨122, by decide, rfl⟩
      · exact ⟨122, by decide, rfl⟩
      · exact ⟨97 + c, by omega, rfl⟩
    have l2 : (S ++ [(.inr (.inl (0, 3)) : zC)]).length = S.length + 1 := by rw [List.length_append]; rfl
    have l3 : (S ++ [(.inr (.inl (0, ([122, 122, zi (97 + c)] : List Int32).length)) : zC)]).length = S.length + 1 := by rw [List.length_append]; rfl
    refine s_846 (nm := nm) hs hR3 m1.2.2.2 (by omega) hT hp hE ht (m1.at hA) a1 h491 rfl (nm_zz (by omega)) bt (by omega) (fun x2 is J nx => hP x2 is _ _ _ J ?_) hnm
    obtain ⟨x1, x2', x3, x4, x5, x6, x7, x8, x9, x10⟩ := nx
    have u3 : u0 + 3 ≤ u0 + 16000 := by omega
    exact ⟨x1, x2', x3, x4, x5, x6, by omega, by omega, by omega, u3⟩
  intro P784 h784
  cases hb : moB (sgC x) with
  | false =>
    rw [if_pos b01_f]
    exact h784 (go false ⟨fun q => absurd q (by decide), fun q => absurd (hb.symm.trans q.1) (by decide)⟩)
  | true =>
    rw [if_neg (show ¬ b01 true = 0 by decide)]
    refine t_token hv hR ?_
    by_cases h0 : vToken x (zi t) 0 = 0
    · rw [if_pos h0]
      exact go true ⟨fun _ => ⟨hb, h0⟩, fun _ => rfl⟩
    · rw [if_neg h0]
      exact h784 (go false ⟨fun q => absurd q (by decide), fun q => absurd q.2 h0⟩)
