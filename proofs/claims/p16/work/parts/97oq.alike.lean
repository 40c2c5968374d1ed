/-! ===== alike: two nodes printed, compared ===== -/
def vAlike (x : Sg) (a b : Int32) : Int32 := match inT x a with
  | some p => if 4 ≤ ndR (sgN x (ffA x p).1) then (match inT x b with
    | some q => if 4 ≤ ndR (sgN x (ffA x q).1) then (if prt (sgN x) (ffA x p).1 = prt (sgN x) (ffA x q).1 then 1 else 0) else -1
    | none => -1) else -1
  | none => -1
theorem Qpw_cl {b : Nat} {I J : zI} (hb : b < 491) (q : eqQ (Qpw b) I J) : eqQ Qcl I J := q.mono (fun a j h => by unfold Qpw at h; unfold Qcl; omega)
theorem t_prAlike {x : Sg} {p q : Nat} {f g : Fl} {I : zI} {K : Int32 → zI → Prop} (hv : Iv x) (hR : RX I x) (hp : (FF x)[p]? = some f) (hq : (FF x)[q]? = some g) (hK : ∀ J, eqQ Qcl I J → RX J x → K (if prt (sgN x) f.1 = prt (sgN x) g.1 then 1 else 0) J) : w_Desk_printsAlike (zi f.1) (zi g.1) I (fun r_3 I_4 => (if r_3 = 0 then K 0 I_4 else K 1 I_4)) := by
  have hN := hv.2.1
  have hm := hv.2.2.2.1
  have hC := hv.2.2.2.2.2.2.2.1
  have hf := (hv.fg.1.2 p f hp).1
  have hg := (hv.fg.1.2 q g hq).1
  obtain ⟨f1, f2, f3⟩ := prt_in hN hC (fl_po hN hv.tr.1 hp)
  obtain ⟨g1, g2, g3⟩ := prt_in hN hC (fl_po hN hv.tr.1 hq)
  obtain ⟨r1, r2, r3⟩ := prt_in hN hC (c := moR (sgC x)) (by
    rw [po_eq hN hv.tr.1]
    exact List.mem_cons_self ..)
  obtain ⟨s, hA⟩ := hR.now
  have zs : zmom s = 113 + 18 * s := rfl
  unfold w_Desk_printsAlike
  refine s_write (a2 := 109) (Or.inl rfl) hR.2.1 hN (by omega) hf (by omega) (by omega) f3 (fun I2 q2 o2 => ?_)
  refine s_write (a2 := 111) (Or.inr rfl) (hR.2.1.kp hN.ch (fun a j u1 u2 _ => q2.1 a j (by unfold Qpw; omega))) hN (by omega) hg (by omega) (by omega) g3 (fun I4 q4 o4 => ?_)
  have oA : OutX 110 I4 (prt (sgN x) f.1) := fun i v hi => (q4.1 110 i (by unfold Qpw; omega)).trans (o2 i v hi)
  have k4 : ∀ a j, ¬ (a = 97 ∧ (j = 2 ∨ j = 3)) → a ≠ 99 → a ≠ 110 → a ≠ 112 → I4.1 a j = I.1 a j := fun a j u1 u2 u3 u4 => (q4.1 a j (by unfold Qpw; omega)).trans (q2.1 a j (by unfold Qpw; omega))
  have c4 : eqQ Qcl I I4 := (Qpw_cl (by decide) q2).tr (Qpw_cl (by decide) q4)
  have stop : ∀ u : Int32, u = (if prt (sgN x) f.1 = prt (sgN x) g.1 then 1 else 0) → w_Desk_now I4 (fun r_8 => w_Printer_write (I4.1 r_8 7) 109 700 I4 (fun r_9 I_10 => zb u ∧ (if u = 0 then K 0 I_10 else K 1 I_10))) := by
    intro u hu
    refine s_now hA.1 (by rw [k4 0 4 (by omega) (by omega) (by omega) (by omega)]; exact hA.2.1) ?_
    rw [k4 (zmom s) 7 (by omega) (by omega) (by omega) (by omega), show I.1 (zmom s) 7 = zi (moR (sgC x)) from hA.2.2.2.2.2.2.2.2.2.1]
    refine s_write (a2 := 109) (Or.inl rfl) (hR.2.1.kp hN.ch (fun a j u1 u2 _ => k4 a j (by omega) (by omega) (by omega) (by omega))) hN (by omega) hv.tr.1 (by omega) (by omega) r3 (fun J qJ oJ => ?_)
    have RJ : RX J x := hR.pr hv (fun a j w => by rw [qJ.1 a j (by unfold Qpw; omega)]; exact k4 a j (by omega) (by omega) (by omega) (by omega)) ⟨by rw [qJ.1 0 18 (by unfold Qpw; omega), k4 0 18 (by omega) (by omega) (by omega) (by omega)]; exact hR.2.2.1.2.2.2.2.2.2.2.1, oJ⟩
    have hKJ := hK J (c4.tr (Qpw_cl (by decide) qJ)) RJ
    rw [hu]
    by_cases c : prt (sgN x) f.1 = prt (sgN x) g.1
    · rw [if_pos c] at hKJ ⊢
      rw [if_neg (show ¬ (1 : Int32) = 0 by decide)]
      exact ⟨Or.inr rfl, hKJ⟩
    · rw [if_neg c] at hKJ ⊢
      rw [if_pos (show (0 : Int32) = 0 from rfl)]
      exact ⟨Or.inl rfl, hKJ⟩
  intro P38 h38
  by_cases hl : (prt (sgN x) f.1).length = (prt (sgN x) g.1).length
  · rw [if_pos (show zi (prt (sgN x) f.1).length = zi (prt (sgN x) g.1).length by rw [hl])]
    refine h38 1 ?_
    intro P43 h43
    have main : ∀ (d i : Nat), i + d = (prt (sgN x) f.1).length → (∀ k : Nat, k < i → (prt (sgN x) f.1)[k]? = (prt (sgN x) g.1)[k]?) → P43 1 (zi i) := by
      intro d
      induction d with
      | zero =>
        intro i hi hk
        refine h43 _ _ ?_
        intro P88 h88
        rw [if_neg (show ¬ (1 : Int32) = 0 by decide), if_pos ((zi_le (by omega) (by omega)).mpr (by omega))]
        refine h88 (stop 1 ?_)
        have he : prt (sgN x) f.1 = prt (sgN x) g.1 := by
          refine List.ext_getElem? (fun k => ?_)
          by_cases hki : k < i
          · exact hk k hki
          · rw [List.getElem?_eq_none (by omega), List.getElem?_eq_none (by omega)]
        rw [if_pos he]
      | succ d ih =>
        intro i hi hk
        refine h43 _ _ ?_
        intro P88 h88
        rw [if_neg (show ¬ (1 : Int32) = 0 by decide), if_neg (nle_zi (by omega) (by omega))]
        have e1 : (prt (sgN x) f.1)[i]? = some ((prt (sgN x) f.1)[i]'(by omega)) := List.getElem?_eq_getElem (by omega)
        have e2 : (prt (sgN x) g.1)[i]? = some ((prt (sgN x) g.1)[i]'(by omega)) := List.getElem?_eq_getElem (by omega)
        generalize (prt (sgN x) f.1)[i]'(by omega) = y1 at e1
        generalize (prt (sgN x) g.1)[i]'(by omega) = y2 at e2
        refine (w_get (by decide)).mpr ((w_get (by decide)).mpr ?_)
        rw [rg_in (by decide) (show i < 700 by omega), rg_in (by decide) (show i < 700 by omega), show I4.1 (109 + 1) i = y1 from oA i y1 e1, show I4.1 (111 + 1) i = y2 from o4 i y2 e2]
        intro P80 h80
        by_cases c : y1 = y2
        · rw [if_pos c]
          refine h80 1 (fun v ev => ?_)
          rw [ev, zi_succ]
          refine ih (i + 1) (by omega) (fun k hk' => ?_)
          by_cases u : k = i
          · rw [u, e1, e2, c]
          · exact hk k (by omega)
        · rw [if_neg c]
          refine h80 0 (fun v ev => ?_)
          refine h43 _ _ ?_
          intro P88' h88'
          rw [if_pos (show (0 : Int32) = 0 from rfl)]
          refine h88' (stop 0 ?_)
          rw [if_neg (fun w => c (by rw [w, e2] at e1; exact (Option.some.inj e1).symm))]
    exact main _ 0 (Nat.zero_add _) (fun k hk => absurd hk (Nat.not_lt_zero k))
  · rw [if_neg (show ¬ zi (prt (sgN x) f.1).length = zi (prt (sgN x) g.1).length from fun u => hl ((zi_eq (by omega) (by omega)).mp u))]
    refine h38 0 ?_
    intro P43 h43
    refine h43 _ _ ?_
    intro P88 h88
    rw [if_pos (show (0 : Int32) = 0 from rfl)]
    refine h88 (stop 0 ?_)
    rw [if_neg (fun w => hl (by rw [w]))]
theorem t_alike {x : Sg} {a b : Int32} {I : zI} {K : Int32 → zI → Prop} (hv : Iv x) (hR : RX I x) (hK : ∀ J, eqQ Qcl I J → RX J x → K (vAlike x a b) J) : w_Desk_alike a b I K := by
  unfold w_Desk_alike
  unfold vAlike at hK
  refine t_holdsE hv hR (fun p f hp e hlt e2 hr => ?_) (fun p f hp e2 hr => ?_) (fun e => ?_)
  · rw [e2] at hK
    dsimp only at hK
    rw [ffA_at hp, if_pos hr] at hK
    rw [if_neg (show ¬ (1 : Int32) = 0 by decide)]
    refine t_holdsE hv hR (fun q g hq e' hlt' e2' hr' => ?_) (fun q g hq e2' hr' => ?_) (fun e' => ?_)
    · rw [e2'] at hK
      dsimp only at hK
      rw [ffA_at hq, if_pos hr'] at hK
      rw [if_neg (show ¬ (1 : Int32) = 0 by decide), e, e']
      exact t_prAlike hv hR hp hq hK
    · rw [e2'] at hK
      dsimp only at hK
      rw [ffA_at hq, if_neg hr'] at hK
      rw [if_pos rfl]
      exact hK I eqQ.rf hR
    · rw [e'] at hK
      dsimp only at hK
      rw [if_pos rfl]
      exact hK I eqQ.rf hR
  · rw [e2] at hK
    dsimp only at hK
    rw [ffA_at hp, if_neg hr] at hK
    rw [if_pos rfl]
    exact hK I eqQ.rf hR
  · rw [e] at hK
    dsimp only at hK
    rw [if_pos rfl]
    exact hK I eqQ.rf hR
theorem q_alike {x : Sg} {a b : Int32} {I : zI} {K : Int32 → zI → Prop} (hv : Iv x) (hR : RX I x) (h : ∀ v J, eqQ Qcl I J → RX J x → K v J) : w_Desk_alike a b I K := t_alike hv hR (fun J q r => h _ J q r)
theorem u_alike {x : Sg} {a b : Int32} {I : zI} {K : Int32 → zI → Prop} (hv : Iv x) (hR : RM I x) (hK : ∀ J, eqQ Qmo I J → RM J x → K (vAlike x a b) J) : w_M_alike a b I K := by
  have hN := hv.2.1
  have hC := hv.2.2.2.2.2.2.2.1
  unfold w_M_alike
  unfold vAlike at hK
  refine u_isTerm hv hR (fun p f hp e hlt e2 hr => ?_) (fun p f hp e2 hr => ?_) (fun e => ?_)
  rotate_left
  · rw [e2] at hK
    dsimp only at hK
    rw [ffA_at hp, if_neg hr] at hK
    rw [if_pos rfl]
    exact hK I eqQ.rf hR
  · rw [e] at hK
    dsimp only at hK
    rw [if_pos rfl]
    exact hK I eqQ.rf hR
  rw [e2] at hK
  dsimp only at hK
  rw [ffA_at hp, if_pos hr] at hK
  rw [if_neg (show ¬ (1 : Int32) = 0 by decide)]
  refine u_isTerm hv hR (fun q g hq e' hlt' e2' hr' => ?_) (fun q g hq e2' hr' => ?_) (fun e' => ?_)
  rotate_left
  · rw [e2'] at hK
    dsimp only at hK
    rw [ffA_at hq, if_neg hr'] at hK
    rw [if_pos rfl]
    exact hK I eqQ.rf hR
  · rw [e'] at hK
    dsimp only at hK
    rw [if_pos rfl]
    exact hK I eqQ.rf hR
  rw [e2'] at hK
  dsimp only at hK
  rw [ffA_at hq, if_pos hr'] at hK
  rw [if_neg (show ¬ (1 : Int32) = 0 by decide), e, e']
  obtain ⟨f1, -, -⟩ := prt_in hN hC (fl_po hN hv.tr.1 hp)
  obtain ⟨g1, -, -⟩ := prt_in hN hC (fl_po hN hv.tr.1 hq)
  have done : ∀ (v : Int32) (J : zI), eqQ Qal I J → v = (if prt (sgN x) f.1 = prt (sgN x) g.1 then 1 else 0) → K v J := fun v J q hv' => by
    rw [hv']
    exact hK J (Qal_mo q) (hR.al hv q)
  refine u_prints hv hR hp (fun J qJ h80 hO => ?_)
  intro v3 ev3
  rw [ev3, h80]
  intro P31 h31
  have main : ∀ (d i : Nat) (A : zI), i + d = (prt (sgN x) f.1).length → eqQ Qal I A → OutX 544 A (prt (sgN x) f.1) → OutX 545 A ((prt (sgN x) f.1).take i) → P31 (zi i) A := by
    intro d
    induction d with
    | zero =>
      intro i A hi qA o4 o5
      refine h31 _ _ ?_
      rw [if_pos ((zi_le (by omega) (by omega)).mpr (by omega))]
      rw [List.take_of_length_le (by omega)] at o5
      have rA := hR.al hv qA
      refine u_prints hv rA hq (fun B qB b80 bO => ?_)
      have qB' := qA.tr (Qpp_al qB)
      have o5' : OutX 545 B (prt (sgN x) f.1) := fun k v hk => (qB.1 545 k (by unfold Qpp; omega)).trans (o5 k v hk)
      rw [b80]
      by_cases hl : (prt (sgN x) g.1).length = (prt (sgN x) f.1).length
      · rw [if_pos (show zi (prt (sgN x) g.1).length = zi (prt (sgN x) f.1).length by rw [hl])]
        intro P75 h75
        have loop : ∀ (d k : Nat), k + d = (prt (sgN x) f.1).length → (∀ z : Nat, z < k → (prt (sgN x) f.1)[z]? = (prt (sgN x) g.1)[z]?) → P75 (zi k) := by
          intro d
          induction d with
          | zero =>
            intro k hk hz
            refine h75 _ ?_
            rw [if_pos ((zi_le (by omega) (by omega)).mpr (by omega))]
            refine done 1 B qB' ?_
            have he : prt (sgN x) f.1 = prt (sgN x) g.1 := by
              refine List.ext_getElem? (fun z => ?_)
              by_cases hzk : z < k
              · exact hz z hzk
              · rw [List.getElem?_eq_none (by omega), List.getElem?_eq_none (by omega)]
            rw [if_pos he]
          | succ d ih =>
            intro k hk hz
            refine h75 _ ?_
            have hin : vp_in (zi k) 1000 := (zin_iff (by omega)).mpr (by omega)
            have e1 : (prt (sgN x) f.1)[k]? = some ((prt (sgN x) f.1)[k]'(by omega)) := List.getElem?_eq_getElem (by omega)
            have e2 : (prt (sgN x) g.1)[k]? = some ((prt (sgN x) g.1)[k]'(by omega)) := List.getElem?_eq_getElem (by omega)
            generalize (prt (sgN x) f.1)[k]'(by omega) = y1 at e1
            generalize (prt (sgN x) g.1)[k]'(by omega) = y2 at e2
            rw [if_neg (nle_zi (by omega) (by omega)), zi_tn (show k < 2147483648 by omega), show B.1 545 k = y1 from o5' k y1 e1, show B.1 544 k = y2 from bO k y2 e2]
            refine ⟨hin, hin, ?_⟩
            by_cases c : y1 = y2
            · rw [if_pos c]
              intro v ev
              rw [ev, zi_succ]
              refine ih (k + 1) (by omega) (fun z hz' => ?_)
              by_cases u : z = k
              · rw [u, e1, e2, c]
              · exact hz z (by omega)
            · rw [if_neg c]
              refine done 0 B qB' ?_
              rw [if_neg (fun w => c (by rw [w, e2] at e1; exact (Option.some.inj e1).symm))]
        exact loop _ 0 (Nat.zero_add _) (fun z hz => absurd hz (Nat.not_lt_zero z))
      · rw [if_neg (show ¬ zi (prt (sgN x) g.1).length = zi (prt (sgN x) f.1).length from fun u => hl ((zi_eq (by omega) (by omega)).mp u))]
        refine done 0 B qB' ?_
        rw [if_neg (fun w => hl (by rw [w]))]
    | succ d ih =>
      intro i A hi qA o4 o5
      refine h31 _ _ ?_
      have hin : vp_in (zi i) 1000 := (zin_iff (by omega)).mpr (by omega)
      have e1 : (prt (sgN x) f.1)[i]? = some ((prt (sgN x) f.1)[i]'(by omega)) := List.getElem?_eq_getElem (by omega)
      generalize (prt (sgN x) f.1)[i]'(by omega) = y1 at e1
      rw [if_neg (nle_zi (by omega) (by omega)), zi_tn (show i < 2147483648 by omega), show A.1 544 i = y1 from o4 i y1 e1]
      refine ⟨hin, hin, fun I13 e13 v ev => ?_⟩
      rw [ev, zi_succ]
      refine ih (i + 1) I13 (by omega) (by rw [e13]; exact qA.zu (Or.inr (Or.inl rfl))) (fun k v hk => by rw [e13, zu_oo (by decide)]; exact o4 k v hk) (fun k v hk => ?_)
      rw [List.take_add_one, e1] at hk
      rw [e13, zu_at]
      have hli : ((prt (sgN x) f.1).take i).length = i := by
        rw [List.length_take]
        omega
      rcases snoc_at (l := (prt (sgN x) f.1).take i) (a := y1) hk with hk | ⟨rfl, rfl⟩
      · have := (List.getElem?_eq_some_iff.mp hk).1
        rw [if_neg (by omega)]
        exact o5 k v hk
      · rw [if_pos ⟨rfl, hli⟩]
  exact main _ 0 J (Nat.zero_add _) (Qpp_al qJ) hO (fun k v hk => by cases hk)
