/-! ===== a NAME changed: the model ===== -/
theorem sel_iff {t : Nat → Int32} {x y : Nat × Nat × Nat} (hx : tkOk t x) (hy : tkOk t y) (h0 : x.1 = 0) : (y.1 = 0 ∧ isV t y = isV t x) ↔ alB t x t y = true := by
  rw [alB_iff]
  have hxL := (hx.2.2.2.1 h0).2
  constructor
  · rintro ⟨h1, h2⟩
    have hyL := (hy.2.2.2.1 h1).2
    unfold isV at h2
    rw [if_pos h1, if_pos h0] at h2
    obtain ⟨e1, e2⟩ := (valL_iff hxL hyL hx.2.1 hy.2.1).mp h2.symm
    exact ⟨by rw [h0, h1], e1, e2⟩
  · intro h
    have h1 : y.1 = 0 := by rw [← h.1]; exact h0
    refine ⟨h1, ?_⟩
    have hyL := (hy.2.2.2.1 h1).2
    unfold isV
    rw [if_pos h1, if_pos h0]
    exact ((valL_iff hxL hyL hx.2.1 hy.2.1).mpr ⟨h.2.1, h.2.2⟩).symm
theorem s_isName {tp : List Int32} {I : zI} {K : Int32 → Prop} (ht : TapM I tp) (hl : tp.length ≤ 200) (hK : K (b01 (nmOk tp))) : w_M_isName I K := by
  unfold w_M_isName
  rw [ht.1]
  refine s_in (fun c => ?_) (fun c => ?_)
  · rw [if_neg (by decide)]
    have c1 : 1 ≤ tp.length := (zi_le (a := 1) (by decide) (by omega)).mp c.1
    have c2 : tp.length ≤ 8 := (zi_le (b := 8) (by omega) (by decide)).mp c.2
    intro P17 h17
    have main : ∀ (d k : Nat), k + d = tp.length → ((tp.take k).all isL = true) → P17 (zi k) := by
      intro d
      induction d with
      | zero =>
        intro k hk hall
        refine h17 _ ?_
        rw [if_pos ((zi_le (by omega) (by omega)).mpr (by omega))]
        rw [List.take_of_length_le (by omega)] at hall
        unfold nmOk at hK
        rw [hall, decide_eq_true c1, decide_eq_true c2] at hK
        exact hK
      | succ d ih =>
        intro k hk hall
        refine h17 _ ?_
        rw [if_neg (fun u => by have := (zi_le (by omega) (by omega)).mp u; omega), zi_tn (show k < 2147483648 by omega)]
        have hv : tp[k]? = some (tp[k]'(by omega)) := List.getElem?_eq_getElem (by omega)
        generalize tp[k]'(by omega) = v at hv
        refine ⟨(zin_iff (by omega)).mpr (by omega), ?_⟩
        rw [ht.2 k v hv]
        refine w_mL.mpr ?_
        cases hv2 : isL v with
        | false =>
          rw [if_pos (show b01 false = 0 by decide)]
          have hno : tp.all isL = false := by
            rw [Bool.eq_false_iff]
            intro ha
            have := List.all_eq_true.mp ha v (List.mem_of_getElem? hv)
            rw [hv2] at this
            cases this
          unfold nmOk at hK
          rw [hno, Bool.and_false, Bool.and_false] at hK
          exact hK
        | true =>
          rw [if_neg (show ¬ b01 true = 0 by decide)]
          intro w ew
          rw [ew, zi_succ]
          refine ih (k + 1) (by omega) ?_
          rw [List.take_add_one, hv, List.all_append, hall]
          show (true && ([v].all isL)) = true
          rw [Bool.true_and, List.all_cons, hv2, List.all_nil]
          rfl
    exact main tp.length 0 (by omega) rfl
  · rw [if_pos rfl]
    have hno : nmOk tp = false := by
      unfold nmOk
      by_cases u : 1 ≤ tp.length
      · have : ¬ tp.length ≤ 8 := fun w => c ⟨(zi_le (a := 1) (by decide) (by omega)).mpr u, (zi_le (b := 8) (by omega) (by decide)).mpr w⟩
        rw [decide_eq_false this, Bool.false_and, Bool.and_false]
      · rw [decide_eq_false u, Bool.false_and]
    rw [hno] at hK
    exact hK
theorem s_Mrename {x : Sg} {i : Int32} {I : zI} {K : Int32 → zI → Prop} (hv : Iv x) (hR : RM I x) (he : sgE x < 100000) (hK : ∀ J, eqQ Qmo I J → RM J (renR x i).2 → K (renR x i).1 J) : w_M_rename i I K := by
  obtain ⟨o1, o2, oB, oR, oK⟩ := hv.2.2.2.2.2.2.2.1
  have l300 := o1.1
  have l100 := o1.2.2
  have hT200 := hv.1.1
  have lxo := lex_lxo o1
  have nw := hR.2.2.2.2.2.2.2.1
  unfold w_M_rename
  rw [nw.2.2.2.2.2.2.2.2.1]
  unfold renR at hK
  cases hb : moB (sgC x) with
  | false =>
    rw [if_pos (show b01 false = 0 by decide)]
    rw [if_neg (fun u => by rw [hb] at u; cases u.1)] at hK
    exact hK I eqQ.rf hR
  | true =>
    rw [if_neg (show ¬ b01 true = 0 by decide)]
    have hTG := oB hb
    have old : OldU I (txF (moT (sgC x))) (lexL (moT (sgC x))) := by
      rw [hTG]
      exact nw.2.2.2.2.2.2.1
    have gd : ∀ j, j < (moT (sgC x)).length → I.1 495 j = txF (moT (sgC x)) j := hR.gd hTG
    have g7 : I.1 491 7 = zi (moT (sgC x)).length := by
      rw [hTG]
      exact nw.2.2.2.2.1
    unfold w_M_isGoodName
    rw [show I.1 491 19 = zi (lexL (moT (sgC x))).length from old.1, show zi (lexL (moT (sgC x))).length - 1 = zi ((lexL (moT (sgC x))).length - 1) from zi_sub (b := 1) (by have := lxo.2.1; omega)]
    have n1 := lxo.2.1
    have iff1 : (0 ≤ i ∧ i ≤ zi ((lexL (moT (sgC x))).length - 1)) ↔ (0 ≤ i ∧ i < zi (lexL (moT (sgC x))).length) := by
      refine and_congr_right fun h => ?_
      obtain ⟨k, hk, rfl⟩ := zi_of h
      rw [zi_le hk (by omega), zi_lt hk (by omega)]
      omega
    refine s_in (fun hi => ?_) (fun hi => ?_)
    rotate_left
    · rw [if_pos rfl]
      dsimp only
      rw [if_pos rfl]
      rw [if_neg (fun u => hi (iff1.mpr u.2.1))] at hK
      exact hK I eqQ.rf hR
    rw [if_neg (by decide)]
    have hi := iff1.mp hi
    obtain ⟨i', hi', rfl⟩ := zi_of hi.1
    have hil := (zi_lt hi' (by omega)).mp hi.2
    rw [zi_tn hi'] at hK ⊢
    have hx : (lexL (moT (sgC x)))[i']? = some ((lexL (moT (sgC x))).getD i' (10, 0, 0)) := by
      rw [List.getD_eq_getElem?_getD, List.getElem?_eq_getElem hil]
      rfl
    have hiin : vp_in (zi i') 110 := (zin_iff (by omega)).mpr (by omega)
    obtain ⟨p1, p2, p3, p4⟩ := old.2 i' _ hx
    have hk12 := (lxo.1 _ (List.mem_of_getElem? hx)).1
    refine ⟨hiin, ?_⟩
    rw [show I.1 504 i' = zi ((lexL (moT (sgC x))).getD i' (10, 0, 0)).1 from p1]
    by_cases hk0 : ((lexL (moT (sgC x))).getD i' (10, 0, 0)).1 = 0
    rotate_left
    · rw [if_neg (show ¬ zi ((lexL (moT (sgC x))).getD i' (10, 0, 0)).1 = 0 from fun u => hk0 ((zi_eq (b := 0) (by omega) (by decide)).mp u))]
      dsimp only
      rw [if_pos rfl]
      rw [if_neg (fun u => hk0 u.2.2.1)] at hK
      exact hK I eqQ.rf hR
    rw [if_pos (show zi ((lexL (moT (sgC x))).getD i' (10, 0, 0)).1 = 0 by rw [hk0]; rfl)]
    dsimp only
    rw [if_neg (by decide)]
    refine s_isName hR.1 hT200 ?_
    cases hnm : nmOk (sgT x) with
    | false =>
      rw [if_pos (show b01 false = 0 by decide)]
      rw [if_neg (fun u => by rw [hnm] at u; cases u.2.2.2)] at hK
      exact hK I eqQ.rf hR
    | true =>
      rw [if_neg (show ¬ b01 true = 0 by decide)]
      rw [if_pos ⟨hb, hi, hk0, hnm⟩] at hK
      obtain ⟨hT1, hT8⟩ : 1 ≤ (sgT x).length ∧ (sgT x).length ≤ 8 := by
        unfold nmOk at hnm
        obtain ⟨h1, h2⟩ := Bool.and_eq_true_iff.mp hnm
        exact ⟨of_decide_eq_true h1, of_decide_eq_true (Bool.and_eq_true_iff.mp h2).1⟩
      have hbt : BtL (renD x i') := ren_bt (BtL.of o1.2.1) hv.1.2 _ _
      have sg0 : seg (sgT x) 0 (sgT x).length = sgT x := by
        unfold seg
        rw [List.drop_zero, Nat.sub_zero, List.take_length]
      have c93 : ∀ (A : zI) (a j : Nat), eqQ (fun a _ => a = 493) I A → a ≠ 493 → A.1 a j = I.1 a j := fun A a j q u => q.1 a j u
      intro P31 h31
      have main : ∀ (dd k f r g : Nat) (d : List Int32) (A : zI), k + dd = (lexL (moT (sgC x))).length → f ≤ (moT (sgC x)).length → (∀ (j : Nat) (y : Nat × Nat × Nat), k ≤ j → (lexL (moT (sgC x)))[j]? = some y → f ≤ y.2.1) → eqQ (fun a _ => a = 493) I A → NwM A d → d.length ≤ f + g → g + r ≤ (sgT x).length * r → (sgT x).length * r ≤ d.length → d.length ≤ 400 → d ++ ren (moT (sgC x)) (sgT x) (selN (moT (sgC x)) i') ((lexL (moT (sgC x))).drop k) f = renD x i' → P31 (zi d.length) (zi f) (zi k) A := by
        intro dd
        induction dd with
        | zero =>
          intro k f r g d A hk hf hfy q dA hdg hgr hTr h400 hren
          have hT8r : (sgT x).length * r ≤ 8 * r := Nat.mul_le_mul_right r hT8
          refine h31 _ _ _ _ ?_
          intro P40 h40 P206 h206
          rw [c93 A 491 19 q (by decide), old.1, if_pos ((zi_le (by omega) (by omega)).mpr (by omega))]
          rw [List.drop_of_length_le (by omega)] at hren
          have hren' : d ++ seg (moT (sgC x)) f (moT (sgC x)).length = renD x i' := hren
          have tail : ∀ (d2 j : Nat) (B : zI), j + d2 = (moT (sgC x)).length → f ≤ j → eqQ (fun a _ => a = 493) I B → NwM B (d ++ seg (moT (sgC x)) f j) → P206 (zi (d ++ seg (moT (sgC x)) f j).length) (zi j) B := by
            intro d2
            induction d2 with
            | zero =>
              intro j B hj hfj qB dB
              refine h206 _ _ _ ?_
              have hje : j = (moT (sgC x)).length := by omega
              rw [c93 B 491 7 qB (by decide), g7, if_pos ((zi_le (by omega) (by omega)).mpr (by omega))]
              rw [hje, hren'] at dB ⊢
              have hl : (renD x i').length ≤ 700 := by
                rw [← hren', List.length_append, seg_len (Nat.le_refl _)]
                omega
              exact s_doMt hv (RM.nw hv (tp := sgT x) hR (q93_nw qB)) hbt hl dB he (fun J qJ rJ => hK J ((Qnw_mo (q93_nw qB)).tr qJ) rJ)
            | succ d2 ih2 =>
              intro j B hj hfj qB dB
              refine h206 _ _ _ ?_
              have hl : (d ++ seg (moT (sgC x)) f j).length = d.length + (j - f) := by rw [List.length_append, seg_len (by omega)]
              rw [c93 B 491 7 qB (by decide), g7, if_neg (fun u => by have := (zi_le (by omega) (by omega)).mp u; omega), zi_tn (show j < 2147483648 by omega), zi_tn (show (d ++ seg (moT (sgC x)) f j).length < 2147483648 by omega)]
              refine ⟨(zin_iff (by omega)).mpr (by omega), (zin_iff (by omega)).mpr (by omega), fun I39 e39 v2 ev2 v3 ev3 => ?_⟩
              rw [c93 B 495 j qB (by decide), gd j (by omega)] at e39
              rw [ev2, ev3, zi_succ, zi_succ]
              have hnx : d ++ seg (moT (sgC x)) f (j + 1) = (d ++ seg (moT (sgC x)) f j) ++ [txF (moT (sgC x)) j] := by rw [seg_succ hfj (by omega), List.append_assoc]
              have hln : (d ++ seg (moT (sgC x)) f (j + 1)).length = (d ++ seg (moT (sgC x)) f j).length + 1 := by
                rw [hnx, List.length_append]
                rfl
              have key := ih2 (j + 1) I39 (by omega) (by omega) (by rw [e39]; exact qB.zu rfl) (by rw [hnx, e39]; exact dB.snoc)
              rw [hln] at key
              exact key
          have t0 := tail ((moT (sgC x)).length - f) f A (by omega) (Nat.le_refl _) q (by rw [seg_nil, List.append_nil]; exact dA)
          rw [seg_nil, List.append_nil] at t0
          exact t0
        | succ dd ih =>
          intro k f r g d A hk hf hfy q dA hdg hgr hTr h400 hren
          have hT8r : (sgT x).length * r ≤ 8 * r := Nat.mul_le_mul_right r hT8
          refine h31 _ _ _ _ ?_
          intro P40 h40 P206 h206
          rw [c93 A 491 19 q (by decide), old.1, if_neg (fun u => by have := (zi_le (by omega) (by omega)).mp u; omega)]
          have hy : (lexL (moT (sgC x)))[k]? = some ((lexL (moT (sgC x)))[k]'(by omega)) := List.getElem?_eq_getElem (by omega)
          have hdk : (lexL (moT (sgC x))).drop k = (lexL (moT (sgC x)))[k]'(by omega) :: (lexL (moT (sgC x))).drop (k + 1) := List.drop_eq_getElem_cons (by omega)
          generalize (lexL (moT (sgC x)))[k]'(by omega) = y at hy hdk
          have hyin := lexL_in o1 hy
          have hfk := hfy k y (Nat.le_refl _) hy
          obtain ⟨y1, y2, y3, y4⟩ := old.2 k y hy
          have oky := lxo.1 _ (List.mem_of_getElem? hy)
          have okx := lxo.1 _ (List.mem_of_getElem? hx)
          have hkin : vp_in (zi k) 110 := (zin_iff (by omega)).mpr (by omega)
          have hky := oky.1
          have hwy := oky.2.1
          rw [hdk] at hren
          have hren' : d ++ (if selN (moT (sgC x)) i' y = true then seg (moT (sgC x)) f y.2.1 ++ sgT x ++ ren (moT (sgC x)) (sgT x) (selN (moT (sgC x)) i') ((lexL (moT (sgC x))).drop (k + 1)) (y.2.1 + y.2.2) else ren (moT (sgC x)) (sgT x) (selN (moT (sgC x)) i') ((lexL (moT (sgC x))).drop (k + 1)) f) = renD x i' := hren
          have aft : ∀ z ∈ (lexL (moT (sgC x))).drop (k + 1), y.2.1 + y.2.2 ≤ z.2.1 := fun z hz => by
            obtain ⟨j, hj⟩ := List.mem_iff_getElem?.mp hz
            rw [List.getElem?_drop] at hj
            exact lexL_sorted o1 (by omega) hy hj
          -- the bytes ahead of the token
          have gap : ∀ (d2 j : Nat) (B : zI), j + d2 = y.2.1 → f ≤ j → eqQ (fun a _ => a = 493) I B → NwM B (d ++ seg (moT (sgC x)) f j) → P40 (zi (d ++ seg (moT (sgC x)) f j).length) (zi j) B := by
            intro d2
            induction d2 with
            | succ d2 ih2 =>
              intro j B hj hfj qB dB
              refine h40 _ _ _ ?_
              have hl : (d ++ seg (moT (sgC x)) f j).length = d.length + (j - f) := by rw [List.length_append, seg_len (by omega)]
              rw [zi_tn (show k < 2147483648 by omega), c93 B 505 k qB (by decide), y2]
              refine ⟨hkin, ?_⟩
              rw [if_neg (fun u => by have := (zi_le (by omega) (by omega)).mp u; omega), zi_tn (show j < 2147483648 by omega), zi_tn (show (d ++ seg (moT (sgC x)) f j).length < 2147483648 by omega)]
              refine ⟨(zin_iff (by omega)).mpr (by omega), (zin_iff (by omega)).mpr (by omega), fun I26 e26 v2 ev2 v3 ev3 => ?_⟩
              rw [c93 B 495 j qB (by decide), gd j (by omega)] at e26
              rw [ev2, ev3, zi_succ, zi_succ]
              have hnx : d ++ seg (moT (sgC x)) f (j + 1) = (d ++ seg (moT (sgC x)) f j) ++ [txF (moT (sgC x)) j] := by rw [seg_succ hfj (by omega), List.append_assoc]
              have hln : (d ++ seg (moT (sgC x)) f (j + 1)).length = (d ++ seg (moT (sgC x)) f j).length + 1 := by
                rw [hnx, List.length_append]
                rfl
              have key := ih2 (j + 1) I26 (by omega) (by omega) (by rw [e26]; exact qB.zu rfl) (by rw [hnx, e26]; exact dB.snoc)
              rw [hln] at key
              exact key
            | zero =>
              intro j B hj hfj qB dB
              have hje : j = y.2.1 := by omega
              subst hje
              refine h40 _ _ _ ?_
              have hl : (d ++ seg (moT (sgC x)) f y.2.1).length = d.length + (y.2.1 - f) := by rw [List.length_append, seg_len (by omega)]
              generalize hd1 : d ++ seg (moT (sgC x)) f y.2.1 = d1 at dB hl ⊢
              rw [zi_tn (show k < 2147483648 by omega), c93 B 505 k qB (by decide), y2]
              refine ⟨hkin, ?_⟩
              rw [if_pos ((zi_le (by omega) (by omega)).mpr (Nat.le_refl _))]
              refine ⟨hkin, ?_⟩
              -- behind the token
              have behind : ∀ (r' g' : Nat) (d3 : List Int32) (C : zI), eqQ (fun a _ => a = 493) I C → NwM C d3 → d3.length ≤ y.2.1 + y.2.2 + g' → g' + r' ≤ (sgT x).length * r' → (sgT x).length * r' ≤ d3.length → d3 ++ ren (moT (sgC x)) (sgT x) (selN (moT (sgC x)) i') ((lexL (moT (sgC x))).drop (k + 1)) (y.2.1 + y.2.2) = renD x i' → ∀ (v2_14 : Int32), v2_14 = zi d3.length → vp_in (zi k) 110 ∧ (∀ v3_15, v3_15 = (zi y.2.1 + (C.1 506 k)) → (if v2_14 ≤ 400 then (∀ v4_16, v4_16 = (zi k + 1) → P31 v2_14 v3_15 v4_16 C) else (K (-1) C))) := by
                intro r' g' d3 C qC dC h1 h2 h3 h4 v2 ev2
                refine ⟨hkin, fun v3 ev3 => ?_⟩
                rw [c93 C 506 k qC (by decide), y3, zi_add] at ev3
                subst ev2
                subst ev3
                have h8r' : (sgT x).length * r' ≤ 8 * r' := Nat.mul_le_mul_right r' hT8
                by_cases u : d3.length ≤ 400
                · have hl3 : zi d3.length ≤ 400 := (zi_le (b := 400) (by omega) (by decide)).mpr u
                  rw [if_pos hl3]
                  intro v4 ev4
                  rw [ev4, zi_succ]
                  exact ih (k + 1) (y.2.1 + y.2.2) r' g' d3 C (by omega) hyin (fun j z hj hz => lexL_sorted o1 (show k < j by omega) hy hz) qC dC h1 h2 h3 u h4
                · have hbig : 300 < (renD x i').length := by
                    rw [← h4, List.length_append]
                    omega
                  have hdo : doC x (renD x i') true = (-1, x) := by
                    unfold doC
                    exact if_pos (Or.inl hbig)
                  rw [hdo] at hK
                  by_cases hl3 : zi d3.length ≤ 400
                  · exact absurd ((zi_le (b := 400) (by
                      have := (renD x i').length
                      have h5 := ren_len (tx := moT (sgC x)) (sel := selN (moT (sgC x)) i') hT8 (lexL (moT (sgC x))) 0 (fun z hz => by have := (lex_ok o1.2.1 z hz).2; omega)
                      have h6 : (renD x i').length = (d3 ++ ren (moT (sgC x)) (sgT x) (selN (moT (sgC x)) i') ((lexL (moT (sgC x))).drop (k + 1)) (y.2.1 + y.2.2)).length := by rw [h4]
                      rw [List.length_append] at h6
                      have h7 : (renD x i').length ≤ ((moT (sgC x)).length + 8) * (lexL (moT (sgC x))).length + (moT (sgC x)).length := h5
                      have h8 : ((moT (sgC x)).length + 8) * (lexL (moT (sgC x))).length ≤ 308 * 100 := Nat.mul_le_mul (by omega) l100
                      omega) (by decide)).mp hl3) u
                  · rw [if_neg hl3]
                    exact hK C (Qnw_mo (q93_nw qC)) (RM.nw hv (tp := sgT x) hR (q93_nw qC))
              intro P104 h104
              have no : selN (moT (sgC x)) i' y = false → P104 0 := by
                intro hse
                rw [hse, if_neg (by decide), ren_seg _ f (y.2.1 + y.2.2) (by omega) hyin aft, seg_app hfk (by omega), ← List.append_assoc, ← List.append_assoc, hd1] at hren'
                refine h104 0 ?_
                intro P125 h125
                rw [if_pos rfl]
                refine ⟨hkin, ?_⟩
                rw [c93 B 506 k qB (by decide), y3]
                refine h125 _ ?_
                intro P130 h130
                have cp : ∀ (d4 b : Nat) (C : zI), b + d4 = y.2.2 → eqQ (fun a _ => a = 493) I C → NwM C (d1 ++ seg (moT (sgC x)) y.2.1 (y.2.1 + b)) → P130 (zi b) C := by
                  intro d4
                  induction d4 with
                  | succ d4 ih4 =>
                    intro b C hb4 qC dC
                    refine h130 _ _ ?_
                    have hl5 : (d1 ++ seg (moT (sgC x)) y.2.1 (y.2.1 + b)).length = d1.length + b := by rw [List.length_append, seg_len (by omega)]; omega
                    rw [if_neg (fun u => by have := (zi_le (by omega) (by omega)).mp u; omega)]
                    intro P169 h169
                    rw [if_pos rfl, zi_add, zi_tn (show y.2.1 + b < 2147483648 by omega)]
                    refine ⟨(zin_iff (by omega)).mpr (by omega), h169 _ ?_⟩
                    rw [zi_add, zi_tn (show d1.length + b < 2147483648 by omega)]
                    refine ⟨(zin_iff (by omega)).mpr (by omega), fun I19 e19 v7 ev7 => ?_⟩
                    rw [c93 C 495 _ qC (by decide), gd _ (by omega)] at e19
                    rw [ev7, zi_succ]
                    refine ih4 (b + 1) I19 (by omega) (by rw [e19]; exact qC.zu rfl) ?_
                    rw [← Nat.add_assoc, seg_succ (by omega) (by omega), ← List.append_assoc, e19, ← hl5]
                    exact dC.snoc
                  | zero =>
                    intro b C hb4 qC dC
                    refine h130 _ _ ?_
                    have hbe : b = y.2.2 := by omega
                    subst hbe
                    have hl5 : (d1 ++ seg (moT (sgC x)) y.2.1 (y.2.1 + y.2.2)).length = d1.length + y.2.2 := by rw [List.length_append, seg_len (by omega)]; omega
                    rw [if_pos ((zi_le (by omega) (by omega)).mpr (Nat.le_refl _))]
                    intro v2 ev2
                    exact behind r g _ C qC dC (by omega) hgr (by omega) hren' v2 (by rw [ev2, zi_add, hl5])
                exact cp y.2.2 0 B (by omega) qB (by rw [Nat.add_zero, seg_nil, List.append_nil]; exact dB)
              have yes : selN (moT (sgC x)) i' y = true → P104 1 := by
                intro hse
                have hw1 : 1 ≤ y.2.2 := by
                  have h1 := (sel_iff okx oky hk0).mpr hse
                  exact (oky.2.2.2.1 h1.1).1
                rw [hse, if_pos rfl, ← List.append_assoc, ← List.append_assoc, hd1] at hren'
                refine h104 1 ?_
                intro P125 h125
                rw [if_neg (by decide), c93 B 491 0 qB (by decide), hR.1.1]
                refine h125 _ ?_
                intro P130 h130
                have cp : ∀ (d4 b : Nat) (C : zI), b + d4 = (sgT x).length → eqQ (fun a _ => a = 493) I C → NwM C (d1 ++ seg (sgT x) 0 b) → P130 (zi b) C := by
                  intro d4
                  induction d4 with
                  | succ d4 ih4 =>
                    intro b C hb4 qC dC
                    refine h130 _ _ ?_
                    have hl5 : (d1 ++ seg (sgT x) 0 b).length = d1.length + b := by rw [List.length_append, seg_len (by omega)]; omega
                    rw [if_neg (fun u => by have := (zi_le (by omega) (by omega)).mp u; omega)]
                    intro P169 h169
                    rw [if_neg (by decide), zi_tn (show b < 2147483648 by omega)]
                    refine ⟨(zin_iff (by omega)).mpr (by omega), h169 _ ?_⟩
                    rw [zi_add, zi_tn (show d1.length + b < 2147483648 by omega)]
                    refine ⟨(zin_iff (by omega)).mpr (by omega), fun I19 e19 v7 ev7 => ?_⟩
                    rw [c93 C 492 _ qC (by decide), hR.1.2 b (txF (sgT x) b) (by
                      rw [txF_at (List.getElem?_eq_getElem (show b < (sgT x).length by omega))]
                      exact List.getElem?_eq_getElem _)] at e19
                    rw [ev7, zi_succ]
                    refine ih4 (b + 1) I19 (by omega) (by rw [e19]; exact qC.zu rfl) ?_
                    rw [seg_succ (by omega) (by omega), ← List.append_assoc, e19, ← hl5]
                    exact dC.snoc
                  | zero =>
                    intro b C hb4 qC dC
                    refine h130 _ _ ?_
                    have hbe : b = (sgT x).length := by omega
                    subst hbe
                    rw [sg0] at dC
                    have hl5 : (d1 ++ sgT x).length = d1.length + (sgT x).length := List.length_append
                    rw [if_pos ((zi_le (by omega) (by omega)).mpr (Nat.le_refl _))]
                    intro v2 ev2
                    have hm : (sgT x).length * (r + 1) = (sgT x).length * r + (sgT x).length := Nat.mul_succ _ _
                    exact behind (r + 1) (g + (sgT x).length - 1) _ C qC dC (by omega) (by omega) (by omega) hren' v2 (by rw [ev2, zi_add, hl5])
                exact cp (sgT x).length 0 B (by omega) qB (by rw [seg_nil, List.append_nil]; exact dB)
              intro P103 h103
              have hsel := sel_iff okx oky hk0
              have hselN : selN (moT (sgC x)) i' y = alB (txF (moT (sgC x))) ((lexL (moT (sgC x))).getD i' (10, 0, 0)) (txF (moT (sgC x))) y := rfl
              have noP : ¬ (y.1 = 0 ∧ isV (txF (moT (sgC x))) y = isV (txF (moT (sgC x))) ((lexL (moT (sgC x))).getD i' (10, 0, 0))) → P103 := fun u => h103 (no (by
                rw [hselN, Bool.eq_false_iff]
                exact fun w => u (hsel.mpr w)))
              rw [c93 B 504 k qB (by decide), y1, qB.2 507 k (by omega), y4, qB.2 507 i' (by omega), p4]
              by_cases c1 : y.1 = 0
              · rw [if_pos (show zi y.1 = 0 by rw [c1]; rfl)]
                refine ⟨hkin, hiin, ?_⟩
                by_cases c2 : isV (txF (moT (sgC x))) y = isV (txF (moT (sgC x))) ((lexL (moT (sgC x))).getD i' (10, 0, 0))
                · rw [if_pos (lg_cmp0.mpr c2)]
                  exact yes (by rw [hselN]; exact hsel.mp ⟨c1, c2⟩)
                · rw [if_neg (fun u => c2 (lg_cmp0.mp u))]
                  exact noP (fun u => c2 u.2)
              · rw [if_neg (show ¬ zi y.1 = 0 from fun u => c1 ((zi_eq (b := 0) (by omega) (by decide)).mp u))]
                exact noP (fun u => c1 u.1)
          have g0 := gap (y.2.1 - f) f A (by omega) (Nat.le_refl _) q (by rw [seg_nil, List.append_nil]; exact dA)
          rw [seg_nil, List.append_nil] at g0
          exact g0
      exact main (lexL (moT (sgC x))).length 0 0 0 0 [] I (by omega) (Nat.zero_le _) (fun j y _ _ => Nat.zero_le _) eqQ.rf NwM.nil (Nat.zero_le _) (Nat.zero_le _) (Nat.zero_le _) (Nat.zero_le _) (by rw [List.drop_zero]; rfl)
