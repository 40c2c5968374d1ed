/-! ===== all of it is replaced, as far as it goes ===== -/
theorem sz_300 {x : Sg} (hv : Iv x) : (moT (sgC x)).length ≤ 300 ∧ (lexL (moT (sgC x))).length ≤ 100 := ⟨hv.2.2.2.2.2.2.2.1.1.1, hv.2.2.2.2.2.2.2.1.1.2.2⟩
theorem cl_zZ {I J : zI} {n : Nat} (hz : zZ I n) (h : 491 ≤ n) (q : eqQ Qcl I J) : zZ J n := hz.q q (fun a j u => by unfold Qcl at u; omega)
theorem cl_at {S : List zC} {I J : zI} {k : Nat} {l : List Int32} (h : AtL S I k l) (hk : 491 ≤ k) (q : eqQ Qcl I J) : AtL S J k l := h.kp ⟨[], (List.append_nil S).symm⟩ (funext fun j => q.1 k j (fun u => by unfold Qcl at u; omega))
theorem take_all {l : List Int32} {n : Nat} (h : l.length ≤ n) : l.take n = l := by
  rw [List.take_of_length_le h]
set_option maxHeartbeats 1000000 in
theorem s_replaced {x : Sg} {S : List zC} {I : zI} {a : Nat} {l : List Int32} {K : Int32 → List zC → zI → Prop} (hs : Lsv x) (hR : RX I x) (hz : zZ I S.length) (h491 : 491 ≤ S.length) (hT : sgT x = []) (he : sgE x ≤ 32) (hA : AtL S I a l) (ha : 491 ≤ a) (hl : l.length ≤ 700) (hb : BtL l) (hg : auL (kdsL l) Z0 = some Z0) (h1 : ∀ S2 J, K (-1) S2 J)
    (h0 : ∀ S2 J x', Lsv x' → RX J x' → moT (sgC x') = l → moB (sgC x') = true → zZ J S2.length → (∃ T, S2 = S ++ T) → S2.length ≤ S.length + 10 → (∀ b, 491 ≤ b → b < S.length → J.1 b = I.1 b) → K 0 S2 J) : w_Law_replaced a l.length S I K := by
  have z300 := (sz_300 hs.1).1
  refine k_0 hR ?_
  have e1 : editR x 0 (zi (moT (sgC x)).length) = doC x [] true := by
    have h := edit_is (a := 0) (n := (moT (sgC x)).length) hs.1 (by omega)
    rw [hT, List.take_zero, Nat.zero_add, List.drop_length] at h
    exact h
  refine s_edit hs.1 hR (by omega) (fun J0 q0 r0 => ?_)
  rw [e1] at r0 ⊢
  intro P hP
  have hAl := hA.lt
  -- the pieces
  have key : ∀ (d j t : Nat) (v3 : Int32) (y : Sg) (S6 : List zC) (J : zI), d + t = l.length → (t = 150 * j ∨ t = l.length) → t ≤ l.length → j ≤ 5 → Lsv y → RX J y → sgT y = [] → sgE y ≤ 33 + j → moT (sgC y) = l.take t → (v3 = 0 ∨ v3 = 1) → (t = l.length → v3 = 0 ∧ moB (sgC y) = true) → zZ J S6.length → (∃ T, S6 = S ++ T) → S6.length ≤ S.length + j → (∀ b, 491 ≤ b → b < S.length → J.1 b = I.1 b) → P (zi t) v3 S6 (0 + j) (0 + 1000 * j) J := by
    intro d
    induction d using Nat.strongRecOn with
    | _ d ih =>
      intro j t v3 y S6 J hd htj htl hj5 hsy hRy hTy hEy hmt hv3 hfin hz6 hup hlen hkp
      have hA6 : AtL S6 J a l := hA.kp hup (hkp a ha hAl)
      have h6 : S.length ≤ S6.length := by
        obtain ⟨T, rfl⟩ := hup
        rw [List.length_append]
        omega
      refine hP _ _ _ _ _ _ ⟨hA6.1, ?_⟩
      by_cases hte : t = l.length
      · rw [if_pos (show zi l.length ≤ zi t from (zi_le (by omega) (by omega)).mpr (by omega))]
        obtain ⟨e0, hmb⟩ := hfin hte
        rw [e0]
        rw [hte, List.take_length] at hmt
        exact h0 S6 J y hsy hRy hmt hmb hz6 hup (by omega) hkp
      · rw [if_neg (show ¬ zi l.length ≤ zi t from nle_zi (by omega) (by omega))]
        have hn0 : ¬ v3 < 0 := by
          rcases hv3 with rfl | rfl
          · decide
          · decide
        rw [if_neg hn0]
        refine ⟨hA6.1, ⟨by omega, by omega⟩, ?_⟩
        have hto : ∃ w, w = min (t + 150) l.length ∧ (if (zi t + 150) < Int32.ofNat l.length then (zi t + 150) else Int32.ofNat l.length) = zi w := by
          rw [show zi t + 150 = zi (t + 150) from zi_add t 150]
          by_cases hw : t + 150 < l.length
          · exact ⟨t + 150, by omega, by rw [if_pos (show zi (t + 150) < zi l.length from (zi_lt (by omega) (by omega)).mpr hw)]⟩
          · exact ⟨l.length, by omega, by rw [if_neg (show ¬ zi (t + 150) < zi l.length from fun q => hw ((zi_lt (by omega) (by omega)).mp q))]⟩
        obtain ⟨w, hw, ew⟩ := hto
        rw [ew]
        refine s_part hA6 (show t ≤ w by omega) (by omega) (by omega) hz6 (fun S13 J14 n14 a14 => ?_)
        have hR14 : RX J14 y := n14.rx (by omega) hsy.1 hRy
        have hpl : ((l.drop t).take (w - t)).length = w - t := by rw [List.length_take, List.length_drop]; omega
        have hbp : BtL ((l.drop t).take (w - t)) := fun b hb' => hb b (List.mem_of_mem_drop (List.mem_of_mem_take hb'))
        refine s_tape hsy hR14 a14 (by omega) hbp (by rw [hTy, hpl]; show 0 + (w - t) + 19 ≤ 200; omega) (fun J16 q16 r16 => ?_)
        have hsx : Lsv (sgT y ++ (l.drop t).take (w - t), y.2) := tape_ls hsy (by rw [List.length_append, hTy, hpl]; show 0 + (w - t) ≤ 200; omega) (fun b hb' => by
          rw [hTy, List.nil_append] at hb'
          exact hbp b hb')
        generalize hxT : ((sgT y ++ (l.drop t).take (w - t), y.2) : Sg) = xT at r16 hsx
        have x2 : xT.2 = y.2 := by rw [← hxT]
        have xT1 : sgT xT = (l.drop t).take (w - t) := by
          rw [← hxT]
          show sgT y ++ _ = _
          rw [hTy, List.nil_append]
        have xC : sgC xT = sgC y := by
          rw [← hxT]
          rfl
        have xE : sgE xT = sgE y := by
          rw [← hxT]
          rfl
        have e2 : editR xT (zi t) 0 = doC xT (l.take w) true := by
          have h := edit_is (x := xT) (a := t) (n := 0) hsx.1 (by rw [xC, hmt, List.length_take]; omega)
          rw [xC, hmt, xT1, piece_is, show t + (w - t) = w by omega] at h
          exact h
        refine s_edit hsx.1 r16 (by omega) (fun J18 q18 r18 => ?_)
        rw [e2] at r18 ⊢
        have up13 : ∃ T, S13 = S ++ T := by
          obtain ⟨T, hT'⟩ := hup
          obtain ⟨U, hU⟩ := n14.1
          exact ⟨T ++ U, by rw [hU, hT', List.append_assoc]⟩
        have q1618 : eqQ Qcl J14 J18 := q16.tr q18
        have kp18 : ∀ b, 491 ≤ b → b < S.length → J18.1 b = I.1 b := fun b b1 b2 => by
          rw [← hkp b b1 b2, ← n14.cell (show b < S6.length by omega)]
          exact funext fun i => q1618.1 b i (fun u => by unfold Qcl at u; omega)
        have h13 := n14.len
        have hz18 : zZ J18 S13.length := cl_zZ n14.2.2.2 (by omega) q1618
        have hA18 : AtL S13 J18 a l := hA.kp up13 (kp18 a ha hAl)
        refine ⟨a14.1, fun v2 ev2 => ?_⟩
        rw [hpl, show zi t + Int32.ofNat (w - t) = zi (t + (w - t)) from zi_add _ _, show t + (w - t) = w by omega] at ev2
        subst ev2
        have hbw : BtL (l.take w) := fun b hb' => hb b (List.mem_of_mem_take hb')
        by_cases hr : refu xT (l.take w)
        · rw [doC_ref hr]
          refine hP _ _ _ _ _ _ ⟨hA18.1, ?_⟩
          split
          · exact h1 _ _
          · rw [if_pos (show (-1 : Int32) < 0 by decide)]
            exact h1 _ _
        · obtain ⟨f1, f2, f3, f4, -⟩ := edit_full hsx.1 hsx.2.1 (by omega) hbw hr
          obtain ⟨ls, eE⟩ := doC_ls (bt := true) hsx hbw (by omega)
          have h := ih (l.length - w) (by omega) (j + 1) w (doC xT (l.take w) true).1 (doC xT (l.take w) true).2 S13 J18 (by omega) (by omega) (by omega) (by omega) ls r18 f3 (by omega) f2 (by
            rw [f1]
            split
            · exact Or.inl rfl
            · exact Or.inr rfl) (fun ew => by
            have e0 : (doC xT (l.take w) true).1 = 0 := by
              have hlw : l.take w = l := take_all (by omega)
              have hok : txOk l := by
                have := ls.1.2.2.2.2.2.2.2.1.1
                rw [f2, hlw] at this
                exact this
              rw [f1, hlw, if_pos ((wrong_is hok).mpr hg)]
            exact ⟨e0, f4.mpr e0⟩) hz18 up13 (by have := n14.2.1; omega) kp18
          rw [show 0 + (j + 1) = 0 + j + 1 by omega, show 0 + 1000 * (j + 1) = 0 + 1000 * j + 1000 by omega] at h
          exact h
  have kp0 : ∀ b, 491 ≤ b → b < S.length → J0.1 b = I.1 b := fun b b1 b2 => funext fun i => q0.1 b i (fun u => by unfold Qcl at u; omega)
  have hA0 : AtL S J0 a l := hA.kp ⟨[], (List.append_nil S).symm⟩ (kp0 a ha hAl)
  by_cases hr : refu x []
  · rw [doC_ref hr]
    refine hP _ _ _ _ _ _ ⟨hA0.1, ?_⟩
    split
    · exact h1 _ _
    · rw [if_pos (show (-1 : Int32) < 0 by decide)]
      exact h1 _ _
  · have hb0 : BtL ([] : List Int32) := fun b hb' => by cases hb'
    obtain ⟨f1, f2, f3, f4, -⟩ := edit_full hs.1 hs.2.1 (by omega) hb0 hr
    obtain ⟨ls, eE⟩ := doC_ls (bt := true) hs hb0 (by omega)
    exact key l.length 0 0 _ _ S J0 rfl (Or.inl rfl) (Nat.zero_le _) (by omega) ls r0 f3 (by omega) f2 (by
      rw [f1]
      split
      · exact Or.inl rfl
      · exact Or.inr rfl) (fun ew => by
      have e0 : (doC x [] true).1 = 0 := by
        have hlw : ([] : List Int32) = l := by
          cases l with
          | nil => rfl
          | cons b l' => exact absurd ew (by rw [List.length_cons]; omega)
        have hok : txOk [] := by
          have := ls.1.2.2.2.2.2.2.2.1.1
          rw [f2] at this
          exact this
        rw [f1, if_pos ((wrong_is hok).mpr (by rw [hlw]; exact hg))]
      exact ⟨e0, f4.mpr e0⟩) (cl_zZ hz h491 q0) ⟨[], (List.append_nil S).symm⟩ (by omega) kp0
