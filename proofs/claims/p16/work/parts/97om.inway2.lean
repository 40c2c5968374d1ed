/-! in the way: what is found out at a glance -/
def BaX (I : zI) (l : List Nat) : Prop := ∀ j, j ≤ l.length → I.1 108 j = Int32.ofInt (wL (l.take j))
theorem BaX.kp {I J : zI} {l : List Nat} (h : BaX I l) (e : ∀ j, J.1 108 j = I.1 108 j) : BaX J l := fun j hj => (e j).trans (h j hj)
theorem wS_at {y : Nat} : wS (5 + y) = if y = 6 then 1 else if y = 7 then -1 else if y = 8 then 1000 else if y = 9 then -1000 else 0 := by
  unfold wS
  by_cases c6 : y = 6
  · rw [if_pos (by omega), if_pos c6]
  rw [if_neg (by omega), if_neg c6]
  by_cases c7 : y = 7
  · rw [if_pos (by omega), if_pos c7]
  rw [if_neg (by omega), if_neg c7]
  by_cases c8 : y = 8
  · rw [if_pos (by omega), if_pos c8]
  rw [if_neg (by omega), if_neg c8]
  by_cases c9 : y = 9
  · rw [if_pos (by omega), if_pos c9]
  rw [if_neg (by omega), if_neg c9]
def Qwe (a j : Nat) : Prop := a = 108
theorem t_weigh {tk : Nat} {l : List Nat} {I : zI} {K : zI → Prop} (hW : KdL l) (hl : l.length ≤ 100) (hX : TkX I tk l) (hK : ∀ J, eqQ Qwe I J → BaX J l → K J) : w_Adviser_weigh tk I K := by
  intro P4 h4
  have xw : ∀ J, eqQ Qwe I J → TkX J tk l := fun J q => hX.ad (q.mono (fun a j h => by unfold Qwe at h; unfold Qad; omega))
  have main : ∀ (d i : Nat) (J : zI), i + d = l.length → eqQ Qwe I J → (∀ j, j < i → J.1 108 j = Int32.ofInt (wL (l.take j))) → P4 (Int32.ofInt (wL (l.take i))) (zi i) J := by
    intro d
    induction d with
    | zero =>
      intro i J hid q hB
      refine h4 _ _ _ ?_
      rw [(xw J q).2.1, if_pos ((zi_le (by omega) (by omega)).mpr (by omega))]
      refine (w_set (by decide)).mpr ?_
      rw [rs_in (by decide) (show l.length < 101 by omega)]
      refine hK _ (q.zu rfl) (fun j hj => ?_)
      by_cases u : j = l.length
      · rw [u, show (107 + 1 : Nat) = 108 from rfl, zu_self, show i = l.length by omega]
      · rw [show (107 + 1 : Nat) = 108 from rfl, zu_at, if_neg (by omega)]
        exact hB j (by omega)
    | succ d ih =>
      intro i J hid q hB
      refine h4 _ _ _ ?_
      rw [(xw J q).2.1, if_neg (nle_zi (by omega) (by omega))]
      refine (w_set (by decide)).mpr ?_
      rw [rs_in (by decide) (show i < 101 by omega)]
      have hat := getD_at (l := l) (j := i) (by omega)
      generalize l.getD i 0 = y at hat
      obtain ⟨w1, w2⟩ := hW i y hat
      have q2 : eqQ Qwe I (zu J (107 + 1) i (Int32.ofInt (wL (l.take i)))) := q.zu rfl
      refine (w_get (by decide)).mpr ?_
      rw [rg_in (by decide) (show i < 100 by omega), show (zu J (107 + 1) i (Int32.ofInt (wL (l.take i)))).1 (tk + 1 + 1) i = zi y from (xw _ q2).2.2.1 i y hat]
      intro P90 h90
      have eS : wL (l.take (i + 1)) = wL (l.take i) + wS (5 + y) := by
        rw [take_snoc hat, wL_app]
        show _ + (wS (5 + y) + 0) = _
        rw [Int.add_zero]
      rw [wS_at] at eS
      have nx : ∀ v : Int32, v = Int32.ofInt (wL (l.take (i + 1))) → P90 v := fun v ev => h90 v (fun v' ev' => by
        rw [ev', zi_succ, ev]
        refine ih (i + 1) _ (by omega) q2 (fun j hj => ?_)
        rw [show (107 + 1 : Nat) = 108 from rfl]
        by_cases u : j = i
        · rw [u, zu_self]
        · rw [zu_at, if_neg (by omega)]
          exact hB j (by omega))
      by_cases c6 : y = 6
      · rw [if_pos c6] at eS
        rw [if_pos (show zi y = 6 by rw [c6]; rfl)]
        intro v ev
        exact nx v (by rw [ev, eS, Int32.ofInt_add]; rfl)
      rw [if_neg c6] at eS
      rw [if_neg (show ¬ zi y = 6 from zi_ne (b := 6) (by omega) (by decide) c6)]
      by_cases c7 : y = 7
      · rw [if_pos c7] at eS
        rw [if_pos (show zi y = 7 by rw [c7]; rfl)]
        intro v ev
        exact nx v (by rw [ev, eS, Int32.ofInt_add]; rfl)
      rw [if_neg c7] at eS
      rw [if_neg (show ¬ zi y = 7 from zi_ne (b := 7) (by omega) (by decide) c7)]
      by_cases c8 : y = 8
      · rw [if_pos c8] at eS
        rw [if_pos (show zi y = 8 by rw [c8]; rfl)]
        intro v ev
        exact nx v (by rw [ev, eS, Int32.ofInt_add]; rfl)
      rw [if_neg c8] at eS
      rw [if_neg (show ¬ zi y = 8 from zi_ne (b := 8) (by omega) (by decide) c8)]
      by_cases c9 : y = 9
      · rw [if_pos c9] at eS
        rw [if_pos (show zi y = 9 by rw [c9]; rfl)]
        intro v ev
        exact nx v (by rw [ev, eS, Int32.ofInt_add]; rfl)
      rw [if_neg c9] at eS
      rw [if_neg (show ¬ zi y = 9 from zi_ne (b := 9) (by omega) (by decide) c9)]
      exact nx _ (by rw [eS, Int.add_zero])
  refine main l.length 0 I (by omega) eqQ.rf (fun j hj => absurd hj (Nat.not_lt_zero _))
/-- one that does not go with the one behind it, or none -/
def MisI (l : List Nat) (v : Int32) : Prop := v = -1 ∨ ∃ q, q + 1 < l.length ∧ v = zi q ∧ ftN (l.getD q 0) (l.getD (q + 1) 0) = false
theorem t_lastMisfit {tk : Nat} {l : List Nat} {I : zI} {K : Int32 → Prop} (hW : KdL l) (hl : 1 ≤ l.length ∧ l.length ≤ 100) (hX : TkX I tk l) (hK : ∀ v, MisI l v → K v) : w_Adviser_lastMisfit tk I K := by
  obtain ⟨-, x2, x3, -⟩ := hX
  intro v1 ev1 P7 h7
  rw [x2] at ev1
  have main : ∀ i, i + 1 < l.length + 1 → P7 (zi i - 1) := by
    intro i
    induction i with
    | zero =>
      intro _
      refine h7 _ ?_
      rw [if_pos (by decide)]
      exact hK _ (Or.inl rfl)
    | succ i ih =>
      intro hi
      refine h7 _ ?_
      rw [show zi (i + 1) - 1 = zi i from zi_sub (b := 1) (Nat.le_add_left 1 i), if_neg (zi_pos (by omega))]
      have g1 := getD_at (l := l) (j := i) (by omega)
      by_cases hlast : i + 1 < l.length
      · have g2 := getD_at (l := l) (j := i + 1) hlast
        refine (w_get (by decide)).mpr ?_
        rw [rg_in (by decide) (show i < 100 by omega), show I.1 (tk + 1 + 1) i = zi (l.getD i 0) from x3 i _ g1, zi_succ]
        refine (w_get (by decide)).mpr ?_
        rw [rg_in (by decide) (show i + 1 < 100 by omega), show I.1 (tk + 1 + 1) (i + 1) = zi (l.getD (i + 1) 0) from x3 _ _ g2]
        refine t_fits (by have := (hW _ _ g1).1; omega) ?_
        cases hf : ftN (l.getD i 0) (l.getD (i + 1) 0) with
        | false =>
          rw [if_pos (show b01 false = 0 from rfl)]
          exact hK _ (Or.inr ⟨i, hlast, rfl, hf⟩)
        | true =>
          rw [if_neg (by decide)]
          intro v ev
          rw [ev, ← Int32.sub_eq_add_neg]
          exact ih (by omega)
      · omega
  have e : v1 = zi (l.length - 1) - 1 := by
    rw [ev1, show zi (l.length - 1) = zi l.length - 1 from (zi_sub (b := 1) hl.1).symm, Int32.sub_sub]
    rfl
  rw [e]
  exact main _ (by omega)
theorem t_couldGo {tk a m : Nat} {l : List Nat} {I : zI} {K : Int32 → Prop} (hW : KdL l) (hl : l.length ≤ 100) (hX : TkX I tk l) (hB : BaX I l) (hm : a + m < l.length) (h1 : K 1) (h0 : wyP l m a = false → K 0) : w_Adviser_couldGo tk (zi a) (zi m) I K := by
  obtain ⟨-, x2, x3, -⟩ := hX
  unfold w_Adviser_couldGo
  rw [zi_add, x2]
  refine (w_get (by decide)).mpr ?_
  rw [rg_in (by decide) (show a + m < 101 by omega), show I.1 (107 + 1) (a + m) = _ from hB (a + m) (by omega)]
  refine (w_get (by decide)).mpr ?_
  rw [rg_in (by decide) (show a < 101 by omega), show I.1 (107 + 1) a = _ from hB a (by omega)]
  refine (w_get (by decide)).mpr ?_
  rw [rg_in (by decide) (show l.length < 101 by omega), show I.1 (107 + 1) l.length = _ from hB l.length (Nat.le_refl _), List.take_length]
  intro P38 h38
  have g2 := getD_at (l := l) (j := a + m) hm
  have rest : ∀ t : Int32, (t = 0 → wyP l m a = false) → P38 t := by
    intro t ht
    refine h38 t ?_
    intro P59 h59
    have fin : ∀ k, k < 13 → k = (if a = 0 then 12 else l.getD (a - 1) 0) → P59 (zi k) := by
      intro k hk ek
      refine h59 _ ?_
      by_cases c : t = 0
      · rw [if_pos c]
        exact h0 (ht c)
      · rw [if_neg c]
        refine (w_get (by decide)).mpr ?_
        rw [rg_in (by decide) (show a + m < 100 by omega), show I.1 (tk + 1 + 1) (a + m) = _ from x3 _ _ g2]
        refine t_fits hk ?_
        cases hf : ftN k (l.getD (a + m) 0) with
        | false =>
          rw [if_pos (show b01 false = 0 from rfl)]
          rw [ek] at hf
          exact h0 (wyP_fit hW hm hf)
        | true =>
          rw [if_neg (by decide)]
          exact h1
    by_cases c : a = 0
    · rw [if_pos (show zi a = 0 by rw [c]; rfl)]
      exact fin 12 (by decide) (by rw [if_pos c])
    · rw [if_neg (show ¬ zi a = 0 from zi_ne (b := 0) (by omega) (by decide) c), show zi a - 1 = zi (a - 1) from zi_sub (b := 1) (by omega)]
      have g1 := getD_at (l := l) (j := a - 1) (by omega)
      refine (w_get (by decide)).mpr ?_
      rw [rg_in (by decide) (show a - 1 < 100 by omega), show I.1 (tk + 1 + 1) (a - 1) = _ from x3 _ _ g1]
      exact fin _ (by have := (hW _ _ g1).1; omega) (by rw [if_neg c])
  by_cases c : Int32.ofInt (wL (l.take (a + m))) - Int32.ofInt (wL (l.take a)) = Int32.ofInt (wL l)
  · rw [if_pos c]
    exact rest 1 (fun u => absurd u (by decide))
  · rw [if_neg c]
    refine rest 0 (fun _ => ?_)
    cases hp : wyP l m a with
    | false => rfl
    | true =>
      refine absurd ?_ c
      have hb := wyP_bal hW hm hp
      rw [show wL (l.take (a + m)) = wL l + wL (l.take a) by omega, Int32.ofInt_add, Int32.add_sub_cancel]
theorem t_findWay {tk : Nat} {l : List Nat} {I : zI} {K : zI → Prop} (hW : KdL l) (hl : 1 ≤ l.length ∧ l.length ≤ 100) (hX : TkX I tk l) (hK : ∀ J, eqQ Qad I J → J.1 100 3 = resA (wyM l (l.length - 1) 1) → J.1 100 4 = resB (wyM l (l.length - 1) 1) → K J) : w_Adviser_findWay tk I K := by
  refine t_weigh hW hl.2 hX (fun I1 q1w ba1 => ?_)
  have q1 : eqQ Qad I I1 := q1w.mono (fun a j h => by unfold Qwe at h; unfold Qad; omega)
  refine t_lastMisfit hW hl (hX.ad q1) (fun mf hmf => ?_)
  intro P12 h12
  have Qbe : ∀ {A B : zI}, (eqQ (Qtk 101) A B ∨ eqQ (Qtk 104) A B) → BaX A l → BaX B l := fun q hb => hb.kp (fun j => by
    rcases q with q | q
    · exact q.1 108 j (by unfold Qtk; omega)
    · exact q.1 108 j (by unfold Qtk; omega))
  have outer : ∀ (d m : Nat) (J : zI), m + d = l.length → 1 ≤ m → eqQ Qad I J → BaX J l → (∀ L, eqQ Qad I L → L.1 100 3 = resA (wyM l d m) → L.1 100 4 = resB (wyM l d m) → K L) → P12 (zi m) J := by
    intro d
    induction d with
    | zero =>
      intro m J hmd h1 q hb hK
      refine h12 _ _ ?_
      rw [(hX.ad q).2.1, if_pos ((zi_le (by omega) (by omega)).mpr (by omega))]
      exact t_found (fun L qL e3 e4 => hK L (q.tr qL) e3 e4)
    | succ d ih =>
      intro m J hmd h1 q hb hK
      refine h12 _ _ ?_
      rw [(hX.ad q).2.1, if_neg (nle_zi (by omega) (by omega))]
      refine t_begin (fun A qA trA => ?_)
      have q2 := q.tr (Qtk_ad1 qA)
      have hb2 := Qbe (Or.inl qA) hb
      intro P33 h33
      have hK1 : ∀ L, eqQ Qad I L → L.1 100 3 = resA (match wyA l m (l.length - m) 0 with
          | some a => some (a, m)
          | none => wyM l d (m + 1)) → L.1 100 4 = resB (match wyA l m (l.length - m) 0 with
          | some a => some (a, m)
          | none => wyM l d (m + 1)) → K L := hK
      -- none of this length any more
      have stop : ∀ (v : Int32) (a : Nat) (B : zI), eqQ Qad I B → BaX B l → (v = 0 ∨ l.length ≤ a + m) → a ≤ l.length → (∀ L, eqQ Qad I L → L.1 100 3 = resA (wyM l d (m + 1)) → L.1 100 4 = resB (wyM l d (m + 1)) → K L) → P33 v (zi a) B := by
        intro v a B qB hbB hva ha hK2
        refine h33 _ _ _ ?_
        intro P126 h126
        have fin : P126 := h126 (fun v' ev => by
          rw [ev, zi_succ]
          exact ih (m + 1) B (by omega) (by omega) qB hbB hK2)
        by_cases c : v = 0
        · rw [if_pos c]
          exact fin
        · rw [if_neg c, (hX.ad qB).2.1, zi_add, if_pos ((zi_le (by omega) (by omega)).mpr (by
            rcases hva with u | u
            · exact absurd u c
            · exact u))]
          exact fin
      have inner : ∀ (e a : Nat) (st : List (Nat × Nat)) (B : zI), a + m + e = l.length → eqQ Qad I B → BaX B l → TrX B 101 st → rnF (l.take a) [(0, 0)] = some st → LV a st → (∀ L, eqQ Qad I L → L.1 100 3 = resA (match wyA l m e a with
          | some a => some (a, m)
          | none => wyM l d (m + 1)) → L.1 100 4 = resB (match wyA l m e a with
          | some a => some (a, m)
          | none => wyM l d (m + 1)) → K L) → P33 1 (zi a) B := by
        intro e
        induction e with
        | zero =>
          intro a st B hae qB hbB tr hr hv hK2
          exact stop 1 a B qB hbB (Or.inr (by omega)) (by omega) hK2
        | succ e ih2 =>
          intro a st B hae qB hbB tr hr hv hK2
          refine h33 _ _ _ ?_
          intro P126 _
          rw [if_neg (by decide), (hX.ad qB).2.1, zi_add, if_neg (nle_zi (by omega) (by omega))]
          have hat := getD_at (l := l) (j := a) (by omega)
          generalize l.getD a 0 = y at hat
          obtain ⟨w1, w2⟩ := hW a y hat
          have y10 : y ≠ 10 := fun u => by
            have := w2.mp u
            omega
          have hlen : st.length ≤ 299 := by
            have := hv.2.2.2
            omega
          intro P102 h102
          have nx : ∀ C, eqQ Qad I C → BaX C l → TrX C 101 st → wyP l m a = false → P102 C := by
            intro C qC hbC trC hf
            have hK3 : ∀ L, eqQ Qad I L → L.1 100 3 = resA (match wyA l m e (a + 1) with
                | some a => some (a, m)
                | none => wyM l d (m + 1)) → L.1 100 4 = resB (match wyA l m e (a + 1) with
                | some a => some (a, m)
                | none => wyM l d (m + 1)) → K L := fun L qL m1 m2 => hK2 L qL (by
              show L.1 100 3 = resA (match (if wyP l m a = true then some a else wyA l m e (a + 1)) with
                | some a => some (a, m)
                | none => wyM l d (m + 1))
              rw [hf, if_neg (by decide)]
              exact m1) (by
              show L.1 100 4 = resB (match (if wyP l m a = true then some a else wyA l m e (a + 1)) with
                | some a => some (a, m)
                | none => wyM l d (m + 1))
              rw [hf, if_neg (by decide)]
              exact m2)
            refine h102 C ?_
            refine (w_get (by decide)).mpr ?_
            rw [rg_in (by decide) (show a < 100 by omega), show C.1 (tk + 1 + 1) a = zi y from (hX.ad qC).2.2.1 a y hat]
            refine t_accepts trC hv (by omega) w1 (fun L qL trL v ev => ?_)
            rw [ev, zi_succ, acV_no y10]
            have q5 := qC.tr (Qtk_ad1 qL)
            have hb5 := Qbe (Or.inl qL) hbC
            cases ha : acF y 4 st with
            | none =>
              have hn : rnF (l.take (a + 1)) [(0, 0)] = none := by
                rw [take_snoc hat, rnF_app, hr]
                show (acF y 4 st).bind (rnF []) = none
                rw [ha]
                rfl
              have e0 : ∀ f b, a + 1 ≤ b → b + f ≤ l.length → wyA l m f b = none := by
                intro f
                induction f with
                | zero => exact fun _ _ _ => rfl
                | succ f ihf =>
                  intro b hb1 hb2
                  show (if wyP l m b = true then some b else wyA l m f (b + 1)) = none
                  rw [wyP_none hW (by omega) hn hb1, if_neg (by decide)]
                  exact ihf (b + 1) (by omega) (by omega)
              rw [e0 e (a + 1) (Nat.le_refl _) (by omega)] at hK3
              exact stop _ (a + 1) L q5 hb5 (Or.inl rfl) (by omega) hK3
            | some st' =>
              have h1' := ((ac_run (kd := fun _ => y) (i := 0) rfl w1 4 a st hv hv.top.2.1).1 st' ha).1
              refine ih2 (a + 1) st' L (by omega) q5 hb5 (trL st' ha) ?_ h1' hK3
              rw [take_snoc hat, rnF_app, hr]
              show (acF y 4 st).bind (rnF []) = some st'
              rw [ha]
              rfl
          by_cases cm : zi (a + m) ≤ mf
          · rw [if_pos cm]
            refine nx B qB hbB tr ?_
            rcases hmf with u | ⟨q, u1, u2, u3⟩
            · rw [u] at cm
              have := Int32.le_trans (zi_ge (show a + m < 2147483648 by omega)) cm
              exact absurd this (by decide)
            · rw [u2] at cm
              exact wyP_mis hW u1 ((zi_le (by omega) (by omega)).mp cm) u3
          · rw [if_neg cm]
            refine t_couldGo hW hl.2 (hX.ad qB) hbB (by omega) ?_ (fun hf => ?_)
            · rw [if_neg (by decide)]
              refine t_trialCopy (by omega) hv.1 hlen tr (fun C qC trC => ?_)
              have q4 := qB.tr (Qtk_ad4 qC)
              refine t_acceptsFrom (Or.inr rfl) hW hl.2 (hX.ad q4) trC hv (by omega) (by omega) (fun D qD => ?_)
              have q5 := q4.tr (Qtk_ad4 qD)
              rw [← wyP_at hW (by omega) hr]
              cases hp : wyP l m a with
              | false =>
                rw [if_pos (show b01 false = 0 from rfl)]
                exact nx D q5 (Qbe (Or.inr qD) (Qbe (Or.inr qC) hbB)) ((tr.o4 qC).o4 qD) hp
              | true =>
                rw [if_neg (by decide)]
                refine t_found (fun L qL m1 m2 => hK2 L (q5.tr qL) ?_ ?_)
                · show L.1 100 3 = resA (match (if wyP l m a = true then some a else wyA l m e (a + 1)) with
                    | some a => some (a, m)
                    | none => wyM l d (m + 1))
                  rw [hp, if_pos rfl]
                  exact m1
                · show L.1 100 4 = resB (match (if wyP l m a = true then some a else wyA l m e (a + 1)) with
                    | some a => some (a, m)
                    | none => wyM l d (m + 1))
                  rw [hp, if_pos rfl]
                  exact m2
            · rw [if_pos rfl]
              exact nx B qB hbB tr hf
      refine inner (l.length - m) 0 [(0, 0)] A (by omega) q2 hb2 trA ?_ LV.st0 hK1
      rw [List.take_zero]
      rfl
  exact outer (l.length - 1) 1 I1 (by omega) (Nat.le_refl 1) q1 ba1 hK
/-- tokens tried without some -/
theorem u_cutTry {b m : Nat} {l : List Nat} {I : zI} {K : zI → Prop} (h15 : I.1 491 15 = zi l.length) (hl : l.length ≤ 100) (h1 : ∀ i, i < l.length → I.1 501 i = zi (l.getD i 0)) (hb : b + m ≤ l.length) (hK : ∀ J, eqQ Qlt I J → (∀ (q y : Nat), (l.take b ++ l.drop (b + m))[q]? = some y → J.1 520 q = zi y) → K J) : w_M_laysTry (zi b) (zi m) (-1) (-1) I K := by
  have eL := ly_cut (kk := 4294967295) (show l.length ≤ 1000 by omega) hb
  refine u_laysTry (kk := 4294967295) (kl := fun i => l.getD i 0) h15 hl h1 (by decide) (fun r hr => ?_) (fun J qJ hJ => hK J qJ ?_)
  · rw [eL r hr, List.length_append, List.length_take, List.length_take, List.length_drop]
    omega
  · rw [eL _ (Nat.le_refl _), Nat.min_eq_right (by omega), List.take_of_length_le (show (l.drop (b + m)).length ≤ l.length - (b + m) by rw [List.length_drop]; exact Nat.le_refl _)] at hJ
    exact hJ
def vWay (x : Sg) (a : Int32) : Int32 := match ixI 2 a with
  | some j => if moB (sgC x) = true then -2 else if j = 0 then resA (wyM (kdsT x) ((kdsT x).length - 1) 1) else resB (wyM (kdsT x) ((kdsT x).length - 1) 1)
  | none => -1
theorem t_inTheWay {x : Sg} {a : Int32} {I : zI} {K : Int32 → zI → Prop} (hv : Iv x) (hR : RX I x) (hK : ∀ J, eqQ Qcl I J → RX J x → K (vWay x a) J) : w_Desk_inTheWay a I K := by
  obtain ⟨k1, k2, k3⟩ := kdsT_ok hv
  unfold w_Desk_inTheWay
  unfold vWay at hK
  intro P11 h11
  have yes : ∀ j : Nat, j < 2 → a = zi j → P11 := fun j hj ea => by
    refine h11 ?_
    rw [ea, ixI_some (by decide) hj] at hK
    dsimp only at hK
    obtain ⟨s, hA⟩ := hR.now
    refine s_now hA.1 hA.2.1 ?_
    rw [show I.1 (zmom s) 3 = b01 (moB (sgC x)) from hA.2.2.2.2.2.1]
    cases hb : moB (sgC x) with
    | true =>
      rw [hb, if_pos rfl] at hK
      rw [if_neg (by decide)]
      exact hK I eqQ.rf hR
    | false =>
      rw [hb, if_neg (by decide)] at hK
      rw [if_pos (show b01 false = 0 from rfl)]
      refine t_findWay k1 ⟨k2, k3⟩ (kdsT_X hA) (fun J qJ m1 m2 => ?_)
      have hK2 := hK J (Qad_cl qJ) (hR.ad hv qJ)
      rw [ea]
      by_cases c : j = 0
      · rw [if_pos c] at hK2
        rw [if_pos (by rw [c]; rfl), m1]
        exact hK2
      · rw [if_neg c] at hK2
        rw [if_neg (show ¬ zi j = 0 from zi_ne (b := 0) (by omega) (by decide) c), m2]
        exact hK2
  by_cases c0 : a = 0
  · rw [if_pos c0]
    exact yes 0 (by decide) c0
  rw [if_neg c0]
  by_cases c1 : a = 1
  · rw [if_pos c1]
    exact yes 1 (by decide) c1
  rw [if_neg c1]
  have : ixI 2 a = none := by
    rcases ix_cs (n := 2) (by decide) a with ⟨k, hk, e, e2⟩ | ⟨e, -⟩
    · match k, hk with
      | 0, _ => exact absurd e c0
      | 1, _ => exact absurd e c1
    · exact e
  rw [this] at hK
  exact hK I eqQ.rf hR
theorem u_inTheWay {x : Sg} {a : Int32} {I : zI} {K : Int32 → zI → Prop} (hv : Iv x) (hR : RM I x) (hK : ∀ J, eqQ Qmo I J → RM J x → K (vWay x a) J) : w_M_inTheWay a I K := by
  obtain ⟨k1, k2, k3⟩ := kdsT_ok hv
  have done : ∀ J, eqQ Qwy I J → K (vWay x a) J := fun J q => hK J (Qwy_mo q) (hR.wy hv q)
  unfold w_M_inTheWay
  unfold vWay at done
  refine u_in (n := 2) (by decide) (fun j hj ea e2 => ?_) (fun e2 => ?_)
  · rw [e2] at done
    dsimp only at done
    rw [if_neg (by decide), show I.1 491 8 = b01 (moB (sgC x)) from hR.2.2.2.2.2.2.2.1.2.2.2.2.2.2.2.2.1]
    cases hb : moB (sgC x) with
    | true =>
      rw [hb, if_pos rfl] at done
      rw [if_neg (by decide)]
      exact done I eqQ.rf
    | false =>
      rw [hb, if_neg (by decide)] at done
      rw [if_pos (show b01 false = 0 from rfl)]
      intro P23 h23
      have outer : ∀ (d m : Nat) (J : zI), m + d = (kdsT x).length → 1 ≤ m → eqQ Qwy I J → (∀ L, eqQ Qwy I L → K (if j = 0 then resA (wyM (kdsT x) d m) else resB (wyM (kdsT x) d m)) L) → P23 (zi m) J := by
        intro d
        induction d with
        | zero =>
          intro m J hmd h1 q hK
          refine h23 _ _ ?_
          rw [(kdsT_M hv (hR.wy hv q)).1, if_pos ((zi_le (by omega) (by omega)).mpr (by omega))]
          have := hK J q
          by_cases c : j = 0
          · rw [if_pos c] at this
            exact this
          · rw [if_neg c] at this
            exact this
        | succ d ih =>
          intro m J hmd h1 q hK
          refine h23 _ _ ?_
          rw [(kdsT_M hv (hR.wy hv q)).1, if_neg (nle_zi (by omega) (by omega))]
          intro P33 h33
          have inner : ∀ (e b : Nat) (A : zI), b + m + e = (kdsT x).length → eqQ Qwy I A → (∀ L, eqQ Qwy I L → K (if j = 0 then resA (match wyA (kdsT x) m e b with
              | some a => some (a, m)
              | none => wyM (kdsT x) d (m + 1)) else resB (match wyA (kdsT x) m e b with
              | some a => some (a, m)
              | none => wyM (kdsT x) d (m + 1))) L) → P33 (zi b) A := by
            intro e
            induction e with
            | zero =>
              intro b A hbe q2 hK2
              refine h33 _ _ ?_
              rw [(kdsT_M hv (hR.wy hv q2)).1, zi_add, if_pos ((zi_le (by omega) (by omega)).mpr (by omega))]
              intro v ev
              rw [ev, zi_succ]
              exact ih (m + 1) A (by omega) (by omega) q2 hK2
            | succ e ih2 =>
              intro b A hbe q2 hK2
              refine h33 _ _ ?_
              obtain ⟨n1, n2⟩ := kdsT_M hv (hR.wy hv q2)
              rw [n1, zi_add, if_neg (nle_zi (by omega) (by omega))]
              obtain ⟨p1, p2⟩ := k1.cut (a := b) (m := m) (by omega)
              have lays : ∀ K' : zI → Prop, (∀ B, eqQ Qlt A B → (∀ (q y : Nat), ((kdsT x).take b ++ (kdsT x).drop (b + m))[q]? = some y → B.1 520 q = zi y) → K' B) → w_M_laysTry (zi b) (zi m) (-1) (-1) A K' := fun K' hK' => u_cutTry n1 k3 n2 (by omega) hK'
              refine lays _ (fun B qB hB => ?_)
              refine u_wrong p1 (fun u => by
                rw [u] at p2
                change 0 = _ at p2
                omega) (by omega) hB (fun C r qC hr => ?_)
              have q4 := (q2.tr (Qlt_wy qB)).tr (Qwr_wy qC)
              have hr2 : r < 0 ↔ wyP (kdsT x) m b = true := hr
              cases hm : wyP (kdsT x) m b with
              | true =>
                rw [if_neg (fun u => absurd (hr2.mpr hm) (Int32.not_lt.mpr u))]
                have hK3 : K (if j = 0 then resA (match (if wyP (kdsT x) m b = true then some b else wyA (kdsT x) m e (b + 1)) with
                  | some a => some (a, m)
                  | none => wyM (kdsT x) d (m + 1)) else resB (match (if wyP (kdsT x) m b = true then some b else wyA (kdsT x) m e (b + 1)) with
                  | some a => some (a, m)
                  | none => wyM (kdsT x) d (m + 1))) C := hK2 C q4
                rw [hm, if_pos rfl] at hK3
                rw [ea]
                by_cases c : j = 0
                · rw [if_pos c] at hK3
                  rw [if_pos (by rw [c]; rfl)]
                  exact hK3
                · rw [if_neg c] at hK3
                  rw [if_neg (show ¬ zi j = 0 from zi_ne (b := 0) (by omega) (by decide) c)]
                  exact hK3
              | false =>
                rw [if_pos (Int32.not_lt.mp (fun u => by
                  have := hr2.mp u
                  rw [hm] at this
                  cases this))]
                intro v ev
                rw [ev, zi_succ]
                refine ih2 (b + 1) C (by omega) q4 (fun L qL => ?_)
                have hK3 : K (if j = 0 then resA (match (if wyP (kdsT x) m b = true then some b else wyA (kdsT x) m e (b + 1)) with
                  | some a => some (a, m)
                  | none => wyM (kdsT x) d (m + 1)) else resB (match (if wyP (kdsT x) m b = true then some b else wyA (kdsT x) m e (b + 1)) with
                  | some a => some (a, m)
                  | none => wyM (kdsT x) d (m + 1))) L := hK2 L qL
                rw [hm, if_neg (show ¬ (false = true) by decide)] at hK3
                exact hK3
          exact inner ((kdsT x).length - m) 0 J (by omega) q hK
      exact outer ((kdsT x).length - 1) 1 I (by omega) (Nat.le_refl 1) eqQ.rf done
  · rw [e2] at done
    rw [if_pos rfl]
    exact done I eqQ.rf
