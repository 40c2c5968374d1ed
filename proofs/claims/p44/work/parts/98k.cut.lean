/-! ===== tokens, as the law cuts them ===== -/
theorem s_letter {c : Int32} {S : List zC} {I : zI} {K : Int32 → Prop} (h : K (b01 (isL c))) : w_Law_letter c S I K := by
  unfold w_Law_letter
  unfold isL b01 at h
  by_cases h1 : c < 97
  · simpa [h1] using h
  · by_cases h2 : 122 < c
    · simpa [h1, h2] using h
    · simpa [h1, h2] using h
theorem s_digit {c : Int32} {S : List zC} {I : zI} {K : Int32 → Prop} (h : K (b01 (isD c))) : w_Law_digit c S I K := by
  unfold w_Law_digit
  unfold isD b01 at h
  by_cases h1 : c < 48
  · simpa [h1] using h
  · by_cases h2 : 57 < c
    · simpa [h1, h2] using h
    · simpa [h1, h2] using h
theorem isLD {c : Int32} (h : isL c = true) : isD c = false := by
  unfold isL at h
  unfold isD
  by_cases h1 : c < 97
  · simp [h1] at h
  · have h2 : 57 < c := by
      have := Int32.not_lt.mp h1
      exact Int32.lt_of_lt_of_le (by decide : (57 : Int32) < 97) this
    simp [h2]
/-- how far a token's run goes on from e, its first byte being c -/
def wG (t : Nat → Int32) (n : Nat) (c : Int32) (e : Nat) : Nat := if isL c = true then runN isL t (n - e) e else if isD c = true then runN isD t (n - e) e else 0
theorem runN_out {p : Int32 → Bool} {t : Nat → Int32} {n e : Nat} (h : n ≤ e) : runN p t (n - e) e = 0 := by
  rw [show n - e = 0 by omega]
  rfl
theorem runN_in {p : Int32 → Bool} {t : Nat → Int32} {n e : Nat} (h : e < n) : runN p t (n - e) e = if p (t e) then runN p t (n - (e + 1)) (e + 1) + 1 else 0 := by
  rw [show n - e = (n - (e + 1)) + 1 by omega]
  rfl
theorem wG_le {t : Nat → Int32} {n e : Nat} {c : Int32} (h : e ≤ n) : e + wG t n c e ≤ n := by
  unfold wG
  split
  · have := runN_le isL t (n - e) e
    omega
  · split
    · have := runN_le isD t (n - e) e
      omega
    · omega
theorem wG_tk {t : Nat → Int32} {n i : Nat} (h : i < n) : tkP t n i = if isL (t i) = true then (if 8 < 1 + wG t n (t i) (i + 1) then (11, 1) else (0, 1 + wG t n (t i) (i + 1))) else if isD (t i) = true then (if 4 < 1 + wG t n (t i) (i + 1) then (11, 1) else (1, 1 + wG t n (t i) (i + 1))) else (sgn (t i), 1) := by
  unfold tkP wG
  by_cases hl : isL (t i) = true
  · rw [if_pos hl, if_pos hl, if_pos hl, runN_in h, if_pos hl, Nat.add_comm 1]
  · rw [if_neg hl, if_neg hl, if_neg hl]
    by_cases hd : isD (t i) = true
    · rw [if_pos hd, if_pos hd, if_pos hd, runN_in h, if_pos hd, Nat.add_comm 1]
    · rw [if_neg hd, if_neg hd]
theorem wG_no {t : Nat → Int32} {n e : Nat} {c : Int32} (hl : ¬ isL c = true) (hd : ¬ isD c = true) : wG t n c e = 0 := by
  unfold wG
  rw [if_neg hl, if_neg hd]
theorem tk_push {S0 S : List zC} {I0 J : zI} {k m g q : Nat} {ks : List Nat} {p1 p2 : Int32} (hn : Nw S0 I0 S J g) (hk : S0.length ≤ k) (h491 : 491 ≤ S0.length) (hkl : k < S.length) (ht : TkB S J k ks) (hm : m = ks.length) : Nw S0 I0 (S ++ [.inr (.inl (0, 3))]) (zu (zu (zu (zu J S.length 0 (zi q)) S.length 1 p1) S.length 2 p2) k m (Int32.ofNat (S.length + 1))) (g + 1) ∧ TkB (S ++ [.inr (.inl (0, 3))]) (zu (zu (zu (zu J S.length 0 (zi q)) S.length 1 p1) S.length 2 p2) k m (Int32.ofNat (S.length + 1))) k (ks ++ [q]) := by
  have hl : (S ++ [(.inr (.inl (0, 3)) : zC)]).length = S.length + 1 := by rw [List.length_append]; rfl
  have h0 := hn.len
  refine ⟨⟨?_, by have := hn.2.1; omega, ((((hn.2.2.1.zu (by unfold Qfr; omega)).zu (by unfold Qfr; omega)).zu (by unfold Qfr; omega)).zu (by unfold Qfr; omega)), ?_⟩, fun j hj => ?_⟩
  · obtain ⟨T, hT⟩ := hn.1
    exact ⟨T ++ [.inr (.inl (0, 3))], by rw [hT, List.append_assoc]⟩
  · rw [hl]
    exact ((((hn.2.2.2.up (Nat.le_succ _)).zu (by omega)).zu (by omega)).zu (by omega)).zu (by omega)
  · rw [List.length_append] at hj
    have hj : j < ks.length + 1 := hj
    by_cases e : j = ks.length
    · refine ⟨S.length, by omega, by omega, by omega, ?_, zAt_new, ?_⟩
      · rw [e, ← hm, zu_self]
      · rw [zu_oo (by omega), zu_i (by decide), zu_i (by decide), zu_self, e, List.getD_eq_getElem?_getD, List.getElem?_append_right (Nat.le_refl _), Nat.sub_self]
        rfl
    · obtain ⟨r, h1, h9, h2, h3, h4, h5⟩ := ht j (by omega)
      refine ⟨r, h1, h9, by omega, ?_, zAt_up h4 ⟨_, rfl⟩, ?_⟩
      · rw [zu_i (by omega), zu_oo (by omega), zu_oo (by omega), zu_oo (by omega)]
        exact h3
      · rw [zu_oo (by omega), zu_oo (by omega), zu_oo (by omega), zu_oo (by omega), h5, List.getD_eq_getElem?_getD, List.getD_eq_getElem?_getD, List.getElem?_append_left (by omega)]
theorem b01_t : b01 true = 1 := rfl
theorem b01_f : b01 false = 0 := rfl
theorem s_cutL {S : List zC} {I : zI} {a : Nat} {l : List Int32} {K : Nat → Nat → List zC → zI → Prop} (hA : AtL S I a l) (hl : l.length ≤ 400) (h491 : 491 ≤ S.length) (hz : zZ I S.length) (hS : S.length ≤ 900000) (hK : ∀ k S2 J, 491 ≤ k → Nw S I S2 J 500 → TkR S2 J k ((lexL l).map (fun x => x.1)) → K k ((lexL l).map (fun x => x.1)).length S2 J) : w_Law_cut a l.length S I K := by
  have ha := hA.lt
  refine ⟨hA.1, ?_, ?_⟩
  · rw [show Int32.ofNat l.length + 1 = zi (l.length + 1) from zi_succ _, zi_tn (by omega)]
    exact ⟨hz, zi_ge (by omega), by omega, by omega, by omega⟩
  intro S1 k n eS eK eN
  rw [show Int32.ofNat l.length + 1 = zi (l.length + 1) from zi_succ _, zi_tn (by omega)] at eN
  subst eN
  subst eS
  subst eK
  intro P hP
  have tx : ∀ i, i < l.length → I.1 a i = txF l i := fun i hi => hA.2 i hi
  have hk0 : zA2 (S ++ [.inr (.inl (1, l.length + 1))]) S.length (l.length + 1) := zA2_new
  have hl1 : (S ++ [(.inr (.inl (1, l.length + 1)) : zC)]).length = S.length + 1 := by rw [List.length_append]; rfl
  -- the loop over the bytes
  have key : ∀ (d i : Nat) (ks : List Nat) (S7 : List zC) (J : zI), d + i = l.length → ks.length ≤ i → ks ++ (lexF (txF l) l.length (l.length - i) i).map (fun x => x.1) = (lexF (txF l) l.length l.length 0).map (fun x => x.1) → Nw S I S7 J (1 + ks.length) → zA2 S7 S.length (l.length + 1) → TkB S7 J S.length ks → P (zi ks.length) (zi i) S7 (0 + 1 + ks.length) (0 + (l.length + 1) + 3 * ks.length) J := by
    intro d
    induction d using Nat.strongRecOn with
    | _ d ih =>
      intro i ks S7 J hd hki hks hn h2 ht
      have hS7 := hn.2.1
      have hSl : S.length < S7.length := (List.getElem?_eq_some_iff.mp h2).1
      have hA7 : AtL S7 J a l := hn.at hA
      refine hP _ _ _ _ _ _ ⟨hA7.1, ?_⟩
      by_cases hi : l.length ≤ i
      · -- END, and all
        rw [if_pos (show zi l.length ≤ zi i from (zi_le (by omega) (by omega)).mpr hi)]
        rw [lexF_end hi, List.map_nil, List.append_nil] at hks
        have hkx : ks ++ [10] = (lexL l).map (fun x => x.1) := by
          rw [hks]
          show _ = (lexF (txF l) l.length l.length 0 ++ [(10, l.length, 0)]).map _
          rw [List.map_append]
          rfl
        intro v2 e2
        rw [zi_succ] at e2
        subst e2
        refine ⟨⟨hn.2.2.2, by decide, by decide, by omega, show 0 + (l.length + 1) + 3 * ks.length + 3 ≤ 3000 by omega⟩, fun S13 k14 n15 eS eK eN => ?_⟩
        have eN : n15 = 3 := eN
        subst eN
        subst eS
        subst eK
        refine ⟨⟨zAt_new, (zin_iff (i := 0) (by decide)).mpr (by decide)⟩, fun I17 e17 => ⟨zAt_up hA7.1 ⟨_, rfl⟩, ⟨zAt_new, (zin_iff (i := 1) (by decide)).mpr (by decide)⟩, fun I18 e18 => ⟨⟨zAt_new, (zin_iff (i := 2) (by decide)).mpr (by decide)⟩, fun I19 e19 => ⟨⟨zA2_up h2 ⟨_, rfl⟩, (zin_iff (by omega)).mpr (by omega), zAt_new, by omega⟩, fun I20 e20 => ?_⟩⟩⟩⟩
        have hp := tk_push (q := 10) (p1 := Int32.ofNat l.length) (p2 := 0) hn (Nat.le_refl _) h491 hSl ht rfl
        have eJ : I20 = zu (zu (zu (zu J S7.length 0 (zi 10)) S7.length 1 (Int32.ofNat l.length)) S7.length 2 0) S.length ks.length (Int32.ofNat (S7.length + 1)) := by
          rw [e20, e19, e18, e17, zi_tn (by omega)]
          rfl
        rw [← eJ] at hp
        obtain ⟨n20, t20⟩ := hp
        rw [hkx] at t20
        have hkl : ks.length + 1 = ((lexL l).map (fun x => x.1)).length := by rw [← hkx, List.length_append]; rfl
        refine ⟨?_, fun S21 k22 n23 eS eK eN => ?_⟩
        · rw [zi_tn (by omega)]
          exact ⟨n20.2.2.2, zi_ge (by omega), by omega, by omega, by omega⟩
        rw [zi_tn (by omega), hkl] at eN
        subst eN
        subst eS
        subst eK
        generalize (lexL l).map (fun x => x.1) = kx at t20 hkl hK ⊢
        rw [hkl]
        generalize eS13 : S7 ++ [(.inr (.inl (0, 3)) : zC)] = S13 at n20 t20 ⊢
        have l13 : S13.length = S7.length + 1 := by rw [← eS13, List.length_append]; rfl
        have up21 : ∃ T, S13 ++ [(.inr (.inl (1, kx.length)) : zC)] = S13 ++ T := ⟨_, rfl⟩
        have a13 : zA2 S13 S.length (l.length + 1) := by rw [← eS13]; exact zA2_up h2 ⟨_, rfl⟩
        have l21 : (S13 ++ [(.inr (.inl (1, kx.length)) : zC)]).length = S13.length + 1 := by rw [List.length_append]; rfl
        intro P3 hP3
        refine s_up (n := kx.length) (P := P3) (fun i L => eqQ (fun a _ => a = S13.length) I20 L ∧ ∀ j, j < i → L.1 S13.length j = I20.1 S.length j) (fun i L hi2 hL kk => ?_) (fun L hL => ?_) _ 0 rfl I20 ⟨eqQ.rf, fun _ h => absurd h (Nat.not_lt_zero _)⟩
        · refine hP3 _ _ ?_
          rw [if_neg (show ¬ zi kx.length ≤ zi i from nle_zi hi2 (by omega))]
          obtain ⟨r, r1, r9, r2, r3, r4, r5⟩ := t20 i hi2
          have hc : L.1 S.length (zi i).toNatClampNeg = zi (r + 1) := by rw [zi_tn (by omega), hL.1.1 S.length i (by omega)]; exact r3
          refine ⟨⟨zA2_up a13 up21, (zin_iff (by omega)).mpr (by omega), by rw [hc]; exact zi_ne (b := 0) (by omega) (by decide) (by omega)⟩, fun r' er => ?_⟩
          rw [hc, zi_tn (by omega), Nat.add_sub_cancel] at er
          subst er
          refine ⟨⟨zA2_new, (zin_iff (by omega)).mpr hi2, zAt_up r4 up21, by omega⟩, fun I28 e28 v4 e4 => ?_⟩
          subst e28
          subst e4
          rw [zi_succ, zi_tn (by omega)]
          refine kk _ ⟨hL.1.zu rfl, fun j hj => ?_⟩
          rw [zu_at]
          by_cases ej : j = i
          · rw [if_pos ⟨rfl, ej⟩, ej]
            exact r3.symm
          · rw [if_neg (fun q => ej q.2)]
            exact hL.2 j (by omega)
        · refine hP3 _ _ ?_
          rw [if_pos (show zi kx.length ≤ zi kx.length from (zi_le (by omega) (by omega)).mpr (Nat.le_refl _))]
          refine hK S13.length _ L (by omega) ?_ ⟨zA2_new, fun j hj => ?_⟩
          · have n21 : Nw S13 I20 (S13 ++ [.inr (.inl (1, kx.length))]) L 1 := ⟨⟨_, rfl⟩, by omega, hL.1.mono (fun a j q => by unfold Qfr; omega), by
              rw [l21]
              exact (n20.2.2.2.up (Nat.le_succ _)).q hL.1 (fun a j q => by omega)⟩
            exact (n20.tr n21).mono (by omega)
          · obtain ⟨r, r1, r9, r2, r3, r4, r5⟩ := t20 j hj
            exact ⟨r, by omega, r9, by omega, by rw [hL.2 j hj]; exact r3, zAt_up r4 up21, by rw [hL.1.1 r 0 (by omega)]; exact r5⟩
      · -- a byte
        have hi : i < l.length := by omega
        rw [if_neg (show ¬ zi l.length ≤ zi i from nle_zi hi (by omega))]
        refine ⟨⟨hA7.1, (zin_iff (by omega)).mpr hi⟩, fun v4 e4 => ?_⟩
        rw [zi_tn (by omega), show J.1 a i = txF l i from hA7.2 i hi] at e4
        have hstep := lexF_step (t := txF l) (n := l.length) hi
        intro P330 h330
        have blank : isB (txF l i) = true → P330 (zi ks.length) (zi i) S7 (0 + 1 + ks.length) (0 + (l.length + 1) + 3 * ks.length) J := fun hb => h330 _ _ _ _ _ _ (fun v3 e3 => by
          subst e3
          rw [zi_succ]
          rw [hstep, if_pos hb] at hks
          exact ih (d - 1) (by omega) (i + 1) ks S7 J (by omega) (by omega) hks hn h2 ht)
        by_cases b9 : v4 = 9
        · rw [if_pos b9]
          exact blank (by rw [← e4, b9]; rfl)
        rw [if_neg b9]
        by_cases b10 : v4 = 10
        · rw [if_pos b10]
          exact blank (by rw [← e4, b10]; rfl)
        rw [if_neg b10]
        by_cases b13 : v4 = 13
        · rw [if_pos b13]
          exact blank (by rw [← e4, b13]; rfl)
        rw [if_neg b13]
        by_cases b32 : v4 = 32
        · rw [if_pos b32]
          exact blank (by rw [← e4, b32]; rfl)
        rw [if_neg b32]
        have nb : ¬ isB (txF l i) = true := by
          rw [← e4]
          simp [isB, b9, b10, b13, b32]
        rw [hstep, if_neg nb] at hks
        intro v5 e5 P59 h59
        rw [zi_succ] at e5
        subst e5
        have tk := wG_tk (t := txF l) (n := l.length) hi
        rw [← e4] at tk
        have wle := wG_le (t := txF l) (n := l.length) (c := v4) (e := i + 1) (by omega)
        -- what is done with the token, its end known
        have fin : ∀ w : Nat, w = i + 1 + wG (txF l) l.length v4 (i + 1) → ∀ P108 : Prop, ((∀ v6_42, v6_42 = (zi w - zi i) → w_Law_letter v4 S7 J (fun r_43 => ∀ (P156 : Int32 → Prop), (∀ (t_44 : Int32), (∀ (P286 : Int32 → Prop), (∀ (t_45 : Int32), (∀ v2_46, v2_46 = (zi ks.length + 1) → (zZ J S7.length ∧ (0 : Int32) ≤ 3 ∧ Int32.toNatClampNeg 3 ≤ 100000 ∧ 0 + 1 + ks.length + 1 ≤ 500 ∧ 0 + (l.length + 1) + 3 * ks.length + Int32.toNatClampNeg 3 ≤ 3000) ∧ ∀ (S_47 : List zC) (k_48 n_49 : Nat), S_47 = S7 ++ [.inr (.inl (0, n_49))] → k_48 = S7.length → n_49 = Int32.toNatClampNeg 3 → (zAt S_47 k_48 n_49 ∧ vp_in 0 n_49) ∧ ∀ I_51, I_51 = (zu J k_48 0 t_45) → (zAt S_47 k_48 n_49 ∧ vp_in 1 n_49) ∧ ∀ I_52, I_52 = (zu I_51 k_48 1 (zi i)) → ∀ (P318 : Int32 → Prop), (∀ (t_53 : Int32), ((zAt S_47 k_48 n_49 ∧ vp_in 2 n_49) ∧ ∀ I_54, I_54 = (zu I_52 k_48 2 t_53) → (zA2 S_47 S.length (l.length + 1) ∧ vp_in (zi ks.length) (l.length + 1) ∧ zAt S_47 k_48 n_49 ∧ k_48 < 1000000) ∧ ∀ I_55, I_55 = (zu I_54 S.length (Int32.toNatClampNeg (zi ks.length)) (Int32.ofNat (k_48 + 1))) → (if t_44 = 0 then (∀ v3_56, v3_56 = (zi w - 1) → P330 v2_46 v3_56 S_47 (0 + 1 + ks.length + 1) (0 + (l.length + 1) + 3 * ks.length + n_49) I_55) else (P330 v2_46 (zi i) S_47 (0 + 1 + ks.length + 1) (0 + (l.length + 1) + 3 * ks.length + n_49) I_55))) → P318 t_53) → (if t_44 = 0 then P318 v6_42 else P318 1)) → P286 t_45) → (if t_44 = 0 then (w_Law_letter v4 S7 J (fun r_59 => (if r_59 = 0 then (w_Law_digit v4 S7 J (fun r_60 => (if r_60 = 0 then (if v4 = 61 then P286 2 else (if v4 = 59 then P286 3 else (if v4 = 43 then P286 4 else (if v4 = 42 then P286 5 else (if v4 = 40 then P286 6 else (if v4 = 41 then P286 7 else (if v4 = 123 then P286 8 else (if v4 = 125 then P286 9 else P286 11)))))))) else P286 1))) else P286 0))) else P286 11)) → P156 t_44) → (if r_43 = 0 then (w_Law_digit v4 S7 J (fun r_72 => ∀ (P155 : Prop), ((P156 0) → P155) → (if r_72 = 0 then P155 else (if v6_42 ≤ 4 then P155 else P156 1)))) else (if v6_42 ≤ 8 then P156 0 else P156 1)))) → P108) → P108 := by
          intro w ew P108 h108
          refine h108 (fun v6 e6 => ?_)
          rw [zi_sub (by omega), show w - i = 1 + wG (txF l) l.length v4 (i + 1) by omega] at e6
          subst e6
          refine s_letter ?_
          intro P156 h156
          -- the token of KIND q, so wide
          have put : ∀ (lng : Bool) (q wd : Nat), tkP (txF l) l.length i = (q, wd) → wd = (if lng = true then 1 else 1 + wG (txF l) l.length v4 (i + 1)) → ∀ P286 : Int32 → Prop, (∀ (t_45 : Int32), (∀ v2_46, v2_46 = (zi ks.length + 1) → (zZ J S7.length ∧ (0 : Int32) ≤ 3 ∧ Int32.toNatClampNeg 3 ≤ 100000 ∧ 0 + 1 + ks.length + 1 ≤ 500 ∧ 0 + (l.length + 1) + 3 * ks.length + Int32.toNatClampNeg 3 ≤ 3000) ∧ ∀ (S_47 : List zC) (k_48 n_49 : Nat), S_47 = S7 ++ [.inr (.inl (0, n_49))] → k_48 = S7.length → n_49 = Int32.toNatClampNeg 3 → (zAt S_47 k_48 n_49 ∧ vp_in 0 n_49) ∧ ∀ I_51, I_51 = (zu J k_48 0 t_45) → (zAt S_47 k_48 n_49 ∧ vp_in 1 n_49) ∧ ∀ I_52, I_52 = (zu I_51 k_48 1 (zi i)) → ∀ (P318 : Int32 → Prop), (∀ (t_53 : Int32), ((zAt S_47 k_48 n_49 ∧ vp_in 2 n_49) ∧ ∀ I_54, I_54 = (zu I_52 k_48 2 t_53) → (zA2 S_47 S.length (l.length + 1) ∧ vp_in (zi ks.length) (l.length + 1) ∧ zAt S_47 k_48 n_49 ∧ k_48 < 1000000) ∧ ∀ I_55, I_55 = (zu I_54 S.length (Int32.toNatClampNeg (zi ks.length)) (Int32.ofNat (k_48 + 1))) → (if b01 lng = 0 then (∀ v3_56, v3_56 = (zi w - 1) → P330 v2_46 v3_56 S_47 (0 + 1 + ks.length + 1) (0 + (l.length + 1) + 3 * ks.length + n_49) I_55) else (P330 v2_46 (zi i) S_47 (0 + 1 + ks.length + 1) (0 + (l.length + 1) + 3 * ks.length + n_49) I_55))) → P318 t_53) → (if b01 lng = 0 then P318 (zi (1 + wG (txF l) l.length v4 (i + 1))) else P318 1)) → P286 t_45) → P286 (zi q) := by
            intro lng q wd htk hwd P286 h286
            have w8 := (tkP_pos (t := txF l) (n := l.length) hi).2.1
            rw [htk] at w8 hks
            have w8 : i + wd ≤ l.length := w8
            refine h286 (zi q) (fun v2 e2 => ⟨⟨hn.2.2.2, by decide, by decide, by omega, show 0 + (l.length + 1) + 3 * ks.length + 3 ≤ 3000 by omega⟩, fun S47 k48 n49 eS eK eN => ?_⟩)
            rw [zi_succ] at e2
            subst e2
            have eN : n49 = 3 := eN
            subst eN
            subst eS
            subst eK
            refine ⟨⟨zAt_new, (zin_iff (i := 0) (by decide)).mpr (by decide)⟩, fun I51 e51 => ⟨⟨zAt_new, (zin_iff (i := 1) (by decide)).mpr (by decide)⟩, fun I52 e52 => ?_⟩⟩
            intro P318 h318
            have go : ∀ t53, P318 t53 := fun t53 => h318 t53 ⟨⟨zAt_new, (zin_iff (i := 2) (by decide)).mpr (by decide)⟩, fun I54 e54 => ⟨⟨zA2_up h2 ⟨_, rfl⟩, (zin_iff (by omega)).mpr (by omega), zAt_new, by omega⟩, fun I55 e55 => by
              have hp := tk_push (q := q) (p1 := zi i) (p2 := t53) hn (Nat.le_refl _) h491 hSl ht rfl
              have eJ : I55 = zu (zu (zu (zu J S7.length 0 (zi q)) S7.length 1 (zi i)) S7.length 2 t53) S.length ks.length (Int32.ofNat (S7.length + 1)) := by
                rw [e55, e54, e52, e51, zi_tn (by omega)]
              rw [← eJ] at hp
              obtain ⟨n55, t55⟩ := hp
              have hkl : (ks ++ [q]).length = ks.length + 1 := by rw [List.length_append]; rfl
              have nxt : ∀ i2 : Nat, i2 = i + wd → P (zi (ks.length + 1)) (zi i2) (S7 ++ [.inr (.inl (0, 3))]) (0 + 1 + ks.length + 1) (0 + (l.length + 1) + 3 * ks.length + 3) I55 := fun i2 ei => by
                have w1 := (tkP_pos (t := txF l) (n := l.length) hi).1
                rw [htk] at w1
                have w1 : 1 ≤ wd := w1
                have h := ih (l.length - i2) (by omega) i2 (ks ++ [q]) (S7 ++ [.inr (.inl (0, 3))]) I55 (by omega) (by omega) (by
                  rw [← hks, List.append_assoc, ei]
                  rfl) (by rw [hkl]; exact n55) (zA2_up h2 ⟨_, rfl⟩) t55
                rw [hkl] at h
                rw [show 0 + 1 + ks.length + 1 = 0 + 1 + (ks.length + 1) by omega, show 0 + (l.length + 1) + 3 * ks.length + 3 = 0 + (l.length + 1) + 3 * (ks.length + 1) by omega]
                exact h
              cases lng with
              | false =>
                rw [if_pos b01_f]
                intro v3 e3
                rw [show zi w - 1 = zi (w - 1) from zi_sub (b := 1) (by omega)] at e3
                subst e3
                refine h330 _ _ _ _ _ _ (fun v3 e3 => ?_)
                subst e3
                rw [zi_succ]
                have hwd : wd = 1 + wG (txF l) l.length v4 (i + 1) := hwd
                exact nxt _ (by omega)
              | true =>
                rw [if_neg (show ¬ b01 true = 0 by decide)]
                refine h330 _ _ _ _ _ _ (fun v3 e3 => ?_)
                subst e3
                rw [zi_succ]
                have hwd : wd = 1 := hwd
                exact nxt _ (by omega)⟩⟩
            split
            · exact go _
            · exact go _
          have h0 : ∀ (lng : Bool) (q wd : Nat), (lng = true → q = 11) → (lng = false → isL v4 = true → q = 0) → (lng = false → ¬ isL v4 = true → isD v4 = true → q = 1) → (lng = false → ¬ isL v4 = true → ¬ isD v4 = true → q = sgn v4) → tkP (txF l) l.length i = (q, wd) → wd = (if lng = true then 1 else 1 + wG (txF l) l.length v4 (i + 1)) → P156 (b01 lng) := by
            intro lng q wd q1 q2 q3 q4 htk hwd
            refine h156 (b01 lng) (fun P286 h286 => ?_)
            have hq := put lng q wd htk hwd P286 h286
            cases lng with
            | true =>
              rw [if_neg (show ¬ b01 true = 0 by decide)]
              rw [q1 rfl] at hq
              exact hq
            | false =>
              rw [if_pos b01_f]
              refine s_letter ?_
              by_cases hL : isL v4 = true
              · rw [hL, if_neg (show ¬ b01 true = 0 by decide)]
                rw [q2 rfl hL] at hq
                exact hq
              · rw [show isL v4 = false from Bool.eq_false_iff.mpr hL, if_pos b01_f]
                refine s_digit ?_
                by_cases hD : isD v4 = true
                · rw [hD, if_neg (show ¬ b01 true = 0 by decide)]
                  rw [q3 rfl hL hD] at hq
                  exact hq
                · rw [show isD v4 = false from Bool.eq_false_iff.mpr hD, if_pos b01_f]
                  rw [q4 rfl hL hD] at hq
                  by_cases c61 : v4 = 61
                  · rw [if_pos c61]
                    rw [c61] at hq
                    exact hq
                  rw [if_neg c61]
                  by_cases c59 : v4 = 59
                  · rw [if_pos c59]
                    rw [c59] at hq
                    exact hq
                  rw [if_neg c59]
                  by_cases c43 : v4 = 43
                  · rw [if_pos c43]
                    rw [c43] at hq
                    exact hq
                  rw [if_neg c43]
                  by_cases c42 : v4 = 42
                  · rw [if_pos c42]
                    rw [c42] at hq
                    exact hq
                  rw [if_neg c42]
                  by_cases c40 : v4 = 40
                  · rw [if_pos c40]
                    rw [c40] at hq
                    exact hq
                  rw [if_neg c40]
                  by_cases c41 : v4 = 41
                  · rw [if_pos c41]
                    rw [c41] at hq
                    exact hq
                  rw [if_neg c41]
                  by_cases c123 : v4 = 123
                  · rw [if_pos c123]
                    rw [c123] at hq
                    exact hq
                  rw [if_neg c123]
                  by_cases c125 : v4 = 125
                  · rw [if_pos c125]
                    rw [c125] at hq
                    exact hq
                  rw [if_neg c125]
                  have e11 : sgn v4 = 11 := by
                    unfold sgn
                    rw [if_neg c40, if_neg c41, if_neg c42, if_neg c43, if_neg c59, if_neg c61, if_neg c123, if_neg c125]
                  rw [e11] at hq
                  exact hq
          have wlt : 1 + wG (txF l) l.length v4 (i + 1) ≤ 400 := by omega
          by_cases hL : isL v4 = true
          · rw [hL, if_neg (show ¬ b01 true = 0 by decide)]
            rw [if_pos hL] at tk
            by_cases h8 : 8 < 1 + wG (txF l) l.length v4 (i + 1)
            · rw [if_neg (show ¬ zi (1 + wG (txF l) l.length v4 (i + 1)) ≤ 8 from fun q => by have := (zi_le (b := 8) (by omega) (by decide)).mp q; omega)]
              rw [if_pos h8] at tk
              exact h0 true 11 1 (fun _ => rfl) (fun q => by cases q) (fun q => by cases q) (fun q => by cases q) tk rfl
            · rw [if_pos (show zi (1 + wG (txF l) l.length v4 (i + 1)) ≤ 8 from (zi_le (b := 8) (by omega) (by decide)).mpr (by omega))]
              rw [if_neg h8] at tk
              exact h0 false 0 _ (fun q => by cases q) (fun _ _ => rfl) (fun _ q => absurd hL q) (fun _ q => absurd hL q) tk rfl
          · rw [show isL v4 = false from Bool.eq_false_iff.mpr hL, if_pos b01_f]
            rw [if_neg hL] at tk
            refine s_digit ?_
            intro P155 h155
            by_cases hD : isD v4 = true
            · rw [hD, if_neg (show ¬ b01 true = 0 by decide)]
              rw [if_pos hD] at tk
              by_cases h4 : 4 < 1 + wG (txF l) l.length v4 (i + 1)
              · rw [if_neg (show ¬ zi (1 + wG (txF l) l.length v4 (i + 1)) ≤ 4 from fun q => by have := (zi_le (b := 4) (by omega) (by decide)).mp q; omega)]
                rw [if_pos h4] at tk
                exact h0 true 11 1 (fun _ => rfl) (fun q => by cases q) (fun q => by cases q) (fun q => by cases q) tk rfl
              · rw [if_pos (show zi (1 + wG (txF l) l.length v4 (i + 1)) ≤ 4 from (zi_le (b := 4) (by omega) (by decide)).mpr (by omega))]
                rw [if_neg h4] at tk
                exact h155 (h0 false 1 _ (fun q => by cases q) (fun _ q => absurd q hL) (fun _ _ _ => rfl) (fun _ _ q => absurd hD q) tk rfl)
            · rw [show isD v4 = false from Bool.eq_false_iff.mpr hD, if_pos b01_f]
              rw [if_neg hD] at tk
              exact h155 (h0 false (sgn v4) 1 (fun q => by cases q) (fun _ q => absurd q hL) (fun _ _ q => absurd q hD) (fun _ _ _ => rfl) tk (by rw [wG_no hL hD]; rfl))
        -- to the run's end
        have run : ∀ (g e : Nat), g + e = l.length → i + 1 ≤ e → e + wG (txF l) l.length v4 e = i + 1 + wG (txF l) l.length v4 (i + 1) → P59 (zi e) := by
          intro g
          induction g with
          | zero =>
            intro e he h1 hw
            have we : wG (txF l) l.length v4 e = 0 := by
              have := wG_le (t := txF l) (n := l.length) (c := v4) (e := e) (by omega)
              omega
            refine h59 _ ⟨hA7.1, fun P108 h108 => ?_⟩
            rw [if_pos (show zi l.length ≤ zi e from (zi_le (by omega) (by omega)).mpr (by omega))]
            exact fin e (by omega) P108 h108
          | succ g ihg =>
            intro e he h1 hw
            have hel : e < l.length := by omega
            refine h59 _ ⟨hA7.1, fun P108 h108 => ?_⟩
            rw [if_neg (show ¬ zi l.length ≤ zi e from nle_zi hel (by omega))]
            have at7 : zAt S7 a l.length ∧ vp_in (zi e) l.length := ⟨hA7.1, (zin_iff (by omega)).mpr hel⟩
            have be : J.1 a (zi e).toNatClampNeg = txF l e := by rw [zi_tn (by omega)]; exact hA7.2 e hel
            have stop : wG (txF l) l.length v4 e = 0 → P108 := fun w0 => fin e (by omega) P108 h108
            have on : wG (txF l) l.length v4 e = wG (txF l) l.length v4 (e + 1) + 1 → ∀ v5, v5 = zi e + 1 → P59 v5 := fun w1 v5 e5 => by
              subst e5
              rw [zi_succ]
              exact ihg (e + 1) (by omega) (by omega) (by omega)
            refine s_letter ?_
            intro P102 h102 P84 h84
            by_cases hL : isL v4 = true
            · rw [hL, if_neg (show ¬ b01 true = 0 by decide)]
              refine ⟨at7, s_letter ?_⟩
              rw [be]
              have wl : wG (txF l) l.length v4 e = if isL (txF l e) then wG (txF l) l.length v4 (e + 1) + 1 else 0 := by
                unfold wG
                rw [if_pos hL, if_pos hL, runN_in hel]
              by_cases hE : isL (txF l e) = true
              · rw [hE, if_neg (show ¬ b01 true = 0 by decide)]
                rw [if_pos hE] at wl
                exact h102 (on wl)
              · rw [show isL (txF l e) = false from Bool.eq_false_iff.mpr hE, if_pos b01_f]
                rw [if_neg hE] at wl
                refine h84 (s_digit ?_)
                rw [isLD hL, if_pos b01_f]
                exact stop wl
            · rw [show isL v4 = false from Bool.eq_false_iff.mpr hL, if_pos b01_f]
              refine h84 (s_digit ?_)
              by_cases hD : isD v4 = true
              · rw [hD, if_neg (show ¬ b01 true = 0 by decide)]
                refine ⟨at7, s_digit ?_⟩
                rw [be]
                have wl : wG (txF l) l.length v4 e = if isD (txF l e) then wG (txF l) l.length v4 (e + 1) + 1 else 0 := by
                  unfold wG
                  rw [if_neg hL, if_neg hL, if_pos hD, if_pos hD, runN_in hel]
                by_cases hE : isD (txF l e) = true
                · rw [hE, if_neg (show ¬ b01 true = 0 by decide)]
                  rw [if_pos hE] at wl
                  exact h102 (on wl)
                · rw [show isD (txF l e) = false from Bool.eq_false_iff.mpr hE, if_pos b01_f]
                  rw [if_neg hE] at wl
                  exact stop wl
              · rw [show isD v4 = false from Bool.eq_false_iff.mpr hD, if_pos b01_f]
                exact stop (wG_no hL hD)
        exact run (l.length - (i + 1)) (i + 1) (by omega) (Nat.le_refl _) rfl
  have n1 : Nw S I (S ++ [.inr (.inl (1, l.length + 1))]) I (1 + ([] : List Nat).length) := ⟨⟨_, rfl⟩, by rw [hl1]; exact Nat.le_refl _, eqQ.rf, by rw [hl1]; exact hz.up (Nat.le_succ _)⟩
  exact key l.length 0 [] _ I rfl (Nat.le_refl _) (by rw [Nat.sub_zero]; rfl) n1 hk0 (fun j hj => absurd hj (Nat.not_lt_zero _))
