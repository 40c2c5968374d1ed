/-! ===== what NAMES are when all was RUN: the model ===== -/
theorem i64_32 {n : Nat} (h : n < 2147483648) : Int64.toInt32 (Int64.ofNat n) = zi n := by
  apply Int32.toInt_inj.mp
  rw [Int64.toInt_toInt32, Int64.toInt_ofNat_of_lt (by omega), zi_toInt h]
  exact Int.bmod_eq_of_le (by omega) (by omega)
theorem num_m {N : Nat → Nd} {z : Nat} (hz : tkZ (N z)) (hk : ndK (N z) = 1) : Int64.toInt32 (nmV N z) = numY (N z) := by
  obtain ⟨b1, b2, b3⟩ := hz.2 hk
  have h' : ∀ j, j < (ndY (N z)).length → isD (bsF (ndY (N z)) (0 + j)) = true := fun j hj => by rw [Nat.zero_add]; exact b3 j hj
  have e : nmV N z = valD (bsF (ndY (N z))) 0 (ndY (N z)).length := by
    unfold nmV isV
    dsimp only
    rw [if_neg (by omega), if_pos hk]
  rw [e, valD_eq _ h']
  have hlt := natV_lt (B := 10) (f := fun j => dg 48 (bsF (ndY (N z)) (0 + j))) (ndY (N z)).length (fun j hj => (dg_D (h' j hj)).1)
  have h4 : 10 ^ (ndY (N z)).length ≤ 10 ^ 4 := Nat.pow_le_pow_right (by decide) b2
  rw [i64_32 (by omega)]
  unfold numY
  exact congrArg zi (natV_cg _ (fun j _ => by
    show dg 48 _ = dg 48 _
    rw [Nat.zero_add]))
/-- the model's list of NAMES, and what they are -/
def NvM (I : zI) (S : List Int64) (en : Int64 → Int32) : Prop := ∃ nm : List Int64, I.1 491 55 = zi nm.length ∧ (∀ (i : Nat) (v : Int64), nm[i]? = some v → I.2 530 i = v ∧ I.1 531 i = en v) ∧ nm.Nodup ∧ (∀ v ∈ nm, v ∈ S) ∧ ∀ v, v ∉ nm → en v = 0
theorem NvM.kp {I J : zI} {S : List Int64} {en : Int64 → Int32} (h : NvM I S en) (e1 : J.1 491 55 = I.1 491 55) (e2 : ∀ j, J.2 530 j = I.2 530 j) (e3 : ∀ j, J.1 531 j = I.1 531 j) : NvM J S en := by
  obtain ⟨nm, n1, n2, n3, n4, n5⟩ := h
  exact ⟨nm, e1.trans n1, fun i v hi => ⟨(e2 i).trans (n2 i v hi).1, (e3 i).trans (n2 i v hi).2⟩, n3, n4, n5⟩
theorem NvM.nm {I : zI} {S : List Int64} {en : Int64 → Int32} (h : NvM I S en) : NmM I S := by
  obtain ⟨nm, n1, n2, n3, n4, n5⟩ := h
  exact ⟨nm, n1, fun i v hi => (n2 i v hi).1, n3, n4⟩
theorem nd_ix {l : List Int64} (h : l.Nodup) {i j : Nat} {v : Int64} (hi : l[i]? = some v) (hj : l[j]? = some v) : i = j := by
  induction l generalizing i j with
  | nil => cases hi
  | cons a l ih =>
    obtain ⟨h1, h2⟩ := List.nodup_cons.mp h
    cases i with
    | zero =>
      cases j with
      | zero => rfl
      | succ j =>
        cases hi
        rw [List.getElem?_cons_succ] at hj
        exact absurd (List.mem_of_getElem? hj) h1
    | succ i =>
      rw [List.getElem?_cons_succ] at hi
      cases j with
      | zero =>
        cases hj
        exact absurd (List.mem_of_getElem? hi) h1
      | succ j =>
        rw [List.getElem?_cons_succ] at hj
        rw [ih h2 hi hj]
theorem u_nameOf {v : Int64} {S : List Int64} {en : Int64 → Int32} {I : zI} {K : Int32 → zI → Prop} (hS : S.length ≤ 49) (hv : v ∈ S) (hN : NvM I S en) (hK : ∀ (r : Nat) (J : zI), r < 60 → eqQ Qna I J → NvM J S en → J.1 531 r = en v → (∀ (w : Int32) (L : zI), L = zu J 531 r w → NvM L S (up6 en v w)) → K (zi r) J) : w_M_nameOf v I K := by
  obtain ⟨nm, n1, n2, n3, n4, n5⟩ := id hN
  have hl := nd_le n3 n4
  -- a NAME found, or put there, and what is set of it
  have fin : ∀ (nm : List Int64) (r : Nat) (J : zI), J.1 491 55 = zi nm.length → (∀ (i : Nat) (v : Int64), nm[i]? = some v → J.2 530 i = v ∧ J.1 531 i = en v) → nm.Nodup → (∀ v ∈ nm, v ∈ S) → (∀ v, v ∉ nm → en v = 0) → nm[r]? = some v → r < 60 → eqQ Qna I J → K (zi r) J := by
    intro nm r J m1 m2 m3 m4 m5 hr hr6 qJ
    refine hK r J hr6 qJ ⟨nm, m1, m2, m3, m4, m5⟩ (m2 r v hr).2 (fun w L eL => ⟨nm, ?_, fun i v' hi => ⟨?_, ?_⟩, m3, m4, fun v' hv' => ?_⟩)
    · rw [eL, zu_oo (by decide)]
      exact m1
    · rw [eL, zu_2]
      exact (m2 i v' hi).1
    · rw [eL, zu_at]
      by_cases u : i = r
      · rw [if_pos ⟨rfl, u⟩]
        rw [u, hr] at hi
        cases hi
        rw [up6_s]
      · rw [if_neg (fun x => u x.2), up6_o (fun e => u (nd_ix m3 hi (by rw [e]; exact hr)))]
        exact (m2 i v' hi).2
    · rw [up6_o (fun e => hv' (by rw [e]; exact List.mem_of_getElem? hr))]
      exact m5 v' hv'
  intro P2 h2
  have main : ∀ (d k : Nat), k + d = nm.length → (∀ i : Nat, i < k → nm[i]? ≠ some v) → P2 (zi k) := by
    intro d
    induction d with
    | zero =>
      intro k hk hno
      refine h2 _ ?_
      have hnv : v ∉ nm := fun hm => by
        obtain ⟨i, hi⟩ := List.mem_iff_getElem?.mp hm
        exact hno i (by have := (List.getElem?_eq_some_iff.mp hi).1; omega) hi
      have hnd : (nm ++ [v]).Nodup := List.nodup_append.mpr ⟨n3, List.nodup_cons.mpr ⟨List.not_mem_nil, List.nodup_nil⟩, fun a ha b hb e => by
        cases List.mem_singleton.mp hb
        exact hnv (e ▸ ha)⟩
      have hsub : ∀ w ∈ nm ++ [v], w ∈ S := fun w hw => by
        rcases List.mem_append.mp hw with hw | hw
        · exact n4 w hw
        · cases List.mem_singleton.mp hw
          exact hv
      have hl2 := nd_le hnd hsub
      rw [List.length_append] at hl2
      change nm.length + 1 ≤ _ at hl2
      rw [n1, if_pos ((zi_le (by omega) (by omega)).mpr (by omega)), zi_tn (show nm.length < 2147483648 by omega)]
      refine ⟨(zin_iff (by omega)).mpr (by omega), fun I2 e2 => ?_⟩
      have g2 : I2.1 491 55 = zi nm.length := by rw [e2, zul_1]; exact n1
      rw [g2, zi_tn (show nm.length < 2147483648 by omega)]
      refine ⟨(zin_iff (by omega)).mpr (by omega), fun I3 e3 I4 e4 => ?_⟩
      rw [show I3.1 491 55 = zi nm.length by rw [e3, zu_oo (by decide)]; exact g2, zi_succ] at e4
      rw [show I4.1 491 55 - 1 = zi nm.length by rw [e4, zu_self]; exact zi_sub (b := 1) (by omega)]
      refine fin (nm ++ [v]) nm.length I4 ?_ (fun i w hi => ?_) hnd hsub (fun w hw => n5 w (fun h => hw (List.mem_append_left _ h))) ?_ (by omega) ?_
      · rw [e4, zu_self, List.length_append]
        rfl
      · rw [e4, zu_2, e3, zu_2, e2, zul_at, zu_oo (by decide), zu_at]
        rcases snoc_at hi with hi | ⟨rfl, rfl⟩
        · have := (List.getElem?_eq_some_iff.mp hi).1
          rw [if_neg (by omega), if_neg (by omega), zul_1]
          exact n2 i w hi
        · rw [if_pos ⟨rfl, rfl⟩, if_pos ⟨rfl, rfl⟩]
          exact ⟨rfl, (n5 _ hnv).symm⟩
      · rw [List.getElem?_append_right (Nat.le_refl _), Nat.sub_self]
        rfl
      · rw [e4, e3, e2]
        exact ((eqQ.rf.zul (Or.inr (Or.inl rfl))).zu (Or.inr (Or.inr rfl))).zu (Or.inl ⟨rfl, rfl⟩)
    | succ d ih =>
      intro k hk hno
      refine h2 _ ?_
      rw [n1, if_neg (fun u => by have := (zi_le (by omega) (by omega)).mp u; omega), zi_tn (show k < 2147483648 by omega)]
      have hk2 : nm[k]? = some (nm[k]'(by omega)) := List.getElem?_eq_getElem (by omega)
      generalize nm[k]'(by omega) = w at hk2
      refine ⟨(zin_iff (by omega)).mpr (by omega), ?_⟩
      rw [(n2 k w hk2).1]
      by_cases u : w = v
      · rw [if_pos (lg_cmp0.mpr u)]
        rw [u] at hk2
        exact fin nm k I n1 n2 n3 n4 n5 hk2 (by omega) eqQ.rf
      · rw [if_neg (fun x => u (lg_cmp0.mp x))]
        intro v' ev
        rw [ev, zi_succ]
        refine ih (k + 1) (by omega) (fun i hi hi2 => ?_)
        by_cases x : i = k
        · rw [x, hk2] at hi2
          exact u (Option.some.inj hi2)
        · exact hno i (by omega) hi2
  exact main nm.length 0 (by omega) (fun i hi => by omega)
def WoM (I : zI) (N : Nat → Nd) (F : List Fl) (en : Int64 → Int32) (lo hi : Nat) : Prop := ∀ (q : Nat) (y : Fl), lo ≤ q → q < hi → F[q]? = some y → 4 ≤ ndR (N y.1) → I.1 532 y.1 = evN N en y.1
theorem u_reckons {m R n p : Nat} {og : Nat → Nat} {N : Nat → Nd} {en : Int64 → Int32} {x : Fl} {I : zI} {K : zI → Prop} (rep : RepNM I m N) (hN : NdOk m N) (hm : m ≤ 3700) (t : TreeI m N R n og) (hu : ∀ (p q : Nat) (x y : Fl), (flR N R)[p]? = some x → (flR N R)[q]? = some y → x.1 = y.1 → p = q) (htz : ∀ z, z ∈ yl N R → tkZ (N z)) (hx : (flR N R)[p]? = some x) (tv : TvM I N R) (nv : NvM I (nmL N R) en) (hK : ∀ J, eqQ Qrk I J → NvM J (nmL N R) en → WoM J N (flR N R) en p (p + sz N x.1) → K J) : w_M_reckons (zi p) I K := by
  have hR := t.1
  have hlen : (flR N R).length ≤ 248 := by
    have h1 := t.few hN
    have h2 : (flR N R).length = sz N R := fl_len hN R hR _ _ _ _
    omega
  obtain ⟨s1, s2, s3⟩ := sz_inR hN hR hx
  unfold w_M_reckons
  rw [zi_tn (show p < 2147483648 by omega), (tv p x hx).2.2, s1]
  refine ⟨(zin_iff (by omega)).mpr (by omega), fun v2 ev2 => ?_⟩
  subst ev2
  intro P9 h9
  have ch := hN.ch
  have hS := nmL_len hN t
  have main : ∀ (d k : Nat) (J : zI), p + d = k → k ≤ p + sz N x.1 → eqQ Qrk I J → NvM J (nmL N R) en → WoM J N (flR N R) en k (p + sz N x.1) → P9 (zi k - 1) J := by
    intro d
    induction d with
    | zero =>
      intro k J hk hk2 q nJ wJ
      refine h9 _ _ ?_
      rw [if_pos (show zi k - 1 < zi p by
        rw [show p = k by omega]
        by_cases u : k = 0
        · rw [u]
          decide
        · rw [show zi k - 1 = zi (k - 1) from zi_sub (b := 1) (by omega)]
          exact (zi_lt (by omega) (by omega)).mpr (by omega))]
      rw [show k = p by omega] at wJ
      exact hK J q nJ wJ
    | succ d ih =>
      intro k J hk hk2 q nJ wJ
      obtain ⟨q', rfl⟩ : ∃ q', k = q' + 1 := ⟨k - 1, by omega⟩
      refine h9 _ _ ?_
      rw [show zi (q' + 1) - 1 = zi q' from zi_sub (b := 1) (by omega), if_neg (fun u => by have := (zi_lt (by omega) (by omega)).mp u; omega), zi_tn (show q' < 2147483648 by omega)]
      have hy : (flR N R)[q']? = some ((flR N R)[q']'(by omega)) := List.getElem?_eq_getElem (by omega)
      generalize (flR N R)[q']'(by omega) = y at hy
      have hyp := fl_po hN hR hy
      have hym := po_le hN R hR _ hyp
      have hym : y.1 < m := by omega
      have hyi := sub_in hN hR hx hy (by omega) (by omega)
      have repJ : RepNM J m N := rep.kp ch (q.1 _ _ (by unfold Qrk Qna; omega)) (fun a j u1 u2 => q.1 a j (by unfold Qrk Qna; omega)) (fun j => q.2 511 j (by unfold Qrk Qna; omega))
      refine ⟨(zin_iff (by omega)).mpr (by omega), fun v3 ev3 => ?_⟩
      rw [q.1 521 q' (by unfold Qrk Qna; omega), (tv q' y hy).1] at ev3
      subst ev3
      have hyin : vp_in (zi y.1) 3700 := (zin_iff (by omega)).mpr (by omega)
      rw [zi_tn (show y.1 < 2147483648 by omega)]
      refine ⟨hyin, fun x5 ex5 => ?_⟩
      rw [show J.1 509 y.1 = Int32.ofInt (ndR (N y.1)) from (repJ.2 _ hym).1] at ex5
      intro P222 h222
      have nx : ∀ L, eqQ Qrk I L → NvM L (nmL N R) en → WoM L N (flR N R) en q' (p + sz N x.1) → P222 L := fun L qL nL wL => h222 L (fun v ev => by
        have e5 : v = zi q' - 1 := by
          rw [ev, Int32.sub_eq_add_neg]
        rw [e5]
        exact ih q' L (by omega) (by omega) qL nL wL)
      -- a value put
      have put : ∀ (A : zI) (v : Int32), eqQ Qrk I A → NvM A (nmL N R) en → (∀ c, A.1 532 c = J.1 532 c) → v = evN N en y.1 → vp_in (zi y.1) 3700 ∧ ∀ I_9, I_9 = zu A 532 y.1 v → P222 I_9 := fun A v qA nA eA hv => ⟨hyin, fun I9 e9 => nx I9 (by rw [e9]; exact qA.zu (Or.inr rfl)) (nA.kp (by rw [e9, zu_oo (by decide)]) (fun j => by rw [e9, zu_2]) (fun j => by rw [e9, zu_oo (by decide)])) (fun r z u1 u2 hz h4 => by
        rw [e9, zu_at]
        by_cases u : z.1 = y.1
        · rw [if_pos ⟨rfl, u⟩, hv, u]
        · rw [if_neg (fun w => u w.2), eA]
          refine wJ r z ?_ u2 hz h4
          refine Nat.lt_of_le_of_ne u1 (fun w => u ?_)
          rw [← w, hy] at hz
          cases hz
          rfl)⟩
      -- a CHILD, and what it is worth
      have child : ∀ (r k yy : Nat) (K2 : Int32 → Prop), ndR (N y.1) = (r : Int) → (rhS r)[k]? = some yy → (chN (N y.1) k < m → chN (N y.1) k ∈ ndC (N y.1) → ndM (N (chN (N y.1) k)) = yy → K2 (zi (chN (N y.1) k))) → w_M_childOf (zi y.1) (zi k) J K2 := fun r k yy K2 hr hk h => by
        obtain ⟨c1, c2, c3⟩ := chN_is hN hym hr hk
        exact s_MchildOf repJ hm hym (ch _ hym) c1 (h (by omega) (List.mem_of_getElem? c1) c2)
      have zin : ∀ z, z < m → vp_in (zi z) 3700 := fun z hz => (zin_iff (by omega)).mpr (by omega)
      have val : ∀ (r k yy : Nat), ndR (N y.1) = (r : Int) → (rhS r)[k]? = some yy → (yy = 2 ∨ yy = 3 ∨ yy = 4) → J.1 532 ((zi (chN (N y.1) k)).toNatClampNeg) = evN N en (chN (N y.1) k) := fun r k yy hr hk h => by
        obtain ⟨c1, c2, c3⟩ := chN_is hN hym hr hk
        obtain ⟨g, g1, g2, g3⟩ := kidP hN hR hy c1
        have hcm : chN (N y.1) k < m := by omega
        have := sz_pos hN hcm
        rw [zi_tn (show chN (N y.1) k < 2147483648 by omega), ← g2]
        exact wJ _ g (by omega) (by omega) g1 (by rw [g2]; exact ru4 hN hcm (by rw [c2]; exact h))
      intro P132 h132
      have ev := evN_eq (en := en) hN hym
      rcases hN y.1 hym with ⟨e1, -⟩ | ⟨r, s, hr11, -, e3, -⟩
      · rw [e1] at ex5
        subst ex5
        rw [if_neg (by decide), if_neg (by decide), if_neg (by decide), if_neg (by decide), if_neg (by decide), if_neg (by decide), if_neg (by decide)]
        refine nx J q nJ (fun r z u1 u2 hz h4 => wJ r z ?_ u2 hz h4)
        refine Nat.lt_of_le_of_ne u1 (fun w => ?_)
        rw [← w, hy] at hz
        cases hz
        omega
      · rw [e3, zi_int r] at ex5
        subst ex5
        have nr : ∀ b : Nat, b < 100 → r ≠ b → ¬ zi r = zi b := fun b hb hne w => hne ((zi_eq (by omega) (by omega)).mp w)
        have ni : ∀ b : Nat, r ≠ b → ¬ ndR (N y.1) = (b : Int) := fun b hne => by omega
        by_cases r4 : r = 4
        · subst r4
          rw [if_pos (show zi 4 = 4 from rfl)]
          rw [if_pos (show ndR (N y.1) = 4 from e3)] at ev
          refine child 4 0 2 _ e3 rfl (fun z1 _ _ => ⟨zin _ z1, child 4 2 3 _ e3 rfl (fun z2 _ _ => ⟨zin _ z2, put J _ q nJ (fun _ => rfl) ?_⟩)⟩)
          rw [val 4 0 2 e3 rfl (Or.inl rfl), val 4 2 3 e3 rfl (Or.inr (Or.inl rfl)), ev]
        rw [if_neg (show ¬ zi r = 4 from nr 4 (by decide) r4)]
        rw [if_neg (show ¬ ndR (N y.1) = 4 from ni 4 r4)] at ev
        by_cases r5 : r = 5
        · subst r5
          rw [if_pos (show zi 5 = 5 from rfl)]
          rw [if_pos (show ndR (N y.1) = 5 from e3)] at ev
          refine h132 (child 5 0 3 _ e3 rfl (fun z1 _ _ => ⟨zin _ z1, put J _ q nJ (fun _ => rfl) ?_⟩))
          rw [val 5 0 3 e3 rfl (Or.inr (Or.inl rfl)), ev]
        rw [if_neg (show ¬ zi r = 5 from nr 5 (by decide) r5)]
        rw [if_neg (show ¬ ndR (N y.1) = 5 from ni 5 r5)] at ev
        by_cases r6 : r = 6
        · subst r6
          rw [if_pos (show zi 6 = 6 from rfl)]
          rw [if_pos (show ndR (N y.1) = 6 from e3)] at ev
          refine child 6 0 3 _ e3 rfl (fun z1 _ _ => ⟨zin _ z1, child 6 2 4 _ e3 rfl (fun z2 _ _ => ⟨zin _ z2, put J _ q nJ (fun _ => rfl) ?_⟩)⟩)
          rw [val 6 0 3 e3 rfl (Or.inr (Or.inl rfl)), val 6 2 4 e3 rfl (Or.inr (Or.inr rfl)), ev]
        rw [if_neg (show ¬ zi r = 6 from nr 6 (by decide) r6)]
        rw [if_neg (show ¬ ndR (N y.1) = 6 from ni 6 r6)] at ev
        by_cases r7 : r = 7
        · subst r7
          rw [if_pos (show zi 7 = 7 from rfl)]
          rw [if_pos (show ndR (N y.1) = 7 from e3)] at ev
          refine h132 (child 7 0 4 _ e3 rfl (fun z1 _ _ => ⟨zin _ z1, put J _ q nJ (fun _ => rfl) ?_⟩))
          rw [val 7 0 4 e3 rfl (Or.inr (Or.inr rfl)), ev]
        rw [if_neg (show ¬ zi r = 7 from nr 7 (by decide) r7)]
        rw [if_neg (show ¬ ndR (N y.1) = 7 from ni 7 r7)] at ev
        by_cases r8 : r = 8
        · subst r8
          rw [if_pos (show zi 8 = 8 from rfl)]
          rw [if_pos (show ndR (N y.1) = 8 from e3)] at ev
          refine child 8 0 5 _ e3 rfl (fun z1 zc zM => ⟨zin _ z1, ?_⟩)
          obtain ⟨w1, w2⟩ := nm_child hN t hyp zc zM
          rw [zi_tn (show chN (N y.1) 0 < 2147483648 by omega), show J.2 511 (chN (N y.1) 0) = nmV N (chN (N y.1) 0) from ((repJ.2 _ z1).2.2.2.2.2.2 (by omega)).2]
          refine u_nameOf hS w1 nJ (fun r A hr qA nA hA _ => ⟨(zin_iff (by omega)).mpr (by omega), ?_⟩)
          rw [zi_tn (show r < 2147483648 by omega)]
          exact put A _ (q.tr (qA.mono (fun a j h => Or.inl h))) nA (fun c => qA.1 532 c (by unfold Qna; omega)) (by rw [hA, ev])
        rw [if_neg (show ¬ zi r = 8 from nr 8 (by decide) r8)]
        rw [if_neg (show ¬ ndR (N y.1) = 8 from ni 8 r8)] at ev
        by_cases r9 : r = 9
        · subst r9
          rw [if_pos (show zi 9 = 9 from rfl)]
          rw [if_pos (show ndR (N y.1) = 9 from e3)] at ev
          refine child 9 0 6 _ e3 rfl (fun z1 zc zM => ⟨zin _ z1, put J _ q nJ (fun _ => rfl) ?_⟩)
          have zr := nd_tk5 hN z1 (by omega)
          obtain ⟨c1, -⟩ := chN_is (k := 0) (y := 6) hN hym e3 rfl
          obtain ⟨tt, -, t2⟩ := fst_tok hN hR hy c1 (by omega)
          rw [zi_tn (show chN (N y.1) 0 < 2147483648 by omega), show J.2 511 (chN (N y.1) 0) = nmV N (chN (N y.1) 0) from ((repJ.2 _ z1).2.2.2.2.2.2 zr.1).2, ev]
          refine num_m (htz _ (List.mem_of_getElem? t2)) ?_
          unfold ndM at zM
          rw [if_pos zr.1] at zM
          omega
        rw [if_neg (show ¬ zi r = 9 from nr 9 (by decide) r9)]
        rw [if_neg (show ¬ ndR (N y.1) = 9 from ni 9 r9)] at ev
        by_cases r10 : r = 10
        · subst r10
          rw [if_pos (show zi 10 = 10 from rfl)]
          rw [if_pos (show ndR (N y.1) = 10 from e3)] at ev
          refine child 10 1 2 _ e3 rfl (fun z1 _ _ => ⟨zin _ z1, put J _ q nJ (fun _ => rfl) ?_⟩)
          rw [val 10 1 2 e3 rfl (Or.inl rfl), ev]
        rw [if_neg (show ¬ zi r = 10 from nr 10 (by decide) r10)]
        refine nx J q nJ (fun r' z u1 u2 hz h4 => wJ r' z ?_ u2 hz h4)
        refine Nat.lt_of_le_of_ne u1 (fun w => ?_)
        rw [← w, hy] at hz
        cases hz
        omega
  exact main (sz N x.1) (p + sz N x.1) I rfl (Nat.le_refl _) eqQ.rf nv (fun q y u1 u2 => by omega)
/-- all RUN: what NAMES are -/
def enL (N : Nat → Nd) : List Nat → (Int64 → Int32) → Int64 → Int32
  | [], en => en
  | s :: l, en => enL N l (up6 en (nmC N s) (evN N en (chN (N s) 2)))
theorem enL_app {N : Nat → Nd} : ∀ {l k : List Nat} {en : Int64 → Int32}, enL N (l ++ k) en = enL N k (enL N l en)
  | [], _, _ => rfl
  | s :: l, k, en => enL_app (l := l)
def lsL (N : Nat → Nd) : List Nat → (Int64 → Int32) → Int64 → Int32
  | [], L => L
  | s :: l, L => lsL N l (up6 L (nmC N s) (zi s))
theorem lsL_app {N : Nat → Nd} : ∀ {l k : List Nat} {L : Int64 → Int32}, lsL N (l ++ k) L = lsL N k (lsL N l L)
  | [], _, _ => rfl
  | s :: l, k, L => lsL_app (l := l)
def tmL (N : Nat → Nd) (v : Int64) : List Nat → Nat
  | [] => 0
  | s :: l => (if nmC N s = v then 1 else 0) + tmL N v l
theorem tmL_app {N : Nat → Nd} {v : Int64} : ∀ {l k : List Nat}, tmL N v (l ++ k) = tmL N v l + tmL N v k
  | [], _ => (Nat.zero_add _).symm
  | s :: l, k => by
    show (if nmC N s = v then 1 else 0) + tmL N v (l ++ k) = (if nmC N s = v then 1 else 0) + tmL N v l + tmL N v k
    rw [tmL_app]
    omega
theorem st2_sn {N : Nat → Nd} {F : List Fl} {p : Nat} {x : Fl} (hx : F[p]? = some x) : st2 N (F.take (p + 1)) = st2 N (F.take p) ++ (if ndR (N x.1) = 2 then [x.1] else []) := by
  rw [List.take_add_one, hx, st2_app]
  rfl
theorem ruAt_l {N : Nat → Nd} {F : List Fl} : ∀ p, p ≤ F.length → ruE (ruAt N F p) = enL N (st2 N (F.take p)) (fun _ => 0) ∧ ruL (ruAt N F p) = lsL N (st2 N (F.take p)) (fun _ => -2) ∧ ∀ v, ruT (ruAt N F p) v = tmL N v (st2 N (F.take p))
  | 0, _ => ⟨rfl, rfl, fun _ => rfl⟩
  | p + 1, hp => by
    obtain ⟨i1, i2, i3⟩ := ruAt_l (N := N) (F := F) p (by omega)
    have hx : F[p]? = some (F[p]'(by omega)) := List.getElem?_eq_getElem (by omega)
    generalize F[p]'(by omega) = x at hx
    rw [ruAt_s hx, st2_sn hx]
    by_cases u : ndR (N x.1) = 2
    · rw [if_pos u, if_pos u, enL_app, lsL_app, ← i1, ← i2]
      refine ⟨rfl, rfl, fun v => ?_⟩
      rw [tmL_app, ← i3 v]
      show up6 (ruT (ruAt N F p)) (nmC N x.1) (ruT (ruAt N F p) (nmC N x.1) + 1) v = _ + ((if nmC N x.1 = v then 1 else 0) + 0)
      by_cases e : v = nmC N x.1
      · rw [e, up6_s, if_pos rfl]
      · rw [up6_o e, if_neg (fun w => e w.symm)]
        rfl
    · rw [if_neg u, if_neg u, List.append_nil]
      exact ⟨i1, i2, i3⟩
theorem ruN_l {N : Nat → Nd} {R : Nat} : ruE (ruN N R) = enL N (setsOf N R) (fun _ => 0) ∧ ruL (ruN N R) = lsL N (setsOf N R) (fun _ => -2) ∧ ∀ v, ruT (ruN N R) v = tmL N v (setsOf N R) := by
  have h := ruAt_l (N := N) (F := flR N R) (flR N R).length (Nat.le_refl _)
  rw [List.take_length] at h
  exact h
theorem u_runsAll {m R n : Nat} {og : Nat → Nat} {N : Nat → Nd} {I : zI} {K : Int32 → zI → Prop} (rep : RepNM I m N) (hN : NdOk m N) (hm : m ≤ 3700) (t : TreeI m N R n og) (hu : ∀ (p q : Nat) (x y : Fl), (flR N R)[p]? = some x → (flR N R)[q]? = some y → x.1 = y.1 → p = q) (htz : ∀ z, z ∈ yl N R → tkZ (N z)) (vi : ViM I N R n) (hK : ∀ v J, eqQ Qra I J → NvM J (nmL N R) (ruE (ruN N R)) → K v J) : w_M_runsAll 0 I K := by
  have hR := t.1
  have ch := hN.ch
  have hS := nmL_len hN t
  have tv := vi.tv
  intro I1 e1
  have q1 : eqQ Qra I I1 := by
    rw [e1]
    exact eqQ.rf.zu (Or.inl (Or.inl (Or.inl ⟨rfl, rfl⟩)))
  have n1 : NvM I1 (nmL N R) (fun _ => 0) := ⟨[], by rw [e1, zu_self]; rfl, fun i v hi => (by cases hi), List.nodup_nil, fun v hv => (by cases hv), fun _ _ => rfl⟩
  obtain ⟨-, g53, -, g529⟩ := vi.2.2.2
  have hsl := sets_len hN t
  rw [ruN_l.1] at hK
  intro P9 h9
  have main : ∀ (d k : Nat) (v2 : Int32) (en : Int64 → Int32) (J : zI), k + d = (setsOf N R).length → eqQ Qra I J → NvM J (nmL N R) en → enL N ((setsOf N R).drop k) en = enL N (setsOf N R) (fun _ => 0) → P9 v2 (zi k) J := by
    intro d
    induction d with
    | zero =>
      intro k v2 en J hk q nJ he
      refine h9 _ _ _ ?_
      rw [q.1 491 53 (by unfold Qra Qrk Qna; omega), g53, if_pos ((zi_le (by omega) (by omega)).mpr (by omega))]
      rw [List.drop_of_length_le (by omega)] at he
      rw [← he] at hK
      exact hK _ J q nJ
    | succ d ih =>
      intro k v2 en J hk q nJ he
      refine h9 _ _ _ ?_
      rw [q.1 491 53 (by unfold Qra Qrk Qna; omega), g53, if_neg (fun u => by have := (zi_le (by omega) (by omega)).mp u; omega), zi_tn (show k < 2147483648 by omega)]
      refine ⟨(zin_iff (by omega)).mpr (by omega), fun v4 ev4 => ?_⟩
      have hs : (setsOf N R)[k]? = some ((setsOf N R)[k]'(by omega)) := List.getElem?_eq_getElem (by omega)
      have hdr : (setsOf N R).drop k = (setsOf N R)[k]'(by omega) :: (setsOf N R).drop (k + 1) := List.drop_eq_getElem_cons (by omega)
      generalize (setsOf N R)[k]'(by omega) = s at hs hdr
      rw [hdr] at he
      have he' : enL N ((setsOf N R).drop (k + 1)) (up6 en (nmC N s) (evN N en (chN (N s) 2))) = enL N (setsOf N R) (fun _ => 0) := he
      rw [q.1 529 k (by unfold Qra Qrk Qna; omega), g529 k s hs] at ev4
      subst ev4
      obtain ⟨x, x1, x2, x3⟩ := st2_mem (List.mem_of_getElem? hs)
      obtain ⟨p, hp⟩ := List.mem_iff_getElem?.mp x1
      have hsp := fl_po hN hR hp
      rw [x2] at hsp
      have hsm : s < m := by
        have := po_le hN R hR _ hsp
        omega
      have rp : ∀ A, eqQ Qra I A → RepNM A m N := fun A qA => rep.kp2 (qA.1 _ _ (by unfold Qra Qrk Qna; omega)) (fun a j u1 u2 => qA.1 a j (by unfold Qra Qrk Qna; omega)) (fun j => qA.2 511 j (by unfold Qra Qrk Qna; omega))
      have tvA : ∀ A, eqQ Qra I A → TvM A N R := fun A qA => tv.kp (fun a j u1 u2 => qA.1 a j (by unfold Qra Qrk Qna; omega))
      have x3' : ndR (N s) = ((2 : Nat) : Int) := x3
      obtain ⟨c1, c2, c3⟩ := chN_is (k := 2) (y := 2) hN hsm x3' rfl
      obtain ⟨d1, d2, d3⟩ := chN_is (k := 0) (y := 5) hN hsm x3' rfl
      have hem : chN (N s) 2 < m := by omega
      have hzm : chN (N s) 0 < m := by omega
      obtain ⟨w1, w2⟩ := nm_child hN t hsp (List.mem_of_getElem? d1) d2
      obtain ⟨i', y, -, y2, y3, -⟩ := fl_ch hN hR hp (by rw [x2]; exact c1)
      have y2' : (flR N R)[i']? = some y := y2
      have hpos := sz_pos hN hem
      intro P39 h39
      rw [if_pos (show (0 : Int32) = 0 from rfl)]
      refine h39 0 J ?_
      intro P66 h66
      have st : P66 0 := by
        refine h66 0 ?_
        intro v2' ev2'
        refine s_MchildOf (k := 2) (rp J q) hm hsm (ch _ hsm) c1 ⟨(zin_iff (by omega)).mpr (by omega), ?_⟩
        rw [zi_tn (show chN (N s) 2 < 2147483648 by omega), ← y3, ((tvA J q) i' y y2').2.1, y3]
        refine u_reckons (rp J q) hN hm t hu htz y2' (tvA J q) nJ (fun B qB nB wB => ?_)
        have qB' : eqQ Qra I B := q.tr (qB.mono (fun a j h => Or.inl h))
        refine s_MchildOf (k := 0) (rp B qB') hm hsm (ch _ hsm) d1 ⟨(zin_iff (by omega)).mpr (by omega), ?_⟩
        rw [zi_tn (show chN (N s) 0 < 2147483648 by omega), show B.2 511 (chN (N s) 0) = nmV N (chN (N s) 0) from (((rp B qB').2 _ hzm).2.2.2.2.2.2 (by omega)).2]
        refine u_nameOf hS w1 nB (fun r C hr qC nC hC hset => ⟨(zin_iff (by omega)).mpr (by omega), (zin_iff (by omega)).mpr (by omega), fun I15 e15 v3' ev3' => ?_⟩)
        rw [ev3', zi_succ]
        have qC' : eqQ Qra I C := qB'.tr (qC.mono (fun a j h => Or.inl (Or.inl h)))
        rw [zi_tn (show r < 2147483648 by omega), qC.1 532 _ (by unfold Qna; omega), ← y3, wB i' y (Nat.le_refl _) (by rw [y3]; omega) y2' (by rw [y3]; exact ru4 hN hem (Or.inl c2)), y3] at e15
        exact ih (k + 1) _ _ I15 (by omega) (by rw [e15]; exact qC'.zu (Or.inl (Or.inl (Or.inr (Or.inr rfl))))) (hset _ I15 e15) he'
      intro P64 h64
      rw [if_pos (show (0 : Int32) = 0 from rfl)]
      exact h64 st
  exact main (setsOf N R).length 0 0 (fun _ => 0) I1 (by omega) q1 n1 (by rw [List.drop_zero])
theorem u_isGoodName {x : Sg} {a : Int32} {I : zI} {K : Int32 → Prop} (hv : Iv x) (hR : RM I x) (h1 : ∀ i, i + 1 < nG x → a = zi i → gnI x a = some i → ndM (sgN x (moO (sgC x) i)) = 5 → I.2 507 i = nmV (sgN x) (moO (sgC x) i) → K 1) (h0 : gnI x a = none → K 0) : w_M_isGoodName a I K := by
  obtain ⟨k1, k2, k3, k4, k5⟩ := kd_ok hv.2.2.2.2.2.2.2.1.2.1
  obtain ⟨u1, u2⟩ := hR.2.2.2.2.2.2.2.1.2.2.2.2.2.2.1
  have l100 : nG x ≤ 100 := hv.2.2.2.2.2.2.2.1.2.1.2.2
  unfold gnI at h1 h0
  unfold w_M_isGoodName
  rw [u1]
  refine u_in (n := nG x) (by omega) (fun i hi e e2 => ?_) (fun e => ?_)
  · have h1' := h1 i
    rw [e2] at h1' h0
    dsimp only at h1' h0
    have hy := tkG_at hi
    obtain ⟨t1, t2⟩ := hv.2.2.2.2.2.2.2.1.2.2.2.2 i _ hy
    have hr := (hv.tr.2.2.2.2.1 i hi).2
    have hM : ndM (sgN x (moO (sgC x) i)) = 5 + (tkG x i).1 := by
      unfold ndM
      rw [hr, if_pos (by decide), t1]
    have h12 := (lex_ok hv.2.2.2.2.2.2.2.1.2.1.2.1 _ (List.mem_of_getElem? hy)).1
    have h12' := h12.1
    rw [if_neg (by decide), e]
    refine ⟨(zin_iff (by omega)).mpr (by omega), ?_⟩
    rw [zi_tn (show i < 2147483648 by omega), show I.1 504 i = zi (tkG x i).1 from (u2 i _ hy).1]
    by_cases u : (tkG x i).1 = 0
    · rw [if_pos (show zi (tkG x i).1 = 0 by rw [u]; rfl)]
      have h5 : ndM (sgN x (moO (sgC x) i)) = 5 := by omega
      rw [if_pos h5] at h1'
      refine h1' (gn_in hv hi h5) e rfl h5 ?_
      rw [show I.2 507 i = isV (txF (moG (sgC x))) (tkG x i) from (u2 i _ hy).2.2.2]
      unfold nmV
      rw [t1, t2]
      exact (isV_bs h12).symm
    · rw [if_neg (show ¬ zi (tkG x i).1 = 0 from fun w => u ((zi_eq (b := 0) (by omega) (by decide)).mp w))]
      rw [if_neg (by omega)] at h0
      exact h0 rfl
  · rw [if_pos rfl]
    rw [e] at h0
    exact h0 rfl
theorem gn_nm {x : Sg} (hv : Iv x) {i : Nat} (hi : i + 1 < nG x) (h5 : ndM (sgN x (moO (sgC x) i)) = 5) : nmV (sgN x) (moO (sgC x) i) ∈ nmL (sgN x) (moR (sgC x)) := by
  obtain ⟨p, f, f1, f2, -⟩ := tok_pl hv hi
  have hpo := fl_po hv.2.1 hv.tr.1 f1
  rw [f2] at hpo
  have hog := (hv.tr.2.2.2.2.1 i (by omega)).2
  refine List.mem_map.mpr ⟨moO (sgC x) i, List.mem_filter.mpr ⟨hpo, decide_eq_true ⟨hog, ?_⟩⟩, rfl⟩
  unfold ndM at h5
  rw [hog, if_pos (by decide)] at h5
  omega
theorem u_value {x : Sg} {a : Int32} {I : zI} {K : Int32 → zI → Prop} (hv : Iv x) (hR : RM I x) (hK : ∀ J, eqQ Qmo I J → RM J x → K (vValue x a) J) : w_M_value a I K := by
  have V := hR.view hv
  have done : ∀ J, eqQ Qal I J → K (vValue x a) J := fun J q => hK J (Qal_mo q) (hR.al hv q)
  have l100 : nG x ≤ 100 := hv.2.2.2.2.2.2.2.1.2.1.2.2
  have hm := V.2.2.1
  unfold vValue at done
  refine u_isGoodName hv hR (fun i hi e e2 h5 g7 => ?_) (fun e => ?_)
  · rw [e2] at done
    dsimp only at done
    rw [if_neg (by decide), e]
    refine u_runsAll V.1 V.2.1 (by omega) V.2.2.2.1 hv.fg.2.1 (tkz_R hv.2.1 hv.2.2.2.2.2.2.2.1).2 V.2.2.2.2.1 (fun v J q nJ => ?_)
    refine ⟨(zin_iff (by omega)).mpr (by omega), ?_⟩
    rw [zi_tn (show i < 2147483648 by omega), q.2 507 i (by unfold Qra Qrk Qna; omega), g7]
    refine u_nameOf (nmL_len V.2.1 V.2.2.2.1) (gn_nm hv hi h5) nJ (fun r C hr qC nC hC _ => ⟨(zin_iff (by omega)).mpr (by omega), ?_⟩)
    rw [zi_tn (show r < 2147483648 by omega), hC]
    exact done C ((Qra_al q).tr (qC.mono (fun a j h => Or.inr (Or.inr (Or.inl (Or.inl h))))))
  · rw [e] at done
    rw [if_pos rfl]
    exact done I eqQ.rf
theorem u_worth {x : Sg} {a : Int32} {I : zI} {K : Int32 → zI → Prop} (hv : Iv x) (hR : RM I x) (hK : ∀ J, eqQ Qmo I J → RM J x → K (vWorth x a) J) : w_M_worth a I K := by
  have V := hR.view hv
  have hm := V.2.2.1
  have done : ∀ J, eqQ Qal I J → K (vWorth x a) J := fun J q => hK J (Qal_mo q) (hR.al hv q)
  have htz := (tkz_R hv.2.1 hv.2.2.2.2.2.2.2.1).2
  unfold vWorth at done
  refine u_isTerm hv hR (fun p f hp e hlt e2 h4 => ?_) (fun p f hp e2 h4 => ?_) (fun e => ?_)
  · rw [e2] at done
    dsimp only at done
    rw [ffA_at hp, if_pos h4] at done
    rw [if_neg (by decide), e]
    have hin : vp_in (zi f.1) 3700 := (zin_iff (by omega)).mpr (by omega)
    have hpos := sz_pos hv.2.1 hlt
    refine u_runsAll V.1 V.2.1 (by omega) V.2.2.2.1 hv.fg.2.1 htz V.2.2.2.2.1 (fun v J q nJ => ⟨hin, ?_⟩)
    have V1 := (hR.al hv (Qra_al q)).view hv
    rw [zi_tn (show f.1 < 2147483648 by omega), (V1.2.2.2.2.1.tv p f hp).2.1]
    refine u_reckons V1.1 V1.2.1 (by omega) V1.2.2.2.1 hv.fg.2.1 htz hp V1.2.2.2.2.1.tv nJ (fun B qB nB wB => ⟨hin, ?_⟩)
    rw [wB p f (Nat.le_refl _) (by omega) hp h4]
    exact done B ((Qra_al q).tr (Qra_al (qB.mono (fun a j h => Or.inl h))))
  · rw [e2] at done
    dsimp only at done
    rw [ffA_at hp, if_neg h4] at done
    rw [if_pos rfl]
    exact done I eqQ.rf
  · rw [e] at done
    rw [if_pos rfl]
    exact done I eqQ.rf
