/-! ===== uses: which S set a NAME last ahead of a token that reads it ===== -/
theorem ex_fin : ∀ r, r < 11 → 4 ≤ r → (rhS r).all (fun y => decide (2 ≤ y)) = true := by decide +kernel
/-- within an E there is no S -/
theorem ex_sub {m : Nat} {N : Nat → Nd} (h : NdOk m N) (c : Nat) : c < m → 2 ≤ ndM (N c) → ∀ z ∈ po N c, 2 ≤ ndM (N z) := by
  induction c using Nat.strongRecOn with
  | ind c ih =>
    intro hc h2 z hz
    rw [po_eq h hc] at hz
    rcases List.mem_cons.mp hz with rfl | hz
    · exact h2
    · obtain ⟨y, hy, hzy⟩ := List.mem_flatMap.mp hz
      have hlt := h.lt hc hy
      refine ih y hlt (by omega) ?_ z hzy
      rcases h c hc with ⟨-, e2, -⟩ | ⟨r, s, hr, -, e3, -, -, e6, -⟩
      · rw [e2] at hy
        cases hy
      · have hM : ndM (N c) = syN r := by
          unfold ndM
          rw [e3, if_neg (by omega)]
          rfl
        have h4 : 4 ≤ r := by
          rw [hM] at h2
          have := (sy_fin r hr).2
          exact ru4_fin r hr (by omega)
        have ha := ex_fin r hr h4
        rw [← e6, List.all_map] at ha
        exact of_decide_eq_true (List.all_eq_true.mp ha y hy)
/-- a node's place is one -/
theorem one_pl {m R n : Nat} {N : Nat → Nd} {og : Nat → Nat} (h : NdOk m N) (hu : UqE m N) (t : TreeI m N R n og) : ∀ (p q : Nat) (x y : Fl), (flR N R)[p]? = some x → (flR N R)[q]? = some y → x.1 = y.1 → p = q := (t.flG h hu).2.1
/-- a node below one at a place: its place -/
theorem in_po {m R p q : Nat} {N : Nat → Nd} {x y : Fl} (hN : NdOk m N) (hR : R < m) (ho : ∀ (p q : Nat) (x y : Fl), (flR N R)[p]? = some x → (flR N R)[q]? = some y → x.1 = y.1 → p = q) (hx : (flR N R)[p]? = some x) (hy : (flR N R)[q]? = some y) : y.1 ∈ po N x.1 ↔ p ≤ q ∧ q < p + sz N x.1 := by
  rw [← seg_po hN hR hx]
  constructor
  · intro h
    obtain ⟨z, hz, e⟩ := List.mem_map.mp h
    obtain ⟨j, hj⟩ := List.mem_iff_getElem?.mp hz
    have hjl := (List.getElem?_eq_some_iff.mp hj).1
    rw [List.length_take] at hjl
    rw [List.getElem?_take, if_pos (by omega), List.getElem?_drop] at hj
    have := ho _ _ _ _ hj hy e
    omega
  · rintro ⟨h1, h2⟩
    have hh : (((flR N R).drop p).take (sz N x.1))[q - p]? = some y := by
      rw [List.getElem?_take, if_pos (by omega), List.getElem?_drop, show p + (q - p) = q by omega]
      exact hy
    exact List.mem_map.mpr ⟨y, List.mem_of_getElem? hh, rfl⟩
/-- statements lie one behind the other -/
theorem st_dj {m R p q : Nat} {N : Nat → Nd} {x y : Fl} (hN : NdOk m N) (hR : R < m) (ho : ∀ (p q : Nat) (x y : Fl), (flR N R)[p]? = some x → (flR N R)[q]? = some y → x.1 = y.1 → p = q) (hx : (flR N R)[p]? = some x) (hy : (flR N R)[q]? = some y) (hx2 : ndR (N x.1) = 2) (hy2 : ndR (N y.1) = 2) (h : p < q) : p + sz N x.1 ≤ q := by
  refine Nat.le_of_not_lt (fun u => ?_)
  have hin := (in_po hN hR ho hx hy).mpr ⟨Nat.le_of_lt h, u⟩
  obtain ⟨hxm, -⟩ := fl_szin hN hR hx
  obtain ⟨hym, -⟩ := fl_szin hN hR hy
  have hMy : ndM (N y.1) = 1 := by
    unfold ndM
    rw [hy2, if_neg (by decide)]
    show syN 2 = 1
    decide +kernel
  rw [po_eq hN hxm] at hin
  rcases List.mem_cons.mp hin with e | hin
  · have := ho _ _ _ _ hx hy e.symm
    omega
  · obtain ⟨z, hz, hzy⟩ := List.mem_flatMap.mp hin
    have hlt := hN.lt hxm hz
    have h2 : 2 ≤ ndM (N z) := by
      rcases hN x.1 hxm with ⟨e1, -⟩ | ⟨r, s, hr, -, e3, -, -, e6, -⟩
      · omega
      · have hr2 : r = 2 := by omega
        subst hr2
        have hz2 : ndM (N z) ∈ rhS 2 := by
          rw [← e6]
          exact List.mem_map.mpr ⟨z, hz, rfl⟩
        have hfin : ∀ y, y ∈ rhS 2 → 2 ≤ y := by decide +kernel
        exact hfin _ hz2
    have := ex_sub hN z (by omega) h2 y.1 hzy
    omega
/-- each NAME that is read is within a statement -/
theorem cov8 {m : Nat} {N : Nat → Nd} (h : NdOk m N) (c : Nat) : c < m → ndM (N c) ≤ 1 → ∀ z ∈ po N c, ndR (N z) = 8 → ∃ s ∈ po N c, ndR (N s) = 2 ∧ z ∈ po N (chN (N s) 2) := by
  induction c using Nat.strongRecOn with
  | ind c ih =>
    intro hc h1 z hz h8
    rw [po_eq h hc] at hz
    rcases h c hc with ⟨e1, -⟩ | ⟨r, s, hr, -, e3, -, -, e6, -⟩
    · unfold ndM at h1
      rw [e1, if_pos (by decide)] at h1
      omega
    · have hM : ndM (N c) = syN r := by
        unfold ndM
        rw [e3, if_neg (by omega)]
        rfl
      have hr3 : r ≤ 3 := by
        have hf : ∀ r, r < 11 → syN r ≤ 1 → r ≤ 3 := by decide +kernel
        exact hf r hr (by omega)
      rcases List.mem_cons.mp hz with rfl | hz
      · omega
      · obtain ⟨y, hy, hzy⟩ := List.mem_flatMap.mp hz
        have hlt := h.lt hc hy
        have hyM : ndM (N y) ∈ rhS r := by
          rw [← e6]
          exact List.mem_map.mpr ⟨y, hy, rfl⟩
        have tok : 5 ≤ ndM (N y) → False := fun h5 => by
          have := (nd_tk5 h (by omega) h5).1
          rw [po_eq h (by omega)] at hzy
          rcases List.mem_cons.mp hzy with rfl | hzy
          · omega
          · rcases h y (by omega) with ⟨-, f2, -⟩ | ⟨r', s', -, -, f3, -⟩
            · rw [f2] at hzy
              cases hzy
            · omega
        by_cases hy1 : ndM (N y) ≤ 1
        · obtain ⟨s', s1, s2, s3⟩ := ih y hlt (by omega) hy1 z hzy h8
          refine ⟨s', ?_, s2, s3⟩
          rw [po_eq h hc]
          exact List.mem_cons_of_mem _ (List.mem_flatMap.mpr ⟨y, hy, s1⟩)
        · have hr2 : r = 2 ∧ ndM (N y) = 2 := by
            have hf : ∀ r, r < 11 → r ≤ 3 → ∀ y, y ∈ rhS r → ¬ y ≤ 1 → 5 ≤ y ∨ (r = 2 ∧ y = 2) := by decide +kernel
            rcases hf r hr hr3 _ hyM hy1 with w | w
            · exact absurd (tok w) (fun f => f)
            · exact w
          obtain ⟨rfl, hy2⟩ := hr2
          have e3' : ndR (N c) = 2 := e3
          refine ⟨c, ?_, e3', ?_⟩
          · rw [po_eq h hc]
            exact List.mem_cons_self ..
          · have hyc : y = chN (N c) 2 := by
              obtain ⟨c1, c2, -⟩ := chN_is (k := 2) (y := 2) h hc e3 rfl
              obtain ⟨j, hj⟩ := List.mem_iff_getElem?.mp hy
              have hj2 : (rhS 2)[j]? = some 2 := by
                rw [← e6, List.getElem?_map, hj]
                show some (ndM (N y)) = some 2
                rw [hy2]
              have hf : ∀ j, j < 4 → (rhS 2)[j]? = some 2 → j = 2 := by decide +kernel
              have hj4 : j < 4 := (List.getElem?_eq_some_iff.mp hj2).1
              rw [hf j hj4 hj2, c1] at hj
              exact (Option.some.inj hj).symm
            rw [← hyc]
            exact hzy
theorem ntA {N : Nat → Nd} {L : Int64 → Int32} {i : Nat} : ∀ (l : List Fl) (u : UaZ), (∀ y ∈ l, ndR (N y.1) = 8 → y.2.2.1.toNat ≠ i) → (ntR N L l u).2 i = u.2 i
  | [], _, _ => rfl
  | y :: l, u, h => by
    show (ntR N L l (nt1 N L y u)).2 i = _
    rw [ntA l _ (fun z hz => h z (List.mem_cons_of_mem _ hz))]
    unfold nt1
    by_cases u8 : ndR (N y.1) = 8
    · rw [if_pos u8]
      show (if i = y.2.2.1.toNat then L (nmC N y.1) else u.2 i) = u.2 i
      rw [if_neg (fun e => h y (List.mem_cons_self ..) u8 e.symm)]
    · rw [if_neg u8]
theorem ntB {N : Nat → Nd} {L : Int64 → Int32} {i : Nat} {w : Int64} : ∀ (l : List Fl) (u : UaZ), (∀ y ∈ l, ndR (N y.1) = 8 → y.2.2.1.toNat = i → nmC N y.1 = w) → (∃ y ∈ l, ndR (N y.1) = 8 ∧ y.2.2.1.toNat = i) → (ntR N L l u).2 i = L w
  | [], _, _, h => by
    obtain ⟨y, hy, -⟩ := h
    cases hy
  | y :: l, u, h, ⟨z, hz, z8, zt⟩ => by
    show (ntR N L l (nt1 N L y u)).2 i = _
    by_cases c : ∃ y ∈ l, ndR (N y.1) = 8 ∧ y.2.2.1.toNat = i
    · exact ntB l _ (fun z hz => h z (List.mem_cons_of_mem _ hz)) c
    · rw [ntA l _ (fun y' hy' h8 e => c ⟨y', hy', h8, e⟩)]
      have hzy : z = y := by
        rcases List.mem_cons.mp hz with e | e
        · exact e
        · exact absurd ⟨z, e, z8, zt⟩ c
      subst hzy
      unfold nt1
      rw [if_pos z8]
      show (if i = z.2.2.1.toNat then L (nmC N z.1) else u.2 i) = L w
      rw [if_pos zt.symm, h z (List.mem_cons_self ..) z8 zt]
/-- a NAME that is read: its node is the one behind that of RULE 8 -/
theorem r8_at {m R q : Nat} {N : Nat → Nd} {y : Fl} (hN : NdOk m N) (hR : R < m) (hy : (flR N R)[q]? = some y) (h8 : ndR (N y.1) = 8) : (yl N R)[y.2.2.1.toNat]? = some (chN (N y.1) 0) ∧ ∃ f, (flR N R)[q + 1]? = some f ∧ f.1 = chN (N y.1) 0 := by
  obtain ⟨hym, -⟩ := fl_szin hN hR hy
  obtain ⟨c1, c2, -⟩ := chN_is (k := 0) (y := 5) hN hym (show ndR (N y.1) = ((8 : Nat) : Int) from h8) rfl
  obtain ⟨t, t1, t2⟩ := fst_tok hN hR hy c1 (by omega)
  obtain ⟨f, f1, f2, -⟩ := kidP hN hR hy c1
  rw [List.take_zero] at f1
  refine ⟨by rw [t1]; exact t2, f, f1, f2⟩
theorem sa_no {m R i : Nat} {N : Nat → Nd} (hN : NdOk m N) (hR : R < m) (hno : ∀ (q : Nat) (y : Fl), (flR N R)[q]? = some y → ndR (N y.1) = 8 → y.2.2.1.toNat ≠ i) : ∀ p, p ≤ (flR N R).length → (ruQ (ruAt N (flR N R) p)).2 i = -2
  | 0, _ => rfl
  | p + 1, hp => by
    have ih := sa_no hN hR hno p (by omega)
    have hx : (flR N R)[p]? = some ((flR N R)[p]'(by omega)) := List.getElem?_eq_getElem (by omega)
    generalize (flR N R)[p]'(by omega) = x at hx
    rw [ruAt_s hx]
    by_cases u : ndR (N x.1) = 2
    · rw [if_pos u]
      show (ntR N (ruL (ruAt N (flR N R) p)) (((flR N R).drop (p + 3)).take (sz N (chN (N x.1) 2))) (ruQ (ruAt N (flR N R) p))).2 i = -2
      rw [ntA _ _ (fun y hy h8 => ?_)]
      · exact ih
      · obtain ⟨q, hq⟩ := List.mem_iff_getElem?.mp (List.mem_of_mem_drop (List.mem_of_mem_take hy))
        exact hno q y hq h8
    · rw [if_neg u]
      exact ih
/-- a NAME read within a statement: what was set ahead of that -/
theorem sa_at {m R ps q : Nat} {N : Nat → Nd} {x y : Fl} (hN : NdOk m N) (hR : R < m) (ho : ∀ (p q : Nat) (x y : Fl), (flR N R)[p]? = some x → (flR N R)[q]? = some y → x.1 = y.1 → p = q) (hx : (flR N R)[ps]? = some x) (h2 : ndR (N x.1) = 2) (hy : (flR N R)[q]? = some y) (h8 : ndR (N y.1) = 8) (h1 : ps + 3 ≤ q) (h3 : q < ps + 3 + sz N (chN (N x.1) 2)) : ∀ p, ps < p → p ≤ (flR N R).length → (ruQ (ruAt N (flR N R) p)).2 y.2.2.1.toNat = ruL (ruAt N (flR N R) ps) (nmC N y.1)
  | 0, hp, _ => by omega
  | p + 1, hp, hl => by
    obtain ⟨y1, fy, fy1, fy2⟩ := r8_at hN hR hy h8
    have same : ∀ (q' : Nat) (y' : Fl), (flR N R)[q']? = some y' → ndR (N y'.1) = 8 → y'.2.2.1.toNat = y.2.2.1.toNat → q' = q ∧ nmC N y'.1 = nmC N y.1 := fun q' y' hq' h8' e => by
      obtain ⟨z1, fz, fz1, fz2⟩ := r8_at hN hR hq' h8'
      rw [e, y1] at z1
      have ec := Option.some.inj z1
      have := ho _ _ _ _ fz1 fy1 (by rw [fz2, fy2, ec])
      refine ⟨by omega, ?_⟩
      unfold nmC
      rw [ec]
    have hx' : (flR N R)[p]? = some ((flR N R)[p]'(by omega)) := List.getElem?_eq_getElem (by omega)
    generalize (flR N R)[p]'(by omega) = x' at hx'
    have segm : ∀ (y' : Fl), y' ∈ ((flR N R).drop (p + 3)).take (sz N (chN (N x'.1) 2)) → ∃ q', p + 3 ≤ q' ∧ q' < p + 3 + sz N (chN (N x'.1) 2) ∧ (flR N R)[q']? = some y' := fun y' hy' => by
      obtain ⟨j, hj⟩ := List.mem_iff_getElem?.mp hy'
      have hjl := (List.getElem?_eq_some_iff.mp hj).1
      rw [List.length_take] at hjl
      rw [List.getElem?_take, if_pos (by omega), List.getElem?_drop] at hj
      exact ⟨p + 3 + j, by omega, by omega, hj⟩
    rw [ruAt_s hx']
    by_cases e : ps = p
    · subst e
      rw [hx] at hx'
      cases hx'
      rw [if_pos h2]
      show (ntR N (ruL (ruAt N (flR N R) ps)) (((flR N R).drop (ps + 3)).take (sz N (chN (N x.1) 2))) (ruQ (ruAt N (flR N R) ps))).2 _ = _
      refine ntB _ _ (fun y' hy' h8' e' => ?_) ⟨y, ?_, h8, rfl⟩
      · obtain ⟨q', -, -, hq'⟩ := segm y' hy'
        exact (same q' y' hq' h8' e').2
      · have hh : (((flR N R).drop (ps + 3)).take (sz N (chN (N x.1) 2)))[q - (ps + 3)]? = some y := by
          rw [List.getElem?_take, if_pos (by omega), List.getElem?_drop, show ps + 3 + (q - (ps + 3)) = q by omega]
          exact hy
        exact List.mem_of_getElem? hh
    · have ih := sa_at hN hR ho hx h2 hy h8 h1 h3 p (by omega) (by omega)
      by_cases u : ndR (N x'.1) = 2
      · rw [if_pos u]
        show (ntR N (ruL (ruAt N (flR N R) p)) (((flR N R).drop (p + 3)).take (sz N (chN (N x'.1) 2))) (ruQ (ruAt N (flR N R) p))).2 _ = _
        rw [ntA _ _ (fun y' hy' h8' e' => ?_)]
        · exact ih
        · obtain ⟨q', u1, u2, hq'⟩ := segm y' hy'
          have := (same q' y' hq' h8' e').1
          have hdj := st_dj hN hR ho hx hx' h2 u (by omega)
          obtain ⟨-, -, -, -, -, -, f, -, -, f3⟩ := st_e hN hR hx h2
          omega
      · rw [if_neg u]
        exact ih
theorem st2_cut {N : Nat → Nd} {F : List Fl} {p : Nat} {x : Fl} (hx : F[p]? = some x) (h2 : ndR (N x.1) = 2) : st2 N F = st2 N (F.take p) ++ x.1 :: st2 N (F.drop (p + 1)) := by
  have hpl := (List.getElem?_eq_some_iff.mp hx).1
  have hd : F.drop p = x :: F.drop (p + 1) := by
    rw [List.drop_eq_getElem_cons hpl, (List.getElem?_eq_some_iff.mp hx).2]
  have e : F = F.take p ++ (x :: F.drop (p + 1)) := by
    rw [← hd, List.take_append_drop]
  have e2 : st2 N (x :: F.drop (p + 1)) = x.1 :: st2 N (F.drop (p + 1)) := if_pos h2
  rw [← e2, ← st2_app, ← e]
theorem u_uses {x : Sg} {a : Int32} {I : zI} {K : Int32 → Prop} (hv : Iv x) (hR : RM I x) (h : K (vUses x a)) : w_M_uses a I K := by
  have V := hR.view hv
  have hN := hv.2.1
  have hRm := hv.tr.1
  have ho := hv.fg.2.1
  have f248 : (flR (sgN x) (moR (sgC x))).length ≤ 248 := hv.f248
  have hm := V.2.2.1
  obtain ⟨n1, n2⟩ := V.nset
  have l100 : nG x ≤ 100 := hv.2.2.2.2.2.2.2.1.2.1.2.2
  unfold vUses at h
  refine u_isGoodName hv hR (fun i hi e e2 h5 g7 => ?_) (fun e => ?_)
  rotate_left
  · rw [e] at h
    rw [if_pos rfl]
    exact h
  rw [e2] at h
  dsimp only at h
  rw [if_neg (by decide), e]
  have hin : vp_in (zi i) 110 := (zin_iff (by omega)).mpr (by omega)
  obtain ⟨p, f, f1, f2, f3, f4, -⟩ := tok_pl hv hi
  have hpl : p < (flR (sgN x) (moR (sgC x))).length := (List.getElem?_eq_some_iff.mp f1).1
  have hog := (hv.tr.2.2.2.2.1 i (by omega)).1
  have hin2 : vp_in (zi (moO (sgC x) i)) 3700 := (zin_iff (by omega)).mpr (by omega)
  rw [zi_tn (show i < 2147483648 by omega), V.2.2.2.2.2.2.1 i (Nat.lt_of_succ_lt hi)]
  refine ⟨hin, hin2, ?_⟩
  rw [zi_tn (show moO (sgC x) i < 2147483648 by omega), ← f2, (V.2.2.2.2.1.tv p f f1).2.1]
  intro v2 ev2
  rw [f2]
  rcases u_parP hv hR f1 with ⟨b1, -⟩ | ⟨b1, b2, b3, b4, j, b5, -⟩
  · omega
  rw [f2] at b4
  rw [b4]
  generalize ffA x f.2.1 = y at b3 b5 ⊢
  generalize f.2.1 = q at b2 b3
  obtain ⟨hym, -⟩ := fl_szin hN hRm b3
  refine ⟨hin, hin2, (zin_iff (by omega)).mpr (by omega), ?_⟩
  rw [zi_tn (show y.1 < 2147483648 by omega), show I.1 509 y.1 = Int32.ofInt (ndR (sgN x y.1)) from (V.1.2 _ hym).1]
  -- the NAME is the first of its parent
  obtain ⟨r, hr, hr3, hj⟩ : ∃ r, r < 11 ∧ ndR (sgN x y.1) = ((r : Nat) : Int) ∧ (rhS r)[j]? = some 5 := by
    rcases hN y.1 hym with ⟨-, g2, -⟩ | ⟨r, s, g1, -, g3, -, -, g6, -⟩
    · rw [g2] at b5
      cases b5
    · refine ⟨r, g1, g3, ?_⟩
      rw [← g6, List.getElem?_map, b5]
      show some (ndM (sgN x f.1)) = some 5
      rw [f2, h5]
  have hrj : (r = 2 ∨ r = 8) ∧ j = 0 := by
    have hf : ∀ r, r < 11 → ∀ j, j < 4 → (rhS r)[j]? = some 5 → (r = 2 ∨ r = 8) ∧ j = 0 := by decide +kernel
    have hjl := (List.getElem?_eq_some_iff.mp hj).1
    have hf2 : ∀ r, r < 11 → (rhS r).length ≤ 4 := by decide +kernel
    have := hf2 r hr
    exact hf r hr j (by omega) hj
  obtain ⟨hr28, rfl⟩ := hrj
  have hc0 : chN (sgN x y.1) 0 = f.1 := by
    unfold chN
    rw [List.getD_eq_getElem?_getD, b5]
    rfl
  have hpq : p = q + 1 ∧ q + 1 < q + sz (sgN x) y.1 := by
    obtain ⟨g, g1, g2, g3⟩ := kidP hN hRm b3 b5
    have e0 : szS (sgN x) [] = 0 := rfl
    rw [List.take_zero, e0, Nat.add_zero] at g1 g3
    have hp1 := sz_pos hN (fl_szin hN hRm f1).1
    exact ⟨ho _ _ _ _ f1 g1 g2.symm, by omega⟩
  obtain ⟨hpq, hpq2⟩ := hpq
  rcases hr28 with rfl | rfl
  · -- it is set there
    have h2 : ndR (sgN x y.1) = 2 := hr3
    rw [if_pos (show Int32.ofInt (ndR (sgN x y.1)) = 2 by rw [h2]; rfl)]
    rw [show (ruQ (ruR x)).2 i = -2 from sa_no hN hRm (fun q' y' hq' h8 e' => by
      obtain ⟨z1, g, g1, g2⟩ := r8_at hN hRm hq' h8
      rw [e'] at z1
      have hyl := yl_at hv hi
      change (yl (sgN x) (moR (sgC x)))[i]? = _ at hyl
      rw [hyl] at z1
      have := ho _ _ _ _ g1 f1 (by rw [g2, f2]; exact (Option.some.inj z1).symm)
      have hq : q' = q := by omega
      rw [hq, b3] at hq'
      cases hq'
      omega) _ (Nat.le_refl _)] at h
    exact h
  · -- it is read there
    have h8 : ndR (sgN x y.1) = 8 := hr3
    rw [if_neg (show ¬ Int32.ofInt (ndR (sgN x y.1)) = 2 by rw [h8]; decide)]
    have hyi : y.2.2.1.toNat = i := by
      obtain ⟨c1, -⟩ := chN_is (k := 0) (y := 5) hN hym hr3 rfl
      obtain ⟨t, t1, t2⟩ := fst_tok hN hRm b3 c1 (by rw [hc0, f2]; omega)
      rw [hc0, f2] at t2
      have hyl := yl_at hv hi
      change (yl (sgN x) (moR (sgC x)))[i]? = _ at hyl
      have htl := (List.getElem?_eq_some_iff.mp t2).1
      rw [yl_len hN _ hRm, hv.tr.tk hN] at htl
      have ht2 := yl_at hv (show t + 1 < nG x by omega)
      change (yl (sgN x) (moR (sgC x)))[t]? = _ at ht2
      rw [t2] at ht2
      have := hv.tr.2.2.2.1 i t (by omega) (by omega) (Option.some.inj ht2)
      rw [t1]
      show (t : Int).toNat = i
      omega
    have hyp := fl_po hN hRm b3
    have hM0 : ndM (sgN x (moR (sgC x))) ≤ 1 := by
      rw [hv.tr.2.1]
      exact Nat.zero_le _
    obtain ⟨s, s1, s2, s3⟩ := cov8 hN _ hRm hM0 y.1 hyp h8
    have s1' := s1
    rw [← fl_map hN _ hRm 0 0 0 1] at s1'
    obtain ⟨xs, hxs, exs⟩ := List.mem_map.mp s1'
    obtain ⟨ps, hps⟩ := List.mem_iff_getElem?.mp hxs
    have hps' : (flR (sgN x) (moR (sgC x)))[ps]? = some xs := hps
    rw [← exs] at s2 s3
    obtain ⟨e1, e2', e3, e4, e5, e6, g, g1, g2, g3⟩ := st_e hN hRm hps' s2
    rw [← g2] at s3
    obtain ⟨w1, w2⟩ := (in_po hN hRm ho g1 b3).mp s3
    have w3 := sub_in hN hRm g1 b3 w1 w2
    rw [g2] at w2 w3
    have hsl := (List.getElem?_eq_some_iff.mp hps').1
    have hsa := sa_at hN hRm ho hps' s2 b3 h8 w1 w2 _ hsl (Nat.le_refl _)
    rw [hyi] at hsa
    have hnm : nmC (sgN x) y.1 = nmV (sgN x) (moO (sgC x) i) := by
      unfold nmC
      rw [hc0, f2]
    rw [hnm, (ruAt_l ps (Nat.le_of_lt hsl)).2.1] at hsa
    rw [show (ruQ (ruR x)).2 i = _ from hsa] at h
    have hcut := st2_cut (N := sgN x) hps' s2
    intro P51 h51
    have main : ∀ (d k : Nat), k + d = (st2 (sgN x) ((flR (sgN x) (moR (sgC x))).take ps)).length → P51 (lsL (sgN x) ((st2 (sgN x) ((flR (sgN x) (moR (sgC x))).take ps)).take k) (fun _ => -2) (nmV (sgN x) (moO (sgC x) i))) (zi k) := by
      intro d
      have len : (st2 (sgN x) ((flR (sgN x) (moR (sgC x))).take ps)).length < (setsOf (sgN x) (moR (sgC x))).length := by
        unfold setsOf
        rw [hcut, List.length_append, List.length_cons]
        omega
      induction d with
      | zero =>
        intro k hk
        have hkk : k = (st2 (sgN x) ((flR (sgN x) (moR (sgC x))).take ps)).length := by omega
        refine h51 _ _ ?_
        rw [n1, if_neg (fun u => by have := (zi_le (by omega) (by omega)).mp u; omega)]
        have hs : (setsOf (sgN x) (moR (sgC x)))[k]? = some xs.1 := by
          unfold setsOf
          rw [hcut, hkk, List.getElem?_append_right (Nat.le_refl _), Nat.sub_self]
          rfl
        obtain ⟨t1, t2, t3⟩ := V.2.2.2.2.1.tv ps xs hps'
        obtain ⟨z1, z2, z3⟩ := sz_inR hN hRm hps'
        have hxm := (fl_szin hN hRm hps').1
        refine ⟨(zin_iff (by omega)).mpr (by omega), ?_⟩
        rw [zi_tn (show k < 2147483648 by omega), show I.1 529 k = zi xs.1 from V.2.2.2.2.1.2.2.2.2.2.2 k _ hs]
        refine ⟨(zin_iff (by omega)).mpr (by omega), ?_⟩
        rw [zi_tn (show xs.1 < 2147483648 by omega), t2]
        refine ⟨(zin_iff (by omega)).mpr (by omega), ?_⟩
        rw [zi_tn (show ps < 2147483648 by omega), t3, z1, ev2, if_pos ((zi_lt (by omega) (by omega)).mpr (by omega)), hkk, List.take_length]
        exact h
      | succ d ih =>
        intro k hk
        refine h51 _ _ ?_
        rw [n1, if_neg (fun u => by have := (zi_le (by omega) (by omega)).mp u; omega)]
        have hk0 : (st2 (sgN x) ((flR (sgN x) (moR (sgC x))).take ps))[k]? = some ((st2 (sgN x) ((flR (sgN x) (moR (sgC x))).take ps))[k]'(by omega)) := List.getElem?_eq_getElem (by omega)
        generalize (st2 (sgN x) ((flR (sgN x) (moR (sgC x))).take ps))[k]'(by omega) = s' at hk0
        have hs : (setsOf (sgN x) (moR (sgC x)))[k]? = some s' := by
          unfold setsOf
          rw [hcut, List.getElem?_append_left (by omega)]
          exact hk0
        obtain ⟨xt, xt1, xt2, xt3⟩ := st2_mem (List.mem_of_getElem? hk0)
        obtain ⟨pt, hpt⟩ := List.mem_iff_getElem?.mp xt1
        have hptl := (List.getElem?_eq_some_iff.mp hpt).1
        rw [List.length_take] at hptl
        rw [List.getElem?_take, if_pos (by omega)] at hpt
        rw [← xt2] at xt3
        have hdj := st_dj hN hRm ho hpt hps' xt3 s2 (by omega)
        obtain ⟨t1, t2, t3⟩ := V.2.2.2.2.1.tv pt xt hpt
        obtain ⟨z1, z2, z3⟩ := sz_inR hN hRm hpt
        have hxm := (fl_szin hN hRm hpt).1
        have hk1 : vp_in (zi k) 110 := (zin_iff (by omega)).mpr (by omega)
        refine ⟨hk1, ?_⟩
        rw [zi_tn (show k < 2147483648 by omega), show I.1 529 k = zi xt.1 by rw [xt2]; exact V.2.2.2.2.1.2.2.2.2.2.2 k _ hs]
        refine ⟨(zin_iff (by omega)).mpr (by omega), ?_⟩
        rw [zi_tn (show xt.1 < 2147483648 by omega), t2]
        refine ⟨(zin_iff (by omega)).mpr (by omega), ?_⟩
        rw [zi_tn (show pt < 2147483648 by omega), t3, z1, ev2, if_neg (fun u => by have := (zi_lt (by omega) (by omega)).mp u; omega)]
        refine u_MsetName V hs ⟨hin, ?_⟩
        rw [g7]
        have ih' := ih (k + 1) (by omega)
        rw [List.take_add_one, hk0, lsL_app] at ih'
        have ih2 : P51 (up6 (lsL (sgN x) ((st2 (sgN x) ((flR (sgN x) (moR (sgC x))).take ps)).take k) (fun _ => -2)) (nmC (sgN x) s') (zi s') (nmV (sgN x) (moO (sgC x) i))) (zi (k + 1)) := ih'
        intro P105 h105
        by_cases u : nmC (sgN x) s' = nmV (sgN x) (moO (sgC x) i)
        · rw [u, up6_s] at ih2
          rw [if_pos (lg_cmp0.mpr u)]
          refine ⟨hk1, fun v3 ev3 => h105 _ (fun v' ev' => ?_)⟩
          rw [ev', ev3, zi_succ, xt2]
          exact ih2
        · rw [up6_o (fun w => u w.symm)] at ih2
          rw [if_neg (fun w => u (lg_cmp0.mp w))]
          refine h105 _ (fun v' ev' => ?_)
          rw [ev', zi_succ]
          exact ih2
    exact main _ 0 (by rw [Nat.zero_add])
