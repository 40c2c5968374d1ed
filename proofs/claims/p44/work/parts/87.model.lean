theorem TapM.kp {I J : zI} {t : List Int32} (h : TapM I t) (e1 : J.1 491 0 = I.1 491 0) (e2 : ∀ j, J.1 492 j = I.1 492 j) : TapM J t := ⟨e1.trans h.1, fun j v hj => by rw [e2]; exact h.2 j v hj⟩
theorem ViM.kp {I J : zI} {N : Nat → Nd} {R n : Nat} (h : ViM I N R n) (e : ∀ a j, (a = 491 ∧ (j = 37 ∨ j = 43 ∨ j = 51 ∨ j = 53)) ∨ (521 ≤ a ∧ a ≤ 526) ∨ a = 528 ∨ a = 529 → J.1 a j = I.1 a j) : ViM J N R n := by
  obtain ⟨v1, ⟨v2, v3, v4⟩, v5, v6, v7, v8, v9⟩ := h
  refine ⟨by rw [e _ _ (by omega)]; exact v1, ⟨by rw [e _ _ (by omega)]; exact v2, fun i x hi hx => ?_, fun c hc hno => by rw [e _ _ (by omega)]; exact v4 c hc hno⟩, fun i x hx => ?_, by rw [e _ _ (by omega)]; exact v6, by rw [e _ _ (by omega)]; exact v7, fun i r hi => by rw [e _ _ (by omega)]; exact v8 i r hi, fun i r hi => by rw [e _ _ (by omega)]; exact v9 i r hi⟩
  · obtain ⟨b1, b2, o, b3, b4, b5⟩ := v3 i x hi hx
    rw [e 521 _ (by omega), e 523 _ (by omega)]
    exact ⟨b1, b2, o, b3, by rw [e 526 _ (by omega)]; exact b4, b5⟩
  · obtain ⟨b1, b2, b3⟩ := v5 i x hx
    rw [e 522 _ (by omega)]
    refine ⟨b1, fun u => by rw [e 524 _ (by omega)]; exact b2 u, fun u => ?_⟩
    obtain ⟨y, j, c1, c2, c3, c4⟩ := b3 u
    exact ⟨y, j, c1, c2, by rw [e 524 _ (by omega)]; exact c3, by rw [e 525 _ (by omega)]; exact c4⟩
theorem PrM.kp {I J : zI} {pl : List (Nat × Nat)} (h : PrM I pl) (e : ∀ a j, (a = 491 ∧ j = 59) ∨ a = 533 ∨ a = 534 → J.1 a j = I.1 a j) : PrM J pl :=
  ⟨by rw [e _ _ (by omega)]; exact h.1, fun i p hi => by rw [e 533 _ (by omega), e 534 _ (by omega)]; exact h.2.1 i p hi, h.2.2⟩
def seg (l : List Int32) (a b : Nat) : List Int32 := (l.drop a).take (b - a)
theorem seg_len {l : List Int32} {a b : Nat} (h : b ≤ l.length) : (seg l a b).length = b - a := by
  unfold seg
  rw [List.length_take, List.length_drop]
  omega
theorem seg_succ {l : List Int32} {a b : Nat} (h : a ≤ b) (hb : b < l.length) : seg l a (b + 1) = seg l a b ++ [txF l b] := by
  unfold seg
  rw [show b + 1 - a = (b - a) + 1 by omega, List.take_add_one, List.getElem?_drop, show a + (b - a) = b by omega, List.getElem?_eq_getElem hb]
  show _ ++ [l[b]] = _ ++ [txF l b]
  rw [txF_at (List.getElem?_eq_getElem hb)]
theorem seg_nil {l : List Int32} {a : Nat} : seg l a a = [] := by
  unfold seg
  rw [Nat.sub_self, List.take_zero]
theorem txF_snoc {l : List Int32} {v : Int32} {j : Nat} : txF (l ++ [v]) j = if j < l.length then txF l j else if j = l.length then v else 0 := by
  unfold txF
  rw [List.getD_eq_getElem?_getD, List.getD_eq_getElem?_getD]
  by_cases u : j < l.length
  · rw [if_pos u, List.getElem?_append_left u]
  · rw [if_neg u]
    by_cases w : j = l.length
    · rw [if_pos w, w, List.getElem?_append_right (Nat.le_refl _), Nat.sub_self]
      rfl
    · rw [if_neg w, List.getElem?_eq_none (by rw [List.length_append]; show l.length + 1 ≤ j; omega)]
      rfl
/-! the class's draft -/
def DrX (I : zI) (d : List Int32) : Prop := I.1 4 1 = zi d.length ∧ ∀ j, j < d.length → j < 300 → I.1 6 j = txF d j
def Qap (a j : Nat) : Prop := (a = 4 ∧ j = 1) ∨ a = 6
theorem s_mAppend {kr n a b : Nat} {t d : List Int32} {I : zI} {K : zI → Prop} (hkr : kr + 1 ≠ 4 ∧ kr + 1 ≠ 6) (hn : n < 2147483648) (ht : t.length ≤ n) (hsrc : ∀ j, j < t.length → I.1 (kr + 1) j = txF t j) (hab : a ≤ b) (hb : b ≤ t.length) (hbn : b ≤ 1000) (hd : d.length ≤ 10000) (hD : DrX I d)
    (hK : ∀ J, eqQ Qap I J → DrX J (d ++ seg t a b) → K J) : w_Moment_append 4 kr n (zi a) (zi b) I K := by
  intro P3 h3
  have main : ∀ (f i : Nat) (J : zI), i + f = b → a ≤ i → eqQ Qap I J → DrX J (d ++ seg t a i) → P3 (zi i) J := by
    intro f
    induction f with
    | zero =>
      intro i J hi ha q dJ
      refine h3 _ _ ?_
      rw [if_pos ((zi_le (by omega) (by omega)).mpr (by omega))]
      exact hK J q (by rw [show b = i by omega]; exact dJ)
    | succ f ih =>
      intro i J hi ha q dJ
      refine h3 _ _ ?_
      rw [if_neg (fun u => by have := (zi_le (by omega) (by omega)).mp u; omega)]
      refine (w_get hn).mpr ?_
      rw [rg_in hn (show i < n by omega), q.1 (kr + 1) i (by unfold Qap; omega), hsrc i (by omega)]
      have hl : (d ++ seg t a i).length = d.length + (i - a) := by rw [List.length_append, seg_len (by omega)]
      refine (w_set (by decide)).mpr ?_
      rw [dJ.1]
      have hnx : d ++ seg t a (i + 1) = (d ++ seg t a i) ++ [txF t i] := by rw [seg_succ ha (by omega), List.append_assoc]
      have hln : ((d ++ seg t a i) ++ [txF t i]).length = (d ++ seg t a i).length + 1 := List.length_append
      by_cases u : (d ++ seg t a i).length < 300
      · rw [rs_in (by decide) u]
        intro I5 e5 v ev
        rw [show (zu J (4 + 1 + 1) (d ++ seg t a i).length (txF t i)).1 4 1 = zi (d ++ seg t a i).length by rw [zu_oo (by decide)]; exact dJ.1, zi_succ] at e5
        rw [ev, zi_succ]
        refine ih (i + 1) I5 (by omega) (by omega) (by rw [e5]; exact (q.zu (Or.inr rfl)).zu (Or.inl ⟨rfl, rfl⟩)) ?_
        rw [hnx]
        refine ⟨by rw [e5, zu_self, hln], fun j hj h300 => ?_⟩
        rw [e5, zu_oo (by decide), zu_at, txF_snoc]
        by_cases w : j = (d ++ seg t a i).length
        · rw [if_pos ⟨rfl, w⟩, if_neg (by omega), if_pos w]
        · rw [if_neg (fun z => w z.2), if_pos (by omega)]
          exact dJ.2 j (by omega) h300
      · rw [rs_out (by decide) (by omega) (by omega)]
        intro I5 e5 v ev
        rw [dJ.1, zi_succ] at e5
        rw [ev, zi_succ]
        refine ih (i + 1) I5 (by omega) (by omega) (by rw [e5]; exact q.zu (Or.inl ⟨rfl, rfl⟩)) ?_
        rw [hnx]
        refine ⟨by rw [e5, zu_self, hln], fun j hj h300 => ?_⟩
        rw [e5, zu_oo (by decide), txF_snoc, if_pos (by omega)]
        exact dJ.2 j (by omega) h300
  exact main (b - a) a I (by omega) (Nat.le_refl _) eqQ.rf (by rw [seg_nil, List.append_nil]; exact hD)
/-! the model's new bytes -/
def NwM (I : zI) (d : List Int32) : Prop := ∀ j, j < d.length → I.1 493 j = txF d j
theorem lexF_sorted {t : Nat → Int32} {n : Nat} (hb : ∀ j, j < n → byt (t j)) : ∀ (f i a b : Nat) (x y : Nat × Nat × Nat), a < b → (lexF t n f i)[a]? = some x → (lexF t n f i)[b]? = some y → x.2.1 + x.2.2 ≤ y.2.1
  | 0, i, a, b, x, y, hab, hx, hy => by cases hx
  | f + 1, i, a, b, x, y, hab, hx, hy => by
    rw [lexF] at hx hy
    by_cases h1 : n ≤ i
    · rw [if_pos h1] at hx
      cases hx
    · rw [if_neg h1] at hx hy
      by_cases h2 : isB (t i) = true
      · rw [if_pos h2] at hx hy
        exact lexF_sorted hb f (i + 1) a b x y hab hx hy
      · rw [if_neg h2] at hx hy
        obtain ⟨b', rfl⟩ : ∃ b', b = b' + 1 := ⟨b - 1, by omega⟩
        rw [List.getElem?_cons_succ] at hy
        cases a with
        | zero =>
          cases hx
          have := (lexF_ok hb f _ y (List.mem_of_getElem? hy)).2.2.1
          exact this
        | succ a =>
          rw [List.getElem?_cons_succ] at hx
          exact lexF_sorted hb f _ a b' x y (by omega) hx hy
theorem lexL_sorted {l : List Int32} (h : txOk l) {a b : Nat} {x y : Nat × Nat × Nat} (hab : a < b) (hx : (lexL l)[a]? = some x) (hy : (lexL l)[b]? = some y) : x.2.1 + x.2.2 ≤ y.2.1 := by
  have hx' : (lexF (txF l) l.length l.length 0 ++ [(10, l.length, 0)])[a]? = some x := hx
  have hy' : (lexF (txF l) l.length l.length 0 ++ [(10, l.length, 0)])[b]? = some y := hy
  rcases snoc_at hx' with hx2 | ⟨e1, -⟩
  · rcases snoc_at hy' with hy2 | ⟨-, e2⟩
    · exact lexF_sorted h.2.1 _ _ a b x y hab hx2 hy2
    · rw [e2]
      exact (lexF_ok h.2.1 _ _ x (List.mem_of_getElem? hx2)).2.2.2.2
  · have := (List.getElem?_eq_some_iff.mp hy').1
    rw [List.length_append] at this
    change b < _ + 1 at this
    omega
theorem lexL_in {l : List Int32} (h : txOk l) {a : Nat} {x : Nat × Nat × Nat} (hx : (lexL l)[a]? = some x) : x.2.1 + x.2.2 ≤ l.length := (lex_ok h.2.1 x (List.mem_of_getElem? hx)).2
/-! where RUNS are -/
def fstF (F : List Fl) (r : Nat) : Nat := match F.find? (fun x => x.1 == r) with
  | some x => x.2.2.1.toNat
  | none => 0
theorem fstF_at {F : List Fl} {p : Nat} {x : Fl} (hu : ∀ (p q : Nat) (x y : Fl), F[p]? = some x → F[q]? = some y → x.1 = y.1 → p = q) (hp : F[p]? = some x) : fstF F x.1 = x.2.2.1.toNat := by
  have h : F.find? (fun y => y.1 == x.1) = some x := by
    obtain ⟨hl, hx⟩ := List.getElem?_eq_some_iff.mp hp
    refine List.find?_eq_some_iff_getElem.mpr ⟨beq_self_eq_true _, p, hl, hx, fun j hj => ?_⟩
    have hj2 : F[j]? = some (F[j]'(by omega)) := List.getElem?_eq_getElem (by omega)
    have ne : (F[j]'(by omega)).1 ≠ x.1 := fun e => by
      have := hu j p _ _ hj2 hp e
      omega
    rw [Bool.not_eq_true', beq_eq_false_iff_ne]
    exact ne
  unfold fstF
  rw [h]
theorem rn_ok {m : Nat} {N : Nat → Nd} {F : List Fl} (h : NdOk m N) : ∀ (d p t : Nat) (w : List (Nat × Nat × Nat)), (∀ y ∈ w, y.1 < m) → F.drop p = flS N w p t → ∀ (i r : Nat), (rnL N F d p)[i]? = some r → ∃ (q f : Nat) (x : Fl), F[q]? = some x ∧ x.1 = r ∧ x.2.2.1 = (f : Int) ∧ t ≤ f ∧ r < m ∧ 1 ≤ ndT (N r) ∧
    ∀ r', (rnL N F d p)[i + 1]? = some r' → ∃ (q' f' : Nat) (x' : Fl), F[q']? = some x' ∧ x'.1 = r' ∧ x'.2.2.1 = (f' : Int) ∧ f + ndT (N r) ≤ f'
  | 0, _, _, _, _, _, i, r, hr => by cases hr
  | d + 1, p, t, w, hw, hdr, i, r, hr => by
    cases hx : F[p]? with
    | none =>
      rw [rnL_no (List.getElem?_eq_none_iff.mp hx)] at hr
      cases hr
    | some x =>
      obtain ⟨c, q, dd, w', rfl, hc, rfl, h1, h2⟩ := flS_hd h hw hdr hx
      have hw' : ∀ y ∈ w', y.1 < m := fun y hy => hw y (List.mem_cons_of_mem _ hy)
      rw [rnL_at hx] at hr ⊢
      by_cases u : ndM (N c) = 1
      · rw [if_pos (show ndM (N (flH N c q t dd).1) = 1 from u)] at hr ⊢
        have hT := tok1 h c hc (Or.inl (by omega))
        have hf : (flH N c q t dd).2.2.1 = (t : Int) := if_neg (by omega)
        cases i with
        | zero =>
          cases hr
          refine ⟨p, t, _, hx, rfl, hf, Nat.le_refl _, hc, hT, fun r' hr' => ?_⟩
          rw [List.getElem?_cons_succ] at hr'
          obtain ⟨q', f', x', a1, a2, a3, a4, -⟩ := rn_ok h d (p + sz N c) (t + ndT (N c)) w' hw' h2 0 r' hr'
          exact ⟨q', f', x', a1, a2, a3, a4⟩
        | succ i =>
          rw [List.getElem?_cons_succ] at hr
          obtain ⟨q', f', x', a1, a2, a3, a4, a5, a6, a7⟩ := rn_ok h d (p + sz N c) (t + ndT (N c)) w' hw' h2 i r hr
          refine ⟨q', f', x', a1, a2, a3, by omega, a5, a6, fun r' hr' => ?_⟩
          rw [List.getElem?_cons_succ] at hr'
          exact a7 r' hr'
      · rw [if_neg (show ¬ ndM (N (flH N c q t dd).1) = 1 from u)] at hr ⊢
        obtain ⟨q', f', x', a1, a2, a3, a4, a5, a6, a7⟩ := rn_ok h d (p + 1) _ _ (fun y hy => by
          rcases List.mem_append.mp hy with hy | hy
          · obtain ⟨z, hz, rfl⟩ := List.mem_map.mp hy
            have := h.lt hc hz
            show z < m
            omega
          · exact hw' y hy) h1 i r hr
        exact ⟨q', f', x', a1, a2, a3, by omega, a5, a6, a7⟩
def fsR (x : Sg) (i : Nat) : Nat := fstF (flR (sgN x) (moR (sgC x))) ((runsOf (sgN x) (moR (sgC x))).getD i 0)
def lsR (x : Sg) (i : Nat) : Nat := fsR x i + ndT (sgN x ((runsOf (sgN x) (moR (sgC x))).getD i 0)) - 1
def tkG (x : Sg) (k : Nat) : Nat × Nat × Nat := (lexL (moG (sgC x))).getD k (10, 0, 0)
/-- where the i-th RUN begins, and where it ends -/
def rS (x : Sg) (i : Nat) : Nat := (tkG x (fsR x i)).2.1
def rE (x : Sg) (i : Nat) : Nat := (tkG x (lsR x i)).2.1 + (tkG x (lsR x i)).2.2
theorem run_ok {x : Sg} (hv : Iv x) {i r : Nat} (hr : (runsOf (sgN x) (moR (sgC x)))[i]? = some r) : r < sgM x ∧ 1 ≤ ndT (sgN x r) ∧ fsR x i + ndT (sgN x r) < (lexL (moG (sgC x))).length ∧ (runsOf (sgN x) (moR (sgC x))).getD i 0 = r ∧ (∃ (p : Nat) (y : Fl), (flR (sgN x) (moR (sgC x)))[p]? = some y ∧ y.1 = r ∧ y.2.2.1 = (fsR x i : Int)) ∧
    rS x i ≤ rE x i ∧ rE x i ≤ (moG (sgC x)).length ∧ ((runsOf (sgN x) (moR (sgC x)))[i + 1]? ≠ none → rE x i ≤ rS x (i + 1)) := by
  obtain ⟨hTp, hN, hu, hm, hTk, ⟨hP1, hP2⟩, hE, hC, hA, hZ, hAZ⟩ := hv
  obtain ⟨oT, oG, oB, oR, oK⟩ := hC
  have fg := oR.flG hN hu
  have hst : (flR (sgN x) (moR (sgC x))).drop 0 = flS (sgN x) [(moR (sgC x), 0, 1)] 0 0 := by
    rw [List.drop_zero]
    show fl (sgN x) (moR (sgC x)) 0 0 0 1 = fl (sgN x) (moR (sgC x)) 0 0 0 1 ++ []
    rw [List.append_nil]
  have hw0 : ∀ y ∈ [(moR (sgC x), 0, 1)], y.1 < sgM x := fun y hy => by cases List.mem_singleton.mp hy; exact oR.1
  have hgd : ∀ (i r : Nat), (runsOf (sgN x) (moR (sgC x)))[i]? = some r → (runsOf (sgN x) (moR (sgC x))).getD i 0 = r := fun i r h => by
    rw [List.getD_eq_getElem?_getD, h]
    rfl
  have hfs : ∀ (i r q f : Nat) (z : Fl), (runsOf (sgN x) (moR (sgC x)))[i]? = some r → (flR (sgN x) (moR (sgC x)))[q]? = some z → z.1 = r → z.2.2.1 = (f : Int) → fsR x i = f := fun i r q f z h1 h2 h3 h4 => by
    unfold fsR
    rw [hgd i r h1, ← h3, fstF_at fg.2.1 h2, h4, Int.toNat_natCast]
  obtain ⟨q, f, y, a1, a2, a3, -, a5, a6, a7⟩ := rn_ok hN 400 0 0 _ hw0 hst i r hr
  have e1 := hfs i r q f y hr a1 a2 a3
  have hbd : f + ndT (sgN x r) < (lexL (moG (sgC x))).length := by
    rcases (fg.2.2 q y a1).1 with u | ⟨f', u1, u2, u3⟩
    · omega
    · rw [a2] at u3
      omega
  have hat : ∀ k, k < (lexL (moG (sgC x))).length → (lexL (moG (sgC x)))[k]? = some (tkG x k) := fun k hk => by
    unfold tkG
    rw [List.getD_eq_getElem?_getD, List.getElem?_eq_getElem hk]
    rfl
  have hls : lsR x i = f + ndT (sgN x r) - 1 := by
    unfold lsR
    rw [e1, hgd i r hr]
  refine ⟨a5, a6, by rw [e1]; exact hbd, hgd i r hr, ⟨q, y, a1, a2, by rw [a3, e1]⟩, ?_, ?_, fun hn => ?_⟩
  · unfold rS rE
    rw [e1, hls]
    by_cases u : ndT (sgN x r) = 1
    · rw [u, Nat.add_sub_cancel]
      omega
    · have := lexL_sorted oG (show f < f + ndT (sgN x r) - 1 by omega) (hat f (by omega)) (hat _ (by omega))
      omega
  · unfold rE
    rw [hls]
    exact lexL_in oG (hat _ (by omega))
  · obtain ⟨r', hr'⟩ := Option.ne_none_iff_exists'.mp hn
    obtain ⟨q', f', y', b1, b2, b3, b4⟩ := a7 r' hr'
    have e2 := hfs (i + 1) r' q' f' y' hr' b1 b2 b3
    have hf' : f' < (lexL (moG (sgC x))).length := by
      rcases (fg.2.2 q' y' b1).1 with u | ⟨f'', u1, u2, u3⟩
      · omega
      · omega
    unfold rS rE
    rw [hls, e2]
    exact lexL_sorted oG (by omega) (hat _ (by omega)) (hat _ hf')
