/-! ===== a NAME changed ===== -/
def nmOk (tp : List Int32) : Bool := decide (1 ≤ tp.length) && (decide (tp.length ≤ 8) && tp.all isL)
/-- the text with each token that is chosen changed -/
def ren (tx tape : List Int32) (sel : Nat × Nat × Nat → Bool) : List (Nat × Nat × Nat) → Nat → List Int32
  | [], f => seg tx f tx.length
  | y :: ys, f => if sel y = true then seg tx f y.2.1 ++ tape ++ ren tx tape sel ys (y.2.1 + y.2.2) else ren tx tape sel ys f
theorem seg_app {l : List Int32} {a b c : Nat} (h1 : a ≤ b) (h2 : b ≤ c) : seg l a c = seg l a b ++ seg l b c := by
  unfold seg
  refine List.ext_getElem? (fun j => ?_)
  by_cases u : j < b - a
  · by_cases w : a + j < l.length
    · rw [List.getElem?_append_left (by rw [List.length_take, List.length_drop]; omega), List.getElem?_take, List.getElem?_take, if_pos u, if_pos (by omega)]
    · rw [List.getElem?_eq_none (by rw [List.length_take, List.length_drop]; omega), List.getElem?_eq_none (by rw [List.length_append, List.length_take, List.length_drop, List.length_take, List.length_drop]; omega)]
  · by_cases w : b ≤ l.length
    · rw [List.getElem?_append_right (by rw [List.length_take, List.length_drop]; omega), List.length_take, List.length_drop, Nat.min_eq_left (by omega)]
      by_cases z : j < c - a
      · rw [List.getElem?_take, if_pos z, List.getElem?_take, if_pos (by omega), List.getElem?_drop, List.getElem?_drop]
        congr 1
        omega
      · rw [List.getElem?_take, if_neg z, List.getElem?_take, if_neg (by omega)]
    · rw [List.getElem?_eq_none (by rw [List.length_take, List.length_drop]; omega), List.getElem?_eq_none (by rw [List.length_append, List.length_take, List.length_drop, List.length_take, List.length_drop]; omega)]
theorem ren_seg {tx tape : List Int32} {sel : Nat × Nat × Nat → Bool} : ∀ (ys : List (Nat × Nat × Nat)) (a b : Nat), a ≤ b → b ≤ tx.length → (∀ y ∈ ys, b ≤ y.2.1) → ren tx tape sel ys a = seg tx a b ++ ren tx tape sel ys b
  | [], a, b, h1, h2, _ => seg_app h1 h2
  | y :: ys, a, b, h1, h2, h3 => by
    have hy := h3 y (List.mem_cons_self ..)
    show (if sel y = true then seg tx a y.2.1 ++ tape ++ ren tx tape sel ys (y.2.1 + y.2.2) else ren tx tape sel ys a) = seg tx a b ++ (if sel y = true then seg tx b y.2.1 ++ tape ++ ren tx tape sel ys (y.2.1 + y.2.2) else ren tx tape sel ys b)
    by_cases u : sel y = true
    · rw [if_pos u, if_pos u, seg_app h1 hy, List.append_assoc, List.append_assoc, List.append_assoc]
    · rw [if_neg u, if_neg u, ren_seg ys a b h1 h2 (fun z hz => h3 z (List.mem_cons_of_mem _ hz))]
theorem ren_bt {tx tape : List Int32} {sel : Nat × Nat × Nat → Bool} (h1 : BtL tx) (h2 : BtL tape) : ∀ (ys : List (Nat × Nat × Nat)) (a : Nat), BtL (ren tx tape sel ys a)
  | [], a => h1.sg
  | y :: ys, a => by
    show BtL (if sel y = true then seg tx a y.2.1 ++ tape ++ ren tx tape sel ys (y.2.1 + y.2.2) else ren tx tape sel ys a)
    by_cases u : sel y = true
    · rw [if_pos u]
      exact ((h1.sg).app h2).app (ren_bt h1 h2 ys _)
    · rw [if_neg u]
      exact ren_bt h1 h2 ys a
/-- of the i-th token the tokens alike are chosen -/
def selN (t : List Int32) (i : Nat) (y : Nat × Nat × Nat) : Bool := alB (txF t) ((lexL t).getD i (10, 0, 0)) (txF t) y
def renD (x : Sg) (i : Nat) : List Int32 := ren (moT (sgC x)) (sgT x) (selN (moT (sgC x)) i) (lexL (moT (sgC x))) 0
def renR (x : Sg) (i : Int32) : Int32 × Sg := if moB (sgC x) = true ∧ (0 ≤ i ∧ i < zi (lexL (moT (sgC x))).length) ∧ ((lexL (moT (sgC x))).getD i.toNatClampNeg (10, 0, 0)).1 = 0 ∧ nmOk (sgT x) = true then doC x (renD x i.toNatClampNeg) true else (-1, x)
theorem s_tkSame {k i j : Nat} {t : Nat → Int32} {l : List (Nat × Nat × Nat)} {x y : Nat × Nat × Nat} {I : zI} {K : Int32 → Prop} (rep : RepT I k t l) (hi : l[i]? = some x) (hj : l[j]? = some y) (hl : l.length ≤ 100) (hx : tkOk t x) (hy : tkOk t y) (hK : K (b01 (alB t x t y))) : w_Tokens_sameBytes k (zi i) (zi j) I K := by
  have hil := (List.getElem?_eq_some_iff.mp hi).1
  have hjl := (List.getElem?_eq_some_iff.mp hj).1
  obtain ⟨r1, -, r3, r4, r5⟩ := rep.2 i x hi
  obtain ⟨q1, -, q3, q4, q5⟩ := rep.2 j y hj
  have hx1 := hx.1
  have hy1 := hy.1
  have hx2 := hx.2.1
  have hy2 := hy.2.1
  have e0 := tkA_x hx hy
  have hfalse : ¬ tkA t x t y → K 0 := fun q => by
    have : alB t x t y = false := by
      cases hq : alB t x t y with
      | false => rfl
      | true => exact absurd (alB_iff.mp hq) q
    rw [this] at hK
    exact hK
  unfold w_Tokens_sameBytes
  rw [w_get (by decide), w_get (by decide), rg_in (by decide) (show i < 100 by omega), rg_in (by decide) (show j < 100 by omega), r1, q1]
  by_cases c1 : x.1 = y.1
  · rw [if_pos (show zi x.1 = zi y.1 by rw [c1]), w_get (by decide), w_get (by decide), rg_in (by decide) (show i < 100 by omega), rg_in (by decide) (show j < 100 by omega), r3, q3]
    by_cases c2 : x.2.2 = y.2.2
    · rw [if_pos (show zi x.2.2 = zi y.2.2 by rw [c2]), w_get (by decide), w_get (by decide), rg_in (by decide) (show i < 100 by omega), rg_in (by decide) (show j < 100 by omega), r4, q4]
      by_cases c3 : hdT t x.2.1 x.2.2 = hdT t y.2.1 y.2.2
      · rw [if_pos c3, w_get (by decide), w_get (by decide), rg_in (by decide) (show i < 100 by omega), rg_in (by decide) (show j < 100 by omega), r5, q5]
        by_cases c4 : tlT t x.2.1 x.2.2 = tlT t y.2.1 y.2.2
        · rw [if_pos c4]
          rw [alB_iff.mpr (e0.mpr ⟨c1, c2, c3, c4⟩)] at hK
          exact hK
        · rw [if_neg c4]
          exact hfalse (fun r => c4 (e0.mp r).2.2.2)
      · rw [if_neg c3]
        exact hfalse (fun r => c3 (e0.mp r).2.2.1)
    · rw [if_neg (fun u => c2 ((zi_eq (by omega) (by omega)).mp u))]
      exact hfalse (fun r => c2 (e0.mp r).2.1)
  · rw [if_neg (fun u => c1 ((zi_eq (by omega) (by omega)).mp u))]
    exact hfalse (fun r => c1 (e0.mp r).1)
theorem s_tapeIsName {tp : List Int32} {I : zI} {K : Int32 → Prop} (ht : TapX I tp) (hl : tp.length ≤ 200) (hK : K (b01 (nmOk tp))) : w_Desk_tapeIsName I K := by
  intro P2 h2
  have main : ∀ (d k : Nat), k + d = tp.length → ((tp.take k).all isL = true) → P2 (zi k) := by
    intro d
    induction d with
    | zero =>
      intro k hk hall
      refine h2 _ ?_
      rw [ht.1, if_pos ((zi_le (by omega) (by omega)).mpr (by omega))]
      rw [List.take_of_length_le (by omega)] at hall
      unfold nmOk at hK
      rw [hall] at hK
      by_cases c1 : tp.length < 1
      · rw [if_pos (show zi tp.length < 1 from (zi_lt (b := 1) (by omega) (by decide)).mpr c1)]
        rw [decide_eq_false (by omega)] at hK
        exact hK
      · rw [if_neg (show ¬ zi tp.length < 1 from fun u => c1 ((zi_lt (b := 1) (by omega) (by decide)).mp u))]
        rw [decide_eq_true (show 1 ≤ tp.length by omega)] at hK
        by_cases c2 : 8 < tp.length
        · rw [if_pos (show (8 : Int32) < zi tp.length from (zi_lt (a := 8) (by decide) (by omega)).mpr c2)]
          rw [decide_eq_false (by omega)] at hK
          exact hK
        · rw [if_neg (show ¬ (8 : Int32) < zi tp.length from fun u => c2 ((zi_lt (a := 8) (by decide) (by omega)).mp u))]
          rw [decide_eq_true (show tp.length ≤ 8 by omega)] at hK
          exact hK
    | succ d ih =>
      intro k hk hall
      refine h2 _ ?_
      rw [ht.1, if_neg (fun u => by have := (zi_le (by omega) (by omega)).mp u; omega)]
      have hv : tp[k]? = some (tp[k]'(by omega)) := List.getElem?_eq_getElem (by omega)
      generalize tp[k]'(by omega) = v at hv
      refine (w_get (by decide)).mpr ?_
      rw [rg_in (by decide) (show k < 200 by omega), show I.1 (1 + 1) k = v from ht.2 k v hv]
      refine w_xL.mpr ?_
      cases hv2 : isL v with
      | false =>
        rw [if_pos (show b01 false = 0 by decide)]
        have hno : tp.all isL = false := by
          rw [Bool.eq_false_iff]
          intro ha
          have := List.all_eq_true.mp ha v (List.mem_of_getElem? hv)
          rw [hv2] at this
          cases this
        unfold nmOk at hK
        rw [hno, Bool.and_false, Bool.and_false] at hK
        exact hK
      | true =>
        rw [if_neg (show ¬ b01 true = 0 by decide)]
        intro w ew
        rw [ew, zi_succ]
        refine ih (k + 1) (by omega) ?_
        rw [List.take_add_one, hv, List.all_append, hall]
        show (true && ([v].all isL)) = true
        rw [Bool.true_and, List.all_cons, hv2, List.all_nil]
        rfl
  exact main tp.length 0 (by omega) rfl
theorem tk_has {k : Nat} {t : Nat → Int32} {l : List (Nat × Nat × Nat)} {i : Int32} {I : zI} {K : Int32 → Prop} (rep : RepT I k t l) (h1 : 0 ≤ i ∧ i < zi l.length → K 1) (h0 : ¬ (0 ≤ i ∧ i < zi l.length) → K 0) : w_Tokens_has k i I K := by
  unfold w_Tokens_has
  rw [rep.1]
  by_cases c1 : i < 0
  · rw [if_pos c1]
    exact h0 (fun u => Int32.not_le.mpr c1 u.1)
  rw [if_neg c1]
  by_cases c2 : zi l.length ≤ i
  · rw [if_pos c2]
    exact h0 (fun u => Int32.not_lt.mpr c2 u.2)
  · rw [if_neg c2]
    exact h1 ⟨Int32.not_lt.mp c1, Int32.not_le.mp c2⟩
theorem ren_len {tx tape : List Int32} {sel : Nat × Nat × Nat → Bool} (ht : tape.length ≤ 8) : ∀ (ys : List (Nat × Nat × Nat)) (a : Nat), (∀ y ∈ ys, y.2.1 ≤ tx.length) → (ren tx tape sel ys a).length ≤ (tx.length + 8) * ys.length + tx.length
  | [], a, _ => by
    show (seg tx a tx.length).length ≤ _
    unfold seg
    rw [List.length_take, List.length_drop]
    omega
  | y :: ys, a, h => by
    have hr : ∀ b, (ren tx tape sel ys b).length ≤ (tx.length + 8) * ys.length + tx.length := fun b => ren_len ht ys b (fun z hz => h z (List.mem_cons_of_mem _ hz))
    have h1 := h y (List.mem_cons_self ..)
    rw [List.length_cons, Nat.mul_succ]
    show (if sel y = true then seg tx a y.2.1 ++ tape ++ ren tx tape sel ys (y.2.1 + y.2.2) else ren tx tape sel ys a).length ≤ _
    by_cases u : sel y = true
    · rw [if_pos u, List.length_append, List.length_append, seg_len h1]
      have := hr (y.2.1 + y.2.2)
      omega
    · rw [if_neg u]
      have := hr a
      omega
theorem s_rename {x : Sg} {i : Int32} {I : zI} {K : Int32 → zI → Prop} (hv : Iv x) (hR : RX I x) (he : sgE x < 100000) (hK : ∀ J, eqQ Qcl I J → RX J (renR x i).2 → K (renR x i).1 J) : w_Desk_rename i I K := by
  obtain ⟨s, hA⟩ := hR.now
  have zs : zmom s = 113 + 18 * s := rfl
  have hs := hA.1
  obtain ⟨o1, o2, oB, oR, oK⟩ := hv.2.2.2.2.2.2.2.1
  have l300 := o1.1
  have l100 := o1.2.2
  have hT200 := hv.1.1
  have lxo := lex_lxo o1
  unfold w_Desk_rename
  refine s_now hA.1 hA.2.1 ?_
  rw [hA.2.2.2.2.2.1]
  unfold renR at hK
  cases hb : moB (sgC x) with
  | false =>
    rw [if_pos (show b01 false = 0 by decide)]
    rw [if_neg (fun u => by rw [hb] at u; cases u.1)] at hK
    exact hK I eqQ.rf hR
  | true =>
    rw [if_neg (show ¬ b01 true = 0 by decide)]
    have rep := hA.2.2.2.2.1
    refine tk_has rep (fun hi => ?_) (fun hi => ?_)
    rotate_left
    · rw [if_pos rfl]
      rw [if_neg (fun u => hi u.2.1)] at hK
      exact hK I eqQ.rf hR
    rw [if_neg (by decide)]
    obtain ⟨i', hi', rfl⟩ := zi_of hi.1
    have hil := (zi_lt hi' (by omega)).mp hi.2
    rw [zi_tn hi'] at hK
    have hx : (lexL (moT (sgC x)))[i']? = some ((lexL (moT (sgC x))).getD i' (10, 0, 0)) := by
      rw [List.getD_eq_getElem?_getD, List.getElem?_eq_getElem hil]
      rfl
    refine (w_get (by decide)).mpr ?_
    rw [rg_in (by decide) (show i' < 100 by omega), show I.1 (zmom s + 3 + 1 + 1) i' = zi ((lexL (moT (sgC x))).getD i' (10, 0, 0)).1 from (rep.2 i' _ hx).1]
    have hk12 := (lxo.1 _ (List.mem_of_getElem? hx)).1
    by_cases hk0 : ((lexL (moT (sgC x))).getD i' (10, 0, 0)).1 = 0
    rotate_left
    · rw [if_neg (show ¬ zi ((lexL (moT (sgC x))).getD i' (10, 0, 0)).1 = 0 from fun u => hk0 ((zi_eq (b := 0) (by omega) (by decide)).mp u))]
      rw [if_neg (fun u => hk0 u.2.2.1)] at hK
      exact hK I eqQ.rf hR
    rw [if_pos (show zi ((lexL (moT (sgC x))).getD i' (10, 0, 0)).1 = 0 by rw [hk0]; rfl)]
    refine s_tapeIsName hR.1 hT200 ?_
    cases hnm : nmOk (sgT x) with
    | false =>
      rw [if_pos (show b01 false = 0 by decide)]
      rw [if_neg (fun u => by rw [hnm] at u; cases u.2.2.2)] at hK
      exact hK I eqQ.rf hR
    | true =>
      rw [if_neg (show ¬ b01 true = 0 by decide)]
      rw [if_pos ⟨hb, hi, hk0, hnm⟩] at hK
      have hT8 : (sgT x).length ≤ 8 := by
        unfold nmOk at hnm
        obtain ⟨-, h2⟩ := Bool.and_eq_true_iff.mp hnm
        exact of_decide_eq_true (Bool.and_eq_true_iff.mp h2).1
      intro I5 e5
      have q5 : eqQ Qap I I5 := by
        rw [e5]
        exact eqQ.rf.zu (Or.inl ⟨rfl, rfl⟩)
      have hbt : BtL (renD x i') := ren_bt (BtL.of o1.2.1) hv.1.2 _ _
      have sg0 : seg (sgT x) 0 (sgT x).length = sgT x := by
        unfold seg
        rw [List.drop_zero, Nat.sub_zero, List.take_length]
      intro P59 h59
      have main : ∀ (dd k f : Nat) (d : List Int32) (A : zI), k + dd = (lexL (moT (sgC x))).length → f ≤ (moT (sgC x)).length → (∀ (j : Nat) (y : Nat × Nat × Nat), k ≤ j → (lexL (moT (sgC x)))[j]? = some y → f ≤ y.2.1) → eqQ Qap I A → DrX A d → d.length ≤ f + 8 * k → d ++ ren (moT (sgC x)) (sgT x) (selN (moT (sgC x)) i') ((lexL (moT (sgC x))).drop k) f = renD x i' → P59 (zi f) (zi k) A := by
        intro dd
        induction dd with
        | zero =>
          intro k f d A hk hf hfy q dA hdl hren
          refine h59 _ _ _ ?_
          have AA := hA.ap q
          rw [show A.1 (zmom s + 3) 5 = zi (lexL (moT (sgC x))).length from AA.2.2.2.2.1.1, if_pos ((zi_le (by omega) (by omega)).mpr (by omega)), AA.2.2.1]
          rw [List.drop_of_length_le (by omega)] at hren
          refine s_mAppend (t := moT (sgC x)) (by omega) (by decide) l300 AA.2.2.txt hf (Nat.le_refl _) (by omega) (by omega) dA (fun B qB dB => ?_)
          have qB' := q.tr qB
          have hren' : d ++ seg (moT (sgC x)) f (moT (sgC x)).length = renD x i' := hren
          rw [hren'] at dB
          refine s_doX (bt := true) hv (hR.ap hv qB') hbt dB ?_ he (fun J qJ rJ => hK J ((Qap_cl qB').tr qJ) rJ)
          rw [← hren', List.length_append, seg_len (Nat.le_refl _)]
          omega
        | succ dd ih =>
          intro k f d A hk hf hfy q dA hdl hren
          refine h59 _ _ _ ?_
          have AA := hA.ap q
          have repA := AA.2.2.2.2.1
          rw [show A.1 (zmom s + 3) 5 = zi (lexL (moT (sgC x))).length from repA.1, if_neg (fun u => by have := (zi_le (by omega) (by omega)).mp u; omega)]
          have hy : (lexL (moT (sgC x)))[k]? = some ((lexL (moT (sgC x)))[k]'(by omega)) := List.getElem?_eq_getElem (by omega)
          have hdk : (lexL (moT (sgC x))).drop k = (lexL (moT (sgC x)))[k]'(by omega) :: (lexL (moT (sgC x))).drop (k + 1) := List.drop_eq_getElem_cons (by omega)
          generalize (lexL (moT (sgC x)))[k]'(by omega) = y at hy hdk
          have hyin := lexL_in o1 hy
          have hfk := hfy k y (Nat.le_refl _) hy
          refine s_tkSame repA hx hy l100 (lxo.1 _ (List.mem_of_getElem? hx)) (lxo.1 _ (List.mem_of_getElem? hy)) ?_
          intro P150 h150
          rw [hdk] at hren
          have hren' : d ++ (if selN (moT (sgC x)) i' y = true then seg (moT (sgC x)) f y.2.1 ++ sgT x ++ ren (moT (sgC x)) (sgT x) (selN (moT (sgC x)) i') ((lexL (moT (sgC x))).drop (k + 1)) (y.2.1 + y.2.2) else ren (moT (sgC x)) (sgT x) (selN (moT (sgC x)) i') ((lexL (moT (sgC x))).drop (k + 1)) f) = renD x i' := hren
          have hsel : alB (txF (moT (sgC x))) ((lexL (moT (sgC x))).getD i' (10, 0, 0)) (txF (moT (sgC x))) y = selN (moT (sgC x)) i' y := rfl
          rw [hsel]
          cases hse : selN (moT (sgC x)) i' y with
          | false =>
            rw [if_pos (show b01 false = 0 by decide)]
            rw [hse, if_neg (by decide)] at hren'
            refine h150 _ _ (fun v ev => ?_)
            rw [ev, zi_succ]
            exact ih (k + 1) f d A (by omega) hf (fun j z hj hz => hfy j z (by omega) hz) q dA (by omega) hren'
          | true =>
            rw [if_neg (show ¬ b01 true = 0 by decide)]
            rw [hse, if_pos rfl, ← List.append_assoc] at hren'
            refine (w_get (by decide)).mpr ?_
            rw [rg_in (by decide) (show k < 100 by omega), show A.1 (zmom s + 3 + 3 + 1) k = zi y.2.1 from (repA.2 k y hy).2.1]
            refine s_mAppend (t := moT (sgC x)) (by omega) (by decide) l300 AA.2.2.txt hfk (by omega) (by omega) (by omega) dA (fun B qB dB => ?_)
            have qB' := q.tr qB
            have RB := hR.ap hv qB'
            rw [show B.1 0 1 = zi (sgT x).length from RB.1.1]
            have hl1 : (d ++ seg (moT (sgC x)) f y.2.1).length = d.length + (y.2.1 - f) := by rw [List.length_append, seg_len (by omega)]
            refine s_mAppend (a := 0) (t := sgT x) (by omega) (by decide) hT200 (fun j hj => RB.1.2 j _ (by rw [List.getElem?_eq_getElem hj, txF_at (List.getElem?_eq_getElem hj)])) (Nat.zero_le _) (Nat.le_refl _) (by omega) (by rw [hl1]; omega) dB (fun C qC dC => ?_)
            have qC' := qB'.tr qC
            rw [sg0] at dC
            have repC := (hA.ap qC').2.2.2.2.1
            refine (w_get (by decide)).mpr ?_
            rw [rg_in (by decide) (show k < 100 by omega), show C.1 (zmom s + 3 + 3 + 1) k = zi y.2.1 from (repC.2 k y hy).2.1]
            refine (w_get (by decide)).mpr ?_
            rw [rg_in (by decide) (show k < 100 by omega), show C.1 (zmom s + 3 + 5 + 1) k = zi y.2.2 from (repC.2 k y hy).2.2.1]
            intro v3 ev3
            rw [zi_add] at ev3
            subst ev3
            refine h150 _ _ (fun v ev => ?_)
            rw [ev, zi_succ]
            refine ih (k + 1) (y.2.1 + y.2.2) _ C (by omega) hyin (fun j z hj hz => lexL_sorted o1 (show k < j by omega) hy hz) qC' dC ?_ (by rw [← hren']; simp only [List.append_assoc])
            rw [List.length_append, hl1]
            omega
      exact main (lexL (moT (sgC x))).length 0 0 [] I5 (by omega) (Nat.zero_le _) (fun j y _ _ => Nat.zero_le _) q5 (DrX.nil (by rw [e5, zu_self])) (Nat.zero_le _) (by rw [List.drop_zero]; rfl)
