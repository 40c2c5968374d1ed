/-! ===== the state, and how both sides hold it ===== -/
def txF (l : List Int32) : Nat → Int32 := fun j => l.getD j 0
theorem txF_at {l : List Int32} {j : Nat} {v : Int32} (h : l[j]? = some v) : txF l j = v := by
  unfold txF
  rw [List.getD_eq_getElem?_getD, h]
  rfl
def lexL (l : List Int32) : List (Nat × Nat × Nat) := lex (txF l) l.length
/-- a TEXT as it is, the last good one, is it good, its TREE's root, its tokens' nodes -/
abbrev Mo : Type := List Int32 × List Int32 × Bool × Nat × (Nat → Nat) × Int32
def moT (x : Mo) : List Int32 := x.1
def moG (x : Mo) : List Int32 := x.2.1
def moB (x : Mo) : Bool := x.2.2.1
def moR (x : Mo) : Nat := x.2.2.2.1
def moO (x : Mo) : Nat → Nat := x.2.2.2.2.1
/-- its ROW -/
def moW (x : Mo) : Int32 := x.2.2.2.2.2
def txOk (l : List Int32) : Prop := l.length ≤ 300 ∧ (∀ j, j < l.length → byt (txF l j)) ∧ (lexL l).length ≤ 100
theorem lex_lxo {l : List Int32} (h : txOk l) : LxO (txF l) (lexL l) := by
  obtain ⟨h1, h2, h3⟩ := h
  have hlen : (lexL l).length = (lexF (txF l) l.length l.length 0).length + 1 := by
    show (lexF (txF l) l.length l.length 0 ++ [(10, l.length, 0)]).length = _
    rw [List.length_append]
    rfl
  refine ⟨fun x hx => (lex_ok h2 x hx).1, by omega, h3, fun i x hx => ?_⟩
  have hx' : (lexF (txF l) l.length l.length 0 ++ [(10, l.length, 0)])[i]? = some x := hx
  rcases snoc_at hx' with hx2 | ⟨e1, e2⟩
  · have hil := (List.getElem?_eq_some_iff.mp hx2).1
    have := (lexF_ok h2 _ _ x (List.mem_of_getElem? hx2)).2.1
    constructor
    · intro u
      exact absurd u this
    · intro u
      omega
  · rw [e2]
    constructor
    · intro _
      omega
    · intro _
      rfl
/-- a moment that can be -/
def MoOk (m : Nat) (N : Nat → Nd) (x : Mo) : Prop :=
  txOk (moT x) ∧ txOk (moG x) ∧ (moB x = true → moT x = moG x) ∧ TreeI m N (moR x) (lexL (moG x)).length (moO x) ∧ TkI N (txF (moG x)) (lexL (moG x)) (moO x)
theorem sum_rg {α : Type} {w : α → Nat} : ∀ {L : List α} {f : Nat → Nat}, (∀ i x, L[i]? = some x → f i = w x) → ∀ k, k ≤ L.length → ((List.range k).map f).sum ≤ (L.map w).sum
  | _, _, _, 0, _ => Nat.zero_le _
  | [], _, _, k + 1, hk => by
    change k + 1 ≤ 0 at hk
    omega
  | a :: L, f, h, k + 1, hk => by
    rw [List.length_cons] at hk
    rw [List.range_succ_eq_map, List.map_cons, List.sum_cons, List.map_map, List.map_cons, List.sum_cons]
    have h0 := h 0 a rfl
    have h1 := sum_rg (L := L) (w := w) (f := f ∘ Nat.succ) (fun i x hx => h (i + 1) x (by rw [List.getElem?_cons_succ]; exact hx)) k (by omega)
    omega
theorem lexF_sum {t : Nat → Int32} {n : Nat} : ∀ f i, ((lexF t n f i).map (fun x => x.2.2)).sum ≤ n - i
  | 0, _ => Nat.zero_le _
  | f + 1, i => by
    rw [lexF]
    by_cases h : n ≤ i
    · rw [if_pos h]
      exact Nat.zero_le _
    · rw [if_neg h]
      have hp := tkP_pos (t := t) (n := n) (i := i) (by omega)
      by_cases hB : isB (t i) = true
      · rw [if_pos hB]
        have := lexF_sum (t := t) (n := n) f (i + 1)
        omega
      · rw [if_neg hB, List.map_cons, List.sum_cons]
        have := lexF_sum (t := t) (n := n) f (i + (tkP t n i).2)
        dsimp only
        omega
/-- tokens, their bytes, what is printed of a node below another -/
theorem below_ok {m : Nat} {N : Nat → Nd} (h : NdOk m N) (R : Nat) : R < m → ∀ c ∈ po N R, tkb N c ≤ tkb N R ∧ ndT (N c) ≤ ndT (N R) ∧ sz N c ≤ sz N R ∧ ∀ z ∈ yl N c, z ∈ yl N R := by
  induction R using Nat.strongRecOn with
  | ind R ih =>
    intro hR c hc
    rw [po_eq h hR] at hc
    rcases List.mem_cons.mp hc with rfl | hc
    · exact ⟨Nat.le_refl _, Nat.le_refl _, Nat.le_refl _, fun z hz => hz⟩
    · obtain ⟨y, hy, hcy⟩ := List.mem_flatMap.mp hc
      have hlt := h.lt hR hy
      obtain ⟨i1, i2, i3, i4⟩ := ih y hlt (by omega) c hcy
      have hr : ¬ ndR (N R) < 0 ∧ ndT (N R) = tkS N (ndC (N R)) := by
        rcases h R hR with ⟨-, e2, -⟩ | ⟨r, s, -, -, e3, -, -, -, -, e8⟩
        · rw [e2] at hy
          cases hy
        · exact ⟨by omega, e8⟩
      have hmem : ∀ f : Nat → Nat, f y ≤ ((ndC (N R)).map f).sum := fun f => by
        obtain ⟨L1, L2, hL⟩ := List.append_of_mem hy
        rw [hL, List.map_append, List.map_cons, List.sum_append, List.sum_cons]
        omega
      have m1 := hmem (tkb N)
      have m2 := tkS_mem (N := N) hy
      have m3 : sz N y ≤ szS N (ndC (N R)) := hmem (sz N)
      rw [← tkb_ch h hR hr.1] at m1
      rw [← hr.2] at m2
      have m4 := sz_eq h hR
      refine ⟨by omega, by omega, by omega, fun z hz => ?_⟩
      rw [yl_eq h hR, if_neg hr.1]
      exact List.mem_flatMap.mpr ⟨y, hy, i4 z hz⟩
theorem prt_in {m c : Nat} {N : Nat → Nd} {x : Mo} (hN : NdOk m N) (o : MoOk m N x) (hc : c ∈ po N (moR x)) : (prt N c).length ≤ 498 ∧ sz N c ≤ 248 ∧ ∀ z ∈ yl N c, bytY (N z) := by
  obtain ⟨o1, o2, o3, t, tk⟩ := o
  have hR := t.1
  have hy := t.2.2.1
  obtain ⟨b1, b2, b3, b4⟩ := below_ok hN (moR x) hR c hc
  have hcm : c < m := by
    have := po_le hN (moR x) hR c hc
    omega
  have h1 := prt_len hN c hcm
  have h2 := t.tk hN
  have h3 := t.2.2.2.2.2.2.2
  have h4 := t.few hN
  have hs : tkb N (moR x) ≤ 300 := by
    unfold tkb
    rw [hy, List.map_map]
    have := sum_rg (L := lexL (moG x)) (w := fun w => w.2.2) (f := (fun z => (ndY (N z)).length) ∘ moO x) (fun i w hw => by
      show (ndY (N (moO x i))).length = w.2.2
      rw [(tk i w hw).2, tkBs_len]) ((lexL (moG x)).length - 1) (by omega)
    have h5 : ((lexL (moG x)).map (fun w => w.2.2)).sum ≤ (moG x).length := by
      show ((lexF (txF (moG x)) (moG x).length (moG x).length 0 ++ [(10, (moG x).length, 0)]).map (fun w : Nat × Nat × Nat => w.2.2)).sum ≤ _
      rw [List.map_append, List.sum_append]
      have := lexF_sum (t := txF (moG x)) (n := (moG x).length) (moG x).length 0
      show _ + 0 ≤ _
      omega
    have h6 := o2.1
    omega
  refine ⟨by omega, by omega, fun z hz => ?_⟩
  have hz2 := b4 z hz
  rw [hy] at hz2
  obtain ⟨i, hi, rfl⟩ := List.mem_map.mp hz2
  have hil := List.mem_range.mp hi
  have hw : (lexL (moG x))[i]? = some ((lexL (moG x))[i]'(by omega)) := List.getElem?_eq_getElem (by omega)
  generalize (lexL (moG x))[i]'(by omega) = w at hw
  obtain ⟨ok, -⟩ := lex_ok o2.2.1 w (List.mem_of_getElem? hw)
  unfold bytY
  rw [(tk i w hw).2, tkBs_len]
  refine ⟨ok.2.1, fun j hj => ?_⟩
  rw [tkBs_at hj]
  exact ok.2.2.1 j hj
theorem prt_R {m : Nat} {N : Nat → Nd} {x : Mo} (hN : NdOk m N) (o : MoOk m N x) : (prt N (moR x)).length ≤ 700 ∧ ∀ z ∈ yl N (moR x), bytY (N z) := by
  obtain ⟨a, -, b⟩ := prt_in hN o (c := moR x) (by
    rw [po_eq hN o.2.2.2.1.1]
    exact List.mem_cons_self ..)
  exact ⟨by omega, b⟩
theorem tkP_int {t : Nat → Int32} {n i : Nat} (h : (tkP t n i).1 = 1) : (tkP t n i).2 ≤ 4 := by
  unfold tkP at h ⊢
  by_cases hL : isL (t i) = true
  · rw [if_pos hL] at h
    by_cases h8 : 8 < runN isL t (n - i) i
    · rw [if_pos h8] at h
      exact absurd h (by decide)
    · rw [if_neg h8] at h
      exact absurd h (show ¬ 0 = 1 by decide)
  · rw [if_neg hL] at h ⊢
    by_cases hD : isD (t i) = true
    · rw [if_pos hD] at h ⊢
      by_cases h4 : 4 < runN isD t (n - i) i
      · rw [if_pos h4]
        decide
      · rw [if_neg h4]
        exact Nat.le_of_not_lt h4
    · rw [if_neg hD] at h
      exact absurd h (sgn_not (t i)).2.1
theorem lexF_int {t : Nat → Int32} {n : Nat} : ∀ f i, ∀ x ∈ lexF t n f i, x.1 = 1 → x.2.2 ≤ 4
  | 0, i, x, hx => by cases hx
  | f + 1, i, x, hx => by
    rw [lexF] at hx
    by_cases h : n ≤ i
    · rw [if_pos h] at hx
      cases hx
    · rw [if_neg h] at hx
      by_cases hB : isB (t i) = true
      · rw [if_pos hB] at hx
        exact lexF_int f (i + 1) x hx
      · rw [if_neg hB] at hx
        rcases List.mem_cons.mp hx with rfl | hx
        · exact fun u => tkP_int u
        · exact lexF_int f _ x hx
/-- END is no NAME; what NAMES and INTS are -/
theorem tkz_R {m : Nat} {N : Nat → Nd} {x : Mo} (_ : NdOk m N) (o : MoOk m N x) : ndM (N (moO x ((lexL (moG x)).length - 1))) ≠ 5 ∧ ∀ z, z ∈ yl N (moR x) → tkZ (N z) := by
  obtain ⟨o1, o2, o3, t, tk⟩ := o
  have hn := t.2.2.2.2.2.2.1
  constructor
  · have hw : (lexL (moG x))[(lexL (moG x)).length - 1]? = some ((lexL (moG x))[(lexL (moG x)).length - 1]'(by omega)) := List.getElem?_eq_getElem (by omega)
    generalize (lexL (moG x))[(lexL (moG x)).length - 1]'(by omega) = w at hw
    have h10 : w.1 = 10 := ((lex_lxo o2).2.2.2 _ w hw).2 (by omega)
    have hk := (tk _ w hw).1
    have hr := (t.2.2.2.2.1 ((lexL (moG x)).length - 1) (by omega)).2
    unfold ndM
    rw [hr, if_pos (by decide)]
    omega
  · intro z hz
    rw [t.2.2.1] at hz
    obtain ⟨i, hi, rfl⟩ := List.mem_map.mp hz
    have hil := List.mem_range.mp hi
    have hw : (lexL (moG x))[i]? = some ((lexL (moG x))[i]'(by omega)) := List.getElem?_eq_getElem (by omega)
    generalize (lexL (moG x))[i]'(by omega) = w at hw
    obtain ⟨ok, -⟩ := lex_ok o2.2.1 w (List.mem_of_getElem? hw)
    obtain ⟨k1, k2⟩ := tk i w hw
    unfold tkZ
    rw [k1, k2, tkBs_len]
    refine ⟨fun u => ?_, fun u => ?_⟩
    · obtain ⟨b1, b2⟩ := ok.2.2.2.1 u
      exact ⟨b1, ok.2.1, fun j hj => by rw [tkBs_at hj]; exact b2 j hj⟩
    · obtain ⟨b1, b2⟩ := ok.2.2.2.2.1 u
      refine ⟨b1, ?_, fun j hj => by rw [tkBs_at hj]; exact b2 j hj⟩
      have hm : w ∈ lexF (txF (moG x)) (moG x).length (moG x).length 0 ++ [(10, (moG x).length, 0)] := List.mem_of_getElem? hw
      rcases List.mem_append.mp hm with h | h
      · exact lexF_int _ _ w h u
      · rw [List.mem_singleton] at h
        rw [h]
        exact Nat.zero_le _
/-- a moment in the class -/
def MoX (I : zI) (k : Nat) (x : Mo) : Prop :=
  I.1 k 1 = zi (moT x).length ∧ (∀ j, j < (moT x).length → I.1 (k + 2) j = txF (moT x) j) ∧ RepT I (k + 3) (txF (moT x)) (lexL (moT x)) ∧ I.1 k 3 = b01 (moB x) ∧
  I.1 k 6 = zi (lexL (moG x)).length ∧ (∀ j, j < (lexL (moG x)).length → I.1 (k + 15) j = zi (moO x j)) ∧ (∀ (j : Nat) (y : Nat × Nat × Nat), (lexL (moG x))[j]? = some y → I.1 (k + 17) j = zi y.2.1) ∧ I.1 k 7 = zi (moR x) ∧ I.1 k 8 = moW x
/-- in the model's rows of states -/
def MoM (I : zI) (s : Nat) (x : Mo) : Prop :=
  (∀ j, j < (moT x).length → I.1 542 (720 * s + j) = txF (moT x) j) ∧ (∀ j, j < (moG x).length → I.1 542 (720 * s + 300 + j) = txF (moG x) j) ∧ (∀ j, j < (lexL (moG x)).length → I.1 542 (720 * s + 600 + j) = zi (moO x j)) ∧
  I.1 542 (720 * s + 710) = zi (moT x).length ∧ I.1 542 (720 * s + 711) = zi (moG x).length ∧ I.1 542 (720 * s + 712) = b01 (moB x) ∧ I.1 542 (720 * s + 713) = zi (moR x)
/-- as it is now, in the model -/
def NowM (I : zI) (x : Mo) : Prop :=
  I.1 491 5 = zi (moT x).length ∧ (∀ j, j < (moT x).length → I.1 494 j = txF (moT x) j) ∧ I.1 491 15 = zi (lexL (moT x)).length ∧
  (∀ (j : Nat) (y : Nat × Nat × Nat), (lexL (moT x))[j]? = some y → I.1 501 j = zi y.1 ∧ I.1 502 j = zi y.2.1 ∧ I.1 503 j = zi y.2.2) ∧
  I.1 491 7 = zi (moG x).length ∧ (∀ j, j < (moG x).length → I.1 495 j = txF (moG x) j) ∧ OldU I (txF (moG x)) (lexL (moG x)) ∧ (∀ j, j < (lexL (moG x)).length → I.1 508 j = zi (moO x j)) ∧ I.1 491 8 = b01 (moB x) ∧ I.1 491 37 = zi (moR x)
/-- tape; nodes; PAIRS; EDITS; what was, now, what was undone -/
abbrev LaZ : Type := (Nat → Int32) × RcZ
abbrev Sg : Type := List Int32 × (Nat × (Nat → Nd)) × List (Nat × Nat) × (Nat × LaZ) × List Mo × Mo × List Mo
def sgT (x : Sg) : List Int32 := x.1
def sgM (x : Sg) : Nat := x.2.1.1
def sgN (x : Sg) : Nat → Nd := x.2.1.2
def sgP (x : Sg) : List (Nat × Nat) := x.2.2.1
def sgE (x : Sg) : Nat := x.2.2.2.1.1
def sgLs (x : Sg) : LaZ := x.2.2.2.1.2
def sgA (x : Sg) : List Mo := x.2.2.2.2.1
def sgC (x : Sg) : Mo := x.2.2.2.2.2.1
def sgZ (x : Sg) : List Mo := x.2.2.2.2.2.2
/-- what is recorded: of no node to come; by which EDIT nodes are made; of each statement of each moment's TREE -/
def WrZ (x : Sg) : Prop := (∀ c, sgM x ≤ c → (sgLs x).2 c = none) ∧ (∀ c, c < sgM x → ndB (sgN x c) ≤ sgE x) ∧ ∀ y, y = sgC x ∨ y ∈ sgA x ∨ y ∈ sgZ x → ∀ z ∈ flR (sgN x) (moR y), ndR (sgN x z.1) = 2 → ∃ l, (sgLs x).2 z.1 = some l ∧ l.length = rdl (sgN x) z.1
/-- what holds of it -/
def Iv (x : Sg) : Prop :=
  ((sgT x).length ≤ 200 ∧ ∀ b ∈ sgT x, byt b) ∧ NdOk (sgM x) (sgN x) ∧ UqE (sgM x) (sgN x) ∧ sgM x ≤ 3250 ∧ (∀ c, c < sgM x → ndT (sgN x c) ≤ 100) ∧
  (PrU (sgP x) ∧ (sgP x).length ≤ 3999) ∧ (sgE x ≤ 512 ∧ WrZ x) ∧ MoOk (sgM x) (sgN x) (sgC x) ∧ (∀ y ∈ sgA x, MoOk (sgM x) (sgN x) y) ∧ (∀ y ∈ sgZ x, MoOk (sgM x) (sgN x) y) ∧ (sgA x).length + (sgZ x).length ≤ 20
def LaX (I : zI) (x : Sg) : Prop := (∀ j, j < 10 → I.1 23 j = (sgLs x).1 j) ∧ ∃ n, n ≤ 49 * sgE x ∧ RcX I n (sgLs x).2
def EdX (I : zI) (x : Sg) : Prop := I.1 0 7 = zi (sgE x) ∧ LaX I x
def RcM (I : zI) (rc : RcZ) : Prop := ∀ s l, s < 3400 → rc s = some l → l.length ≤ 49 ∧ I.1 517 s = zi l.length ∧ ∀ (k : Nat) (v : Int32), l[k]? = some v → I.1 518 (50 * s + k) = v
def LaM (I : zI) (x : Sg) : Prop := (∀ j, j < 10 → I.1 538 j = (sgLs x).1 j) ∧ RcM I (sgLs x).2
def EdM (I : zI) (x : Sg) : Prop := I.1 491 36 = zi (sgE x) ∧ LaM I x
theorem EdX.kp {I J : zI} {x : Sg} (h : EdX I x) (e : ∀ a j, (a = 0 ∧ j = 7) ∨ a = 23 ∨ (a = 69 ∧ j = 11) ∨ a = 85 ∨ a = 87 → J.1 a j = I.1 a j) : EdX J x := by
  obtain ⟨h1, h2, n, h3, h4⟩ := h
  exact ⟨(e 0 7 (by omega)).trans h1, fun j hj => (e 23 j (by omega)).trans (h2 j hj), n, h3, h4.kp (fun a j u => e a j (by omega))⟩
theorem EdM.kp {I J : zI} {x : Sg} (h : EdM I x) (e : ∀ a j, (a = 491 ∧ j = 36) ∨ a = 517 ∨ a = 518 ∨ a = 538 → J.1 a j = I.1 a j) : EdM J x := by
  obtain ⟨h1, h2, h3⟩ := h
  refine ⟨(e 491 36 (by omega)).trans h1, fun j hj => (e 538 j (by omega)).trans (h2 j hj), fun s l hs hr => ?_⟩
  obtain ⟨a1, a2, a3⟩ := h3 s l hs hr
  exact ⟨a1, (e 517 s (by omega)).trans a2, fun k v hk => (e 518 _ (by omega)).trans (a3 k v hk)⟩
/-- the class holds it: its slot is s -/
def RX (I : zI) (x : Sg) : Prop :=
  TapX I (sgT x) ∧ RepNX I (sgM x) (sgN x) ∧ ViX I (sgN x) (moR (sgC x)) ∧ PrX I (sgP x) ∧ EdX I x ∧ I.1 0 5 = zi (sgA x).length ∧ I.1 0 6 = zi (sgZ x).length ∧
  ∃ s, s < 21 ∧ I.1 0 4 = zi s ∧ MoX I (zmom s) (sgC x) ∧ (∀ (k : Nat) (y : Mo), (sgA x)[k]? = some y → MoX I (zmom ((s + 20 - k) % 21)) y) ∧ ∀ (k : Nat) (y : Mo), (sgZ x)[k]? = some y → MoX I (zmom ((s + 1 + k) % 21)) y
/-- the model holds it -/
def RM (I : zI) (x : Sg) : Prop :=
  TapM I (sgT x) ∧ RepNM I (sgM x) (sgN x) ∧ ViM I (sgN x) (moR (sgC x)) (lexL (moG (sgC x))).length ∧ PrM I (sgP x) ∧ EdM I x ∧ I.1 491 75 = zi (sgA x).length ∧ I.1 491 76 = zi ((sgA x).length + (sgZ x).length) ∧
  NowM I (sgC x) ∧ MoM I (sgA x).length (sgC x) ∧ (∀ (k : Nat) (y : Mo), (sgA x)[k]? = some y → MoM I ((sgA x).length - 1 - k) y) ∧ ∀ (k : Nat) (y : Mo), (sgZ x)[k]? = some y → MoM I ((sgA x).length + 1 + k) y
/-! ===== what a change makes of it ===== -/
/-- a node's numbers of TOKENS stay small as a TREE grows -/
theorem grown_tk {F : List Fl} {A B n n' e m0 m1 R : Nat} {g kd og : Nat → Nat} {N0 : Nat → Nd} (h0 : NdOk m0 N0) (t0 : TreeI m0 N0 R n' og) (hF : F = flR N0 R) (hog : ∀ i, i < n → ∀ j, wasN A B n n' i = some j → g i = og j) (hnew : ∀ i, i < n → wasN A B n n' i = none → m0 ≤ g i) (h01 : m0 ≤ m1) (ge : GE F A B n n' g kd) : ∀ (x y : Gs) (k : Nat), GI F n n' g kd m1 x.1 x.2.1 x.2.2.1 x.2.2.2.1 k → (GJ m0 N0 g x.1 x.2.1 x.2.2.1 x.2.2.2.1 ∧ ∀ c, c < x.2.1 → ndT (x.2.2.1 c) ≤ 100) → gNx F A B n n' g e x.1 x.2.1 x.2.2.1 x.2.2.2.1 x.2.2.2.2 = some y → (GJ m0 N0 g y.1 y.2.1 y.2.2.1 y.2.2.2.1 ∧ ∀ c, c < y.2.1 → ndT (y.2.2.1 c) ≤ 100) := by
  intro x y k hx hp he
  subst hF
  have hJ := hp.1.nx h0 t0 hog hnew h01 ge hx he
  have hI := hx.nx ge he
  refine ⟨hJ, fun c hc => ?_⟩
  obtain ⟨e1, e2⟩ := gNx_E he
  by_cases u : c < x.2.1
  · rw [(e2 c u).2.2.1]
    exact hp.2 c u
  · -- a new node is on the stack
    have hN := hI.2.2.2.2.1
    have hin : ∃ p ∈ y.2.2.2.1.drop 1, p.1 = c := by
      obtain ⟨i, m, N, st, tk⟩ := x
      dsimp only at he u e1
      have s1 : 1 ≤ st.length := hx.2.1.1
      unfold gNx at he
      cases hb : bestOf (flR N0 R) N A B n n' i (topS st) (g i) with
      | some b =>
        rw [hb] at he
        cases he
        exact absurd hc u
      | none =>
        rw [hb] at he
        by_cases hz : ldN (topS st) (ndM (N (g i))) = 0
        · rw [if_pos hz] at he
          cases hr : rlN (topS st) with
          | none =>
            rw [hr] at he
            cases he
          | some r =>
            rw [hr] at he
            cases he
            obtain ⟨p0, q1, q2⟩ := top_at s1
            obtain ⟨f1, f2⟩ := st_fits hx.2.1.2.1 hx.2.1.2.2.1 s1 q1 q2 hr
            have f1' : lnN r < st.length := f1
            dsimp only at hc ⊢
            refine ⟨(m, ldN (byS st r) (syN r)), ?_, by show m = c; omega⟩
            unfold byT
            rw [drop1_snoc (by rw [List.length_take]; omega)]
            exact List.mem_append_right _ (List.mem_singleton.mpr rfl)
        · rw [if_neg hz] at he
          cases he
          exact absurd hc u
    obtain ⟨p, hp1, hp2⟩ := hin
    have hlen := yl_len hN c hc
    obtain ⟨L1, L2, hL⟩ := List.append_of_mem hp1
    have h1 := congrArg List.length hJ.1
    rw [hL, List.flatMap_append, List.flatMap_cons, List.length_append, List.length_append, hp2, hlen, List.length_map, List.length_range] at h1
    have := hI.1
    have := ge.1
    omega
/-- naming and growing: is it good; where it is wrong; the steps; how it ends -/
def reg (x : Sg) (d : List Int32) : (Nat × (Nat → Nat) × (Nat → Nd)) × Nat × Gs :=
  (fun nm => (nm, gRun (flR (sgN x) (moR (sgC x))) (kAhead (txF (moG (sgC x))) (lexL (moG (sgC x))) (txF d) (lexL d)) (kBehind (txF (moG (sgC x))) (lexL (moG (sgC x))) (txF d) (lexL d)) (lexL d).length (lexL (moG (sgC x))).length nm.2.1 (sgE x + 1) 2000 0 (0, nm.1, nm.2.2, [(0, 0)], 0)))
    (namF (txF d) (lexL d) (kAhead (txF (moG (sgC x))) (lexL (moG (sgC x))) (txF d) (lexL d)) (kBehind (txF (moG (sgC x))) (lexL (moG (sgC x))) (txF d) (lexL d)) (lexL (moG (sgC x))).length (moO (sgC x)) (sgE x + 1) (lexL d).length 0 (sgM x) (fun _ => 0) (sgN x))
def regY (x : Sg) (d : List Int32) : Gs := (reg x d).2.2
/-- it is good -/
def regB (x : Sg) (d : List Int32) : Prop := (regY x d).1 + 1 = (lexL d).length ∧ topS (regY x d).2.2.2.1 = 1
def regR (x : Sg) (d : List Int32) : Nat := ((regY x d).2.2.2.1.getD ((regY x d).2.2.2.1.length - 1) (0, 0)).1
/-- refused: too long, too many nodes, PAIRS, tokens -/
def refu (x : Sg) (d : List Int32) : Prop := 300 < d.length ∨ 3000 ≤ sgM x ∨ 3900 ≤ (sgP x).length ∨ 100 < (lexL d).length
def newC (x : Sg) (d : List Int32) : Mo := if (regY x d).1 + 1 = (lexL d).length ∧ topS (regY x d).2.2.2.1 = 1 then (d, d, true, regR x d, (reg x d).1.2.1, rowI (runsOf (regY x d).2.2.1 (regR x d)) (sgP x)) else (d, moG (sgC x), false, moR (sgC x), moO (sgC x), moW (sgC x))
/-- what all RUN then makes of the records; how many are done again -/
def rcR (x : Sg) (d : List Int32) : RcA := rcP (regY x d).2.2.1 (flR (regY x d).2.2.1 (regR x d)) (sgE x + 1) ((sgLs x).2, 0, 0) (flR (regY x d).2.2.1 (regR x d)).length
/-- nodes of a RULE of the TREE ahead that are not in the new one -/
def brkN (x : Sg) (d : List Int32) : Nat := ((flR (sgN x) (moR (sgC x))).filter (fun z => decide (0 ≤ ndR (sgN x z.1) ∧ z.1 ∉ po (regY x d).2.2.1 (regR x d)))).length
/-- what LAST tells of a change -/
def laG (x : Sg) (d : List Int32) (j : Nat) : Int32 :=
  if j = 0 then zi (kAhead (txF (moG (sgC x))) (lexL (moG (sgC x))) (txF d) (lexL d)) else if j = 1 then zi (kBehind (txF (moG (sgC x))) (lexL (moG (sgC x))) (txF d) (lexL d)) else if j = 2 then zi (regY x d).2.2.2.2 else if j = 3 then zi ((regY x d).2.1 - sgM x) else if j = 4 then zi (brkN x d) else if j = 5 then zi (reg x d).2.1 else if j = 6 then -2 else if j = 7 then zi ((reg x d).1.1 - sgM x) else if j = 8 then zi (rcR x d).2.1 else zi ((layAllR (runsOf (regY x d).2.2.1 (regR x d)) (sgP x)).length - (sgP x).length)
def laW (x : Sg) (d : List Int32) (j : Nat) : Int32 :=
  if j = 0 then zi (kAhead (txF (moG (sgC x))) (lexL (moG (sgC x))) (txF d) (lexL d)) else if j = 1 then zi (kBehind (txF (moG (sgC x))) (lexL (moG (sgC x))) (txF d) (lexL d)) else if j = 2 then zi (regY x d).2.2.2.2 else if j = 3 then 0 else if j = 4 then 0 else if j = 5 then zi (reg x d).2.1 else if j = 6 then zi (regY x d).1 else if j = 7 then zi ((reg x d).1.1 - sgM x) else 0
/-- the state behind a change that is not refused; tp: the tape then -/
def chg (x : Sg) (d tp : List Int32) : Sg :=
  (tp, (if (regY x d).1 + 1 = (lexL d).length ∧ topS (regY x d).2.2.2.1 = 1 then ((regY x d).2.1, (regY x d).2.2.1) else (sgM x, sgN x)),
    (if (regY x d).1 + 1 = (lexL d).length ∧ topS (regY x d).2.2.2.1 = 1 then layAllR (runsOf (regY x d).2.2.1 (regR x d)) (sgP x) else sgP x), (sgE x + 1, (if (regY x d).1 + 1 = (lexL d).length ∧ topS (regY x d).2.2.2.1 = 1 then (laG x d, (rcR x d).1) else (laW x d, (sgLs x).2))), (sgC x :: sgA x).take 20, newC x d, [])
/-! ===== a change keeps what holds of the state ===== -/
theorem TreeI.cg {m m' R n : Nat} {N N' : Nat → Nd} {og : Nat → Nat} (h : NdOk m N) (t : TreeI m N R n og) (hm : m ≤ m') (e : ∀ k, k < m → N' k = N k) : TreeI m' N' R n og := by
  obtain ⟨t1, t2, t3, t4, t5, t6, t7, t8⟩ := t
  have hy : yl N' R = yl N R := yl_cg h (fun c hc => by rw [e c hc]; exact NdE.rf) t1
  refine ⟨by omega, by rw [e R t1]; exact t2, by rw [hy]; exact t3, t4, fun i hi => ?_, fun z hz => ?_, t7, t8⟩
  · obtain ⟨a, b⟩ := t5 i hi
    exact ⟨by omega, by rw [e _ a]; exact b⟩
  · rw [hy] at hz
    rw [e z (by have := (yl_mem h R t1 z hz).1; omega)]
    exact t6 z hz
theorem MoOk.cg {m m' : Nat} {N N' : Nat → Nd} {x : Mo} (h : NdOk m N) (o : MoOk m N x) (hm : m ≤ m') (e : ∀ k, k < m → N' k = N k) : MoOk m' N' x := by
  obtain ⟨o1, o2, o3, o4, o5⟩ := o
  refine ⟨o1, o2, o3, o4.cg h hm e, fun i y hy => ?_⟩
  have hi := (List.getElem?_eq_some_iff.mp hy).1
  rw [e _ (o4.2.2.2.2.1 i hi).1]
  exact o5 i y hy
theorem rnL_mem {N : Nat → Nd} {F : List Fl} : ∀ (d p : Nat), ∀ r ∈ rnL N F d p, ∃ x ∈ F, x.1 = r ∧ ndM (N r) = 1
  | 0, _, r, hr => by cases hr
  | d + 1, p, r, hr => by
    cases hx : F[p]? with
    | none =>
      rw [rnL_no (List.getElem?_eq_none_iff.mp hx)] at hr
      cases hr
    | some x =>
      rw [rnL_at hx] at hr
      by_cases u : ndM (N x.1) = 1
      · rw [if_pos u] at hr
        rcases List.mem_cons.mp hr with rfl | hr
        · exact ⟨x, List.mem_of_getElem? hx, rfl, u⟩
        · exact rnL_mem d _ r hr
      · rw [if_neg u] at hr
        exact rnL_mem d _ r hr
theorem runs_ok {m R n : Nat} {og : Nat → Nat} {N : Nat → Nd} (hN : NdOk m N) (hu : UqE m N) (t : TreeI m N R n og) : (∀ r ∈ runsOf N R, r < m) ∧ (runsOf N R).length ≤ 99 := by
  have fg := t.flG hN hu
  refine ⟨fun r hr => ?_, ?_⟩
  · obtain ⟨x, hx, hx1, -⟩ := rnL_mem 400 0 r hr
    obtain ⟨p, hp⟩ := List.mem_iff_getElem?.mp hx
    rw [← hx1]
    exact (fg.1.2 p x hp).1
  · have := rnL_len (F := flR N R) hN 400 0 0 [(R, 0, 1)] (fun y hy => by cases List.mem_singleton.mp hy; exact t.1) (by
      rw [List.drop_zero]
      show fl N R 0 0 0 1 = fl N R 0 0 0 1 ++ []
      rw [List.append_nil])
    rw [tkW_cons] at this
    change (runsOf N R).length ≤ ndT (N R) + 0 at this
    have h2 := t.tk hN
    have h3 := t.2.2.2.2.2.2.2
    omega
theorem layAllR_ok {rs : List Nat} {pl : List (Nat × Nat)} (hrs : ∀ r ∈ rs, r < 3400) (hu : PrU pl) : PrU (layAllR rs pl) ∧ pl.length ≤ (layAllR rs pl).length ∧ (layAllR rs pl).length ≤ pl.length + rs.length := by
  unfold layAllR
  by_cases h0 : rs.length = 0
  · rw [if_pos h0]
    exact ⟨hu, Nat.le_refl _, by omega⟩
  · rw [if_neg h0]
    obtain ⟨a1, a2, a3, a4⟩ := layR_ok hrs 9 0 rs.length pl (by omega) hu
    exact ⟨a1, a2, by omega⟩
/-- all about naming and growing, at once -/
theorem reg_ok {x : Sg} {d : List Int32} (hv : Iv x) (hd : txOk d) : ∃ (m1 : Nat) (g : Nat → Nat) (N1 : Nat → Nd) (k : Nat) (y : Gs), reg x d = ((m1, g, N1), k, y) ∧
    namF (txF d) (lexL d) (kAhead (txF (moG (sgC x))) (lexL (moG (sgC x))) (txF d) (lexL d)) (kBehind (txF (moG (sgC x))) (lexL (moG (sgC x))) (txF d) (lexL d)) (lexL (moG (sgC x))).length (moO (sgC x)) (sgE x + 1) (lexL d).length 0 (sgM x) (fun _ => 0) (sgN x) = (m1, g, N1) ∧
    gRun (flR (sgN x) (moR (sgC x))) (kAhead (txF (moG (sgC x))) (lexL (moG (sgC x))) (txF d) (lexL d)) (kBehind (txF (moG (sgC x))) (lexL (moG (sgC x))) (txF d) (lexL d)) (lexL d).length (lexL (moG (sgC x))).length g (sgE x + 1) 2000 0 (0, m1, N1, [(0, 0)], 0) = (k, y) ∧
    (GE (flR (sgN x) (moR (sgC x))) (kAhead (txF (moG (sgC x))) (lexL (moG (sgC x))) (txF d) (lexL d)) (kBehind (txF (moG (sgC x))) (lexL (moG (sgC x))) (txF d) (lexL d)) (lexL d).length (lexL (moG (sgC x))).length g (fun i => ((lexL d).getD i (10, 0, 0)).1) ∧
      GI (flR (sgN x) (moR (sgC x))) (lexL d).length (lexL (moG (sgC x))).length g (fun i => ((lexL d).getD i (10, 0, 0)).1) m1 0 m1 N1 [(0, 0)] 0 ∧
      (∀ i, i < (lexL d).length → ∀ j, wasN (kAhead (txF (moG (sgC x))) (lexL (moG (sgC x))) (txF d) (lexL d)) (kBehind (txF (moG (sgC x))) (lexL (moG (sgC x))) (txF d) (lexL d)) (lexL d).length (lexL (moG (sgC x))).length i = some j → g i = moO (sgC x) j) ∧ sgM x ≤ m1 ∧ m1 ≤ sgM x + 100) ∧
    ((∀ k, k < sgM x → y.2.2.1 k = sgN x k) ∧ m1 ≤ y.2.1 ∧ y.2.1 ≤ m1 + 149 ∧ NdOk y.2.1 y.2.2.1 ∧ UqE y.2.1 y.2.2.1 ∧ TkI y.2.2.1 (txF d) (lexL d) g ∧ (∀ c, c < y.2.1 → ndT (y.2.2.1 c) ≤ 100) ∧
      (y.1 + 1 = (lexL d).length → topS y.2.2.2.1 = 1 → ∃ b : Nat × Nat, y.2.2.2.1 = [b, (regR x d, 1)] ∧ TreeI y.2.1 y.2.2.1 (regR x d) (lexL d).length g)) := by
  obtain ⟨-, hN, hu, hm, hT, -, -, hC, -⟩ := hv
  obtain ⟨c1, c2, c3, c4, c5⟩ := hC
  have hl := lex_lxo hd
  have hl' := lex_lxo c2
  rcases hn : namF (txF d) (lexL d) (kAhead (txF (moG (sgC x))) (lexL (moG (sgC x))) (txF d) (lexL d)) (kBehind (txF (moG (sgC x))) (lexL (moG (sgC x))) (txF d) (lexL d)) (lexL (moG (sgC x))).length (moO (sgC x)) (sgE x + 1) (lexL d).length 0 (sgM x) (fun _ => 0) (sgN x) with ⟨m1, g, N1⟩
  rcases hr : gRun (flR (sgN x) (moR (sgC x))) (kAhead (txF (moG (sgC x))) (lexL (moG (sgC x))) (txF d) (lexL d)) (kBehind (txF (moG (sgC x))) (lexL (moG (sgC x))) (txF d) (lexL d)) (lexL d).length (lexL (moG (sgC x))).length g (sgE x + 1) 2000 0 (0, m1, N1, [(0, 0)], 0) with ⟨k, y⟩
  obtain ⟨ge, gi, gj, hog, hnew, hm0, hm1, htk, hinj⟩ := naming_ok hN hu c4 c5 hl hl' hn
  obtain ⟨q1, q2, q3, q4, q5, q6, q7⟩ := grown_ok hN hu c4 c5 hl hl' hn hr
  have hreg : reg x d = ((m1, g, N1), k, y) := by
    unfold reg
    dsimp only
    rw [hn]
    dsimp only
    rw [hr]
  have hk100 := hl.2.2.1
  refine ⟨m1, g, N1, k, y, hreg, rfl, hr, ⟨ge, gi, hog, hm0, by omega⟩, q1, q2, q3, q4, q5, q6, ?_, ?_⟩
  · have := gRun_inv (e := sgE x + 1) ge (P := fun z => GJ (sgM x) (sgN x) g z.1 z.2.1 z.2.2.1 z.2.2.2.1 ∧ ∀ c, c < z.2.1 → ndT (z.2.2.1 c) ≤ 100) (grown_tk hN c4 rfl hog hnew hm0 ge) 2000 0 (0, m1, N1, [(0, 0)], 0) gi ⟨gj, fun c hc => ?_⟩
    · rw [hr] at this
      exact this.2
    · dsimp only at hc ⊢
      by_cases u : c < sgM x
      · rw [gj.2.2.2.2.2 c u]
        exact hT c u
      · obtain ⟨-, -, -, -, -, a6, -⟩ := namF_ok _ _ _ _ _ _ _ _ hn
        obtain ⟨i', -, -, b3⟩ := a6 c (by omega) hc
        rw [b3]
        exact (by decide : 1 ≤ 100)
  · intro h1 h2
    obtain ⟨b, R', e1, e2⟩ := q7 h1 h2
    have hRR : regR x d = R' := by
      unfold regR regY
      rw [hreg]
      dsimp only
      rw [e1]
      rfl
    rw [hRR]
    exact ⟨b, e1, e2⟩
/-! ===== nodes of a RULE of the TREE ahead that are not in the new one ===== -/
theorem po_tr {m : Nat} {N : Nat → Nd} (h : NdOk m N) (R : Nat) : R < m → ∀ b ∈ po N R, ∀ z ∈ po N b, z ∈ po N R := by
  induction R using Nat.strongRecOn with
  | ind R ih =>
    intro hR b hb z hz
    rw [po_eq h hR] at hb
    rcases List.mem_cons.mp hb with rfl | hb
    · exact hz
    · obtain ⟨c, hc, hbc⟩ := List.mem_flatMap.mp hb
      have hlt := h.lt hR hc
      rw [po_eq h hR]
      exact List.mem_cons_of_mem _ (List.mem_flatMap.mpr ⟨c, hc, ih c hlt (by omega) b hbc z hz⟩)
theorem po_self {m c : Nat} {N : Nat → Nd} (h : NdOk m N) (hc : c < m) : c ∈ po N c := by
  rw [po_eq h hc]
  exact List.mem_cons_self ..
theorem fl_poZ {m R i : Nat} {N : Nat → Nd} {x : Fl} (h : NdOk m N) (hR : R < m) (hx : (flR N R)[i]? = some x) : x.1 ∈ po N R := by
  rw [← fl_map h R hR 0 0 0 1]
  exact List.mem_map.mpr ⟨x, List.mem_of_getElem? hx, rfl⟩
def BkI (N0 : Nat → Nd) (R0 m1 : Nat) (z : Gs) : Prop := (∀ c, m1 ≤ c → c < z.2.1 → ∃ p ∈ z.2.2.2.1.drop 1, c ∈ po z.2.2.1 p.1) ∧ ∀ p ∈ z.2.2.2.1.drop 1, ∀ w ∈ po z.2.2.1 p.1, 0 ≤ ndR (z.2.2.1 w) → w < m1 → w ∈ po N0 R0
theorem BkI.nx {A B n n' e m0 m1 R k : Nat} {g kd : Nat → Nat} {N0 : Nat → Nd} {x y : Gs} (h0 : NdOk m0 N0) (hR : R < m0) (ge : GE (flR N0 R) A B n n' g kd) (h : GI (flR N0 R) n n' g kd m1 x.1 x.2.1 x.2.2.1 x.2.2.2.1 k) (hm01 : m0 ≤ m1) (hN0 : ∀ c, c < m0 → x.2.2.1 c = N0 c) (hb : BkI N0 R m1 x) (e1 : gNx (flR N0 R) A B n n' g e x.1 x.2.1 x.2.2.1 x.2.2.2.1 x.2.2.2.2 = some y) : BkI N0 R m1 y := by
  have hnx := h.nx ge e1
  have hcw := ge.cw h.2.2.2.2.2.1 h.1
  obtain ⟨i, m, N, st, tk⟩ := x
  dsimp only at h hN0 hb e1 hcw
  obtain ⟨hi, ⟨s1, s2, s3, s4⟩, hf, ⟨hm1, hmk⟩, hN, hF, hg⟩ := h
  obtain ⟨b1, b2⟩ := hb
  dsimp only at b1 b2
  obtain ⟨p0, t1, t2⟩ := top_at s1
  -- nodes on the stack are there already
  have stl : ∀ p ∈ st.drop 1, p.1 < m := fun p hp => by
    obtain ⟨j, j1, j2⟩ := mem_drop1 hp
    exact (s3 j p j2).2 j1
  unfold gNx at e1
  cases hbo : bestOf (flR N0 R) N A B n n' i (topS st) (g i) with
  | some b =>
    rw [hbo] at e1
    cases e1
    obtain ⟨j, hj, p, x, r, c1, c2, -⟩ := bestOf_ok hF hcw hbo
    have hbR := fl_poZ h0 hR c1
    rw [c2] at hbR
    have hb0 : b < m0 := by
      have := po_le h0 R hR b hbR
      omega
    refine ⟨fun c hc1 hc2 => ?_, fun p hp w hw hr hlt => ?_⟩
    · obtain ⟨p, p1, p2⟩ := b1 c hc1 hc2
      exact ⟨p, by rw [drop1_snoc s1]; exact List.mem_append_left _ p1, p2⟩
    · dsimp only at hp hw hr
      rw [drop1_snoc s1] at hp
      rcases List.mem_append.mp hp with hp | hp
      · exact b2 p hp w hw hr hlt
      · cases List.mem_singleton.mp hp
        dsimp only at hw
        rw [po_cg h0 (fun c hc => by rw [hN0 c hc]; exact NdE.rf) hb0] at hw
        exact po_tr h0 R hR b hbR w hw
  | none =>
    rw [hbo] at e1
    obtain ⟨hgm, hgR, hgK⟩ := hg i hi
    by_cases hz : ldN (topS st) (ndM (N (g i))) = 0
    · rw [if_pos hz] at e1
      cases hr : rlN (topS st) with
      | none =>
        rw [hr] at e1
        cases e1
      | some r =>
        rw [hr] at e1
        cases e1
        dsimp only at hnx ⊢
        obtain ⟨f1, f2⟩ := st_fits s2 s3 s1 t1 t2 hr
        have f1' : lnN r < st.length := f1
        have hN' : NdOk (m + 1) (upN N m (byN N st r e)) := hnx.2.2.2.2.1
        have pc : ∀ c, c < m → po (upN N m (byN N st r e)) c = po N c := fun c hc => po_cg hN (fun c hc => by rw [upN_o (by omega)]; exact NdE.rf) hc
        have hch : ndC (upN N m (byN N st r e) m) = byC st r := by rw [upN_self]; rfl
        have htk : 1 ≤ (st.take (st.length - lnN r)).length := by
          rw [List.length_take]
          omega
        refine ⟨fun c hc1 hc2 => ?_, fun p hp w hw hrl hlt => ?_⟩
        · dsimp only at hc2 ⊢
          unfold byT
          rw [drop1_snoc htk]
          by_cases u : c = m
          · exact ⟨_, List.mem_append_right _ (List.mem_singleton.mpr rfl), by rw [u]; exact po_self hN' (Nat.lt_succ_self m)⟩
          · obtain ⟨p, p1, p2⟩ := b1 c hc1 (by omega)
            have hpm := stl p p1
            obtain ⟨j, j1, j2⟩ := mem_drop1 p1
            by_cases v : j < st.length - lnN r
            · refine ⟨p, List.mem_append_left _ ?_, by rw [pc _ hpm]; exact p2⟩
              have hh : ((st.take (st.length - lnN r)).drop 1)[j - 1]? = some p := by
                rw [List.getElem?_drop, List.getElem?_take, if_pos (by omega), show 1 + (j - 1) = j by omega]
                exact j2
              exact List.mem_of_getElem? hh
            · refine ⟨_, List.mem_append_right _ (List.mem_singleton.mpr rfl), ?_⟩
              dsimp only
              rw [po_eq hN' (Nat.lt_succ_self m), hch]
              refine List.mem_cons_of_mem _ (List.mem_flatMap.mpr ⟨p.1, ?_, by rw [pc _ hpm]; exact p2⟩)
              have hh : (st.drop (st.length - lnN r))[j - (st.length - lnN r)]? = some p := by
                rw [List.getElem?_drop, show st.length - lnN r + (j - (st.length - lnN r)) = j by omega]
                exact j2
              exact List.mem_map.mpr ⟨p, List.mem_of_getElem? hh, rfl⟩
        · dsimp only at hp hw hrl
          unfold byT at hp
          rw [drop1_snoc htk] at hp
          rcases List.mem_append.mp hp with hp | hp
          · have hp' : p ∈ st.drop 1 := by
              obtain ⟨j, j1, j2⟩ := mem_drop1 hp
              obtain ⟨-, j3⟩ := take_at j2
              have hh : (st.drop 1)[j - 1]? = some p := by
                rw [List.getElem?_drop, show 1 + (j - 1) = j by omega]
                exact j3
              exact List.mem_of_getElem? hh
            have hpm := stl p hp'
            rw [pc _ hpm] at hw
            have := po_le hN p.1 hpm w hw
            rw [upN_o (by omega)] at hrl
            exact b2 p hp' w hw hrl hlt
          · cases List.mem_singleton.mp hp
            dsimp only at hw
            rw [po_eq hN' (Nat.lt_succ_self m), hch] at hw
            rcases List.mem_cons.mp hw with rfl | hw
            · omega
            · obtain ⟨c, hc, hwc⟩ := List.mem_flatMap.mp hw
              obtain ⟨q, hq, rfl⟩ := List.mem_map.mp hc
              have hq' : q ∈ st.drop 1 := by
                obtain ⟨j, hj⟩ := List.mem_iff_getElem?.mp hq
                rw [List.getElem?_drop] at hj
                have hh : (st.drop 1)[st.length - lnN r + j - 1]? = some q := by
                  rw [List.getElem?_drop, show 1 + (st.length - lnN r + j - 1) = st.length - lnN r + j by omega]
                  exact hj
                exact List.mem_of_getElem? hh
              have hqm := stl q hq'
              rw [pc _ hqm] at hwc
              have := po_le hN q.1 hqm w hwc
              rw [upN_o (by omega)] at hrl
              exact b2 q hq' w hwc hrl hlt
    · rw [if_neg hz] at e1
      cases e1
      have pc : ∀ c, c < m → po (upN N (g i) (stNd (N (g i)) (topS st))) c = po N c := fun c hc => po_cg hN (fun c _ => upN_stE c) hc
      refine ⟨fun c hc1 hc2 => ?_, fun p hp w hw hrl hlt => ?_⟩
      · obtain ⟨p, p1, p2⟩ := b1 c hc1 hc2
        exact ⟨p, by rw [drop1_snoc s1]; exact List.mem_append_left _ p1, by rw [pc _ (stl p p1)]; exact p2⟩
      · dsimp only at hp hw hrl
        have hE : ndR (upN N (g i) (stNd (N (g i)) (topS st)) w) = ndR (N w) := (upN_stE (N := N) (c := g i) (s := topS st) w).1
        rw [hE] at hrl
        rw [drop1_snoc s1] at hp
        rcases List.mem_append.mp hp with hp | hp
        · rw [pc _ (stl p hp)] at hw
          exact b2 p hp w hw hrl hlt
        · cases List.mem_singleton.mp hp
          dsimp only at hw
          rw [pc _ hgm, po_eq hN hgm] at hw
          rcases List.mem_cons.mp hw with rfl | hw
          · omega
          · rcases hN (g i) hgm with ⟨-, q2, -⟩ | ⟨r', s', -, -, q3, -⟩
            · rw [q2] at hw
              cases hw
            · omega
theorem nd_leN {l S : List Nat} (h : l.Nodup) (hs : ∀ x ∈ l, x ∈ S) : l.length ≤ S.length := by
  induction l generalizing S with
  | nil => exact Nat.zero_le _
  | cons x l ih =>
    obtain ⟨h1, h2⟩ := List.nodup_cons.mp h
    have hx := hs x (List.mem_cons_self ..)
    have h3 := ih (S := S.erase x) h2 (fun y hy => (List.mem_erase_of_ne (fun e => h1 (by rw [← e]; exact hy))).mpr (hs y (List.mem_cons_of_mem _ hy)))
    rw [List.length_erase_of_mem hx] at h3
    have h4 := List.length_pos_of_mem hx
    rw [List.length_cons]
    omega
def NwI (N1 : Nat → Nd) (m1 e : Nat) (z : Gs) : Prop := m1 ≤ z.2.1 ∧ (∀ c, c < m1 → NdE (N1 c) (z.2.2.1 c)) ∧ ∀ c, m1 ≤ c → c < z.2.1 → ndB (z.2.2.1 c) = e ∧ 0 ≤ ndR (z.2.2.1 c)
theorem NwI.nx {F : List Fl} {A B n n' e m1 : Nat} {g : Nat → Nat} {N1 : Nat → Nd} {x y : Gs} (h : NwI N1 m1 e x) (e1 : gNx F A B n n' g e x.1 x.2.1 x.2.2.1 x.2.2.2.1 x.2.2.2.2 = some y) : NwI N1 m1 e y := by
  obtain ⟨h1, h2, h3⟩ := h
  obtain ⟨f1, f2⟩ := gNx_E e1
  refine ⟨by omega, fun c hc => (h2 c hc).tr (f2 c (by omega)), fun c hc1 hc2 => ?_⟩
  by_cases u : c < x.2.1
  · obtain ⟨a, b⟩ := h3 c hc1 u
    have w := f2 c u
    exact ⟨w.2.2.2.1.trans a, by rw [w.1]; exact b⟩
  · obtain ⟨i, m, N, st, tk⟩ := x
    dsimp only at u e1
    unfold gNx at e1
    cases hb : bestOf F N A B n n' i (topS st) (g i) with
    | some b =>
      rw [hb] at e1
      cases e1
      exact absurd hc2 u
    | none =>
      rw [hb] at e1
      by_cases hz : ldN (topS st) (ndM (N (g i))) = 0
      · rw [if_pos hz] at e1
        cases hr : rlN (topS st) with
        | none =>
          rw [hr] at e1
          cases e1
        | some r =>
          rw [hr] at e1
          cases e1
          dsimp only at hc2 ⊢
          rw [show c = m by omega, upN_self]
          refine ⟨rfl, ?_⟩
          show (0 : Int) ≤ (r : Int)
          omega
      · rw [if_neg hz] at e1
        cases e1
        exact absurd hc2 u
def rgL (a : Nat) : Nat → List Nat
  | 0 => []
  | d + 1 => (a + d) :: rgL a d
theorem rgL_mem {a c : Nat} : ∀ {d : Nat}, c ∈ rgL a d ↔ a ≤ c ∧ c < a + d
  | 0 => ⟨fun h => (by cases h), fun h => by omega⟩
  | d + 1 => by
    show c ∈ (a + d) :: rgL a d ↔ _
    rw [List.mem_cons, rgL_mem]
    omega
theorem rgL_nd {a : Nat} : ∀ {d : Nat}, (rgL a d).Nodup
  | 0 => List.nodup_nil
  | d + 1 => List.nodup_cons.mpr ⟨fun h => by have := (rgL_mem.mp h).2; omega, rgL_nd⟩
theorem rgL_len {a : Nat} : ∀ {d : Nat}, (rgL a d).length = d
  | 0 => rfl
  | d + 1 => congrArg Nat.succ rgL_len
/-- how many are not in the new TREE -/
theorem brk_cnt {m0 m1 R : Nat} {N0 : Nat → Nd} {y : Gs} {R' : Nat} {b0 : Nat × Nat} (h0 : NdOk m0 N0) (hR : R < m0) (hm01 : m0 ≤ m1) (hm1 : m1 ≤ y.2.1) (hN : NdOk y.2.1 y.2.2.1) (hR' : R' < y.2.1) (hN0 : ∀ c, c < m0 → y.2.2.1 c = N0 c) (hst : y.2.2.2.1 = [b0, (R', 1)]) (hb : BkI N0 R m1 y) (hw : ∀ c, m1 ≤ c → c < y.2.1 → 0 ≤ ndR (y.2.2.1 c)) (hnd0 : (po N0 R).Nodup) (hnd : (po y.2.2.1 R').Nodup) :
    ((po N0 R).filter (fun c => decide (0 ≤ ndR (N0 c)))).length + (y.2.1 - m1) = ((po y.2.2.1 R').filter (fun c => decide (0 ≤ ndR (y.2.2.1 c)))).length + ((po N0 R).filter (fun c => decide (0 ≤ ndR (N0 c) ∧ c ∉ po y.2.2.1 R'))).length := by
  obtain ⟨i, m, N, st, tk⟩ := y
  dsimp only at *
  obtain ⟨b1, b2⟩ := hb
  dsimp only at b1 b2
  have hd1 : st.drop 1 = [(R', 1)] := by rw [hst]; rfl
  rw [hd1] at b1 b2
  have b1' : ∀ c, m1 ≤ c → c < m → c ∈ po N R' := fun c h1 h2 => by
    obtain ⟨p, p1, p2⟩ := b1 c h1 h2
    cases List.mem_singleton.mp p1
    exact p2
  have b2' : ∀ w ∈ po N R', 0 ≤ ndR (N w) → w < m1 → w ∈ po N0 R := b2 (R', 1) (List.mem_singleton.mpr rfl)
  -- those of the TREE ahead: in the new one, or not
  have sp : ∀ l : List Nat, (l.filter (fun c => decide (0 ≤ ndR (N0 c)))).length = (l.filter (fun c => decide (0 ≤ ndR (N0 c) ∧ c ∈ po N R'))).length + (l.filter (fun c => decide (0 ≤ ndR (N0 c) ∧ c ∉ po N R'))).length := by
    intro l
    induction l with
    | nil => rfl
    | cons c l ih =>
      rw [List.filter_cons, List.filter_cons, List.filter_cons]
      by_cases u : 0 ≤ ndR (N0 c)
      · rw [if_pos (decide_eq_true u), List.length_cons, ih]
        by_cases v : c ∈ po N R'
        · rw [if_pos (decide_eq_true ⟨u, v⟩), if_neg (fun w => (of_decide_eq_true w).2 v), List.length_cons]
          omega
        · rw [if_neg (fun w => v (of_decide_eq_true w).2), if_pos (decide_eq_true ⟨u, v⟩), List.length_cons]
          omega
      · rw [if_neg (fun w => u (of_decide_eq_true w)), if_neg (fun w => u (of_decide_eq_true w).1), if_neg (fun w => u (of_decide_eq_true w).1)]
        exact ih
  have key : ((po N R').filter (fun c => decide (0 ≤ ndR (N c)))).length = ((po N0 R).filter (fun c => decide (0 ≤ ndR (N0 c) ∧ c ∈ po N R')) ++ rgL m1 (m - m1)).length := by
    have hnA : ((po N0 R).filter (fun c => decide (0 ≤ ndR (N0 c) ∧ c ∈ po N R')) ++ rgL m1 (m - m1)).Nodup := by
      refine List.nodup_append.mpr ⟨List.Pairwise.filter _ hnd0, rgL_nd, fun a ha b hb' e => ?_⟩
      have h1 := po_le h0 R hR a (List.mem_filter.mp ha).1
      have h2 := (rgL_mem.mp hb').1
      omega
    have iff : ∀ c, c ∈ (po N R').filter (fun c => decide (0 ≤ ndR (N c))) ↔ c ∈ (po N0 R).filter (fun c => decide (0 ≤ ndR (N0 c) ∧ c ∈ po N R')) ++ rgL m1 (m - m1) := by
      intro c
      rw [List.mem_append, List.mem_filter, List.mem_filter, rgL_mem]
      constructor
      · rintro ⟨h1, h2⟩
        have h2 := of_decide_eq_true h2
        by_cases u : c < m1
        · have h3 := b2' c h1 h2 u
          have h4 := po_le h0 R hR c h3
          rw [hN0 c (by omega)] at h2
          exact Or.inl ⟨h3, decide_eq_true ⟨h2, h1⟩⟩
        · have h4 := po_le hN R' hR' c h1
          exact Or.inr ⟨by omega, by omega⟩
      · rintro (⟨h1, h2⟩ | ⟨h1, h2⟩)
        · obtain ⟨h3, h4⟩ := of_decide_eq_true h2
          have h5 := po_le h0 R hR c h1
          exact ⟨h4, decide_eq_true (by rw [hN0 c (by omega)]; exact h3)⟩
        · exact ⟨b1' c h1 (by omega), decide_eq_true (hw c h1 (by omega))⟩
    exact Nat.le_antisymm (nd_leN (List.Pairwise.filter _ hnd) (fun c hc => (iff c).mp hc)) (nd_leN hnA (fun c hc => (iff c).mpr hc))
  rw [key, List.length_append, rgL_len, sp (po N0 R)]
  omega
/-! ===== how many NAMES a TREE has ===== -/
/-- a weight summed up over the nodes of a tree -/
def poW (N : Nat → Nd) (f : Nat → Nat) (c : Nat) : Nat := ((po N c).map f).sum
theorem fmW {N : Nat → Nd} {f : Nat → Nat} : ∀ {l : List Nat}, ((l.flatMap (po N)).map f).sum = (l.map (poW N f)).sum
  | [] => rfl
  | c :: l => by
    rw [List.flatMap_cons, List.map_append, List.sum_append, fmW, List.map_cons, List.sum_cons]
    rfl
theorem poW_eq {m c : Nat} {N : Nat → Nd} {f : Nat → Nat} (h : NdOk m N) (hc : c < m) : poW N f c = f c + ((ndC (N c)).map (poW N f)).sum := by
  unfold poW
  rw [po_eq h hc, List.map_cons, List.sum_cons, fmW]
  rfl
theorem poW_le {m : Nat} {N : Nat → Nd} {f : Nat → Nat} {e : Nat → Int} (h : NdOk m N) (ht : ∀ c, c < m → ndR (N c) = -2 → (2 : Int) * f c ≤ 1 + e (5 + ndK (N c))) (hr : ∀ c (r : Nat), c < m → r < 11 → ndR (N c) = (r : Int) → (2 : Int) * f c + ((rhS r).map e).sum ≤ e (syN r)) (c : Nat) : c < m → (2 : Int) * poW N f c ≤ ndT (N c) + e (ndM (N c)) := by
  have lst : ∀ l : List Nat, (∀ z ∈ l, (2 : Int) * poW N f z ≤ ndT (N z) + e (ndM (N z))) → (2 : Int) * (l.map (poW N f)).sum ≤ tkS N l + (l.map (fun z => e (ndM (N z)))).sum := by
    intro l
    induction l with
    | nil =>
      intro _
      show (2 : Int) * ((0 : Nat) : Int) ≤ ((0 : Nat) : Int) + 0
      omega
    | cons z l ih =>
      intro hl
      have h1 := hl z (List.mem_cons_self ..)
      have h2 := ih (fun w hw => hl w (List.mem_cons_of_mem _ hw))
      rw [List.map_cons, List.sum_cons, tkS_cons, List.map_cons, List.sum_cons]
      omega
  induction c using Nat.strongRecOn with
  | ind c ih =>
    intro hc
    rw [poW_eq h hc]
    rcases h c hc with ⟨e1, e2, e3, e4, -⟩ | ⟨r, s, hr11, -, e3, -, -, e6, e7, e8⟩
    · have hM : ndM (N c) = 5 + ndK (N c) := by
        unfold ndM
        rw [if_pos (by omega)]
      have h1 := ht c hc e1
      rw [e2, e4, hM]
      show (2 : Int) * ((f c + 0 : Nat) : Int) ≤ _
      omega
    · have hM : ndM (N c) = syN r := by
        unfold ndM
        rw [e3, if_neg (by omega)]
        rfl
      have h1 := hr c r hc hr11 e3
      have h2 := lst (ndC (N c)) (fun z hz => ih z (e7 z hz) (by have := e7 z hz; omega))
      rw [← e6, List.map_map] at h1
      have he : (List.map (e ∘ fun c => ndM (N c)) (ndC (N c))) = (ndC (N c)).map (fun z => e (ndM (N z))) := rfl
      rw [he] at h1
      rw [hM, e8]
      omega
def eNm (y : Nat) : Int := if y ≤ 1 then 0 else if y ≤ 5 then 1 else -1
def eR8 (y : Nat) : Int := if y ≤ 1 then 0 else if y ≤ 4 then 1 else -1
theorem eNm_fin : ∀ r, r < 11 → ((rhS r).map eNm).sum ≤ eNm (syN r) := by decide +kernel
theorem eR8_fin : ∀ r, r < 11 → (2 : Int) * (if r = 8 then 1 else 0) + ((rhS r).map eR8).sum ≤ eR8 (syN r) := by decide +kernel
def isNm (N : Nat → Nd) (z : Nat) : Nat := if ndR (N z) = -2 ∧ ndK (N z) = 0 then 1 else 0
def isR8 (N : Nat → Nd) (z : Nat) : Nat := if ndR (N z) = 8 then 1 else 0
theorem names_le {m R n : Nat} {og : Nat → Nat} {N : Nat → Nd} (h : NdOk m N) (t : TreeI m N R n og) : poW N (isNm N) R ≤ 49 ∧ poW N (isR8 N) R ≤ 49 := by
  have h2 := t.tk h
  have h3 := t.2.2.2.2.2.2.2
  constructor
  · have := poW_le (f := isNm N) (e := eNm) h (fun c hc hr => ?_) (fun c r hc hr11 hr => ?_) R t.1
    · rw [t.2.1] at this
      have h4 : eNm 0 = 0 := rfl
      omega
    · unfold isNm eNm
      by_cases u : ndR (N c) = -2 ∧ ndK (N c) = 0
      · rw [if_pos u, u.2]
        decide
      · rw [if_neg u, if_neg (by omega)]
        split <;> omega
    · have h5 := eNm_fin r hr11
      unfold isNm
      rw [if_neg (by omega)]
      omega
  · have := poW_le (f := isR8 N) (e := eR8) h (fun c hc hr => ?_) (fun c r hc hr11 hr => ?_) R t.1
    · rw [t.2.1] at this
      have h4 : eR8 0 = 0 := rfl
      omega
    · unfold isR8 eR8
      rw [if_neg (by omega), if_neg (by omega), if_neg (by omega)]
      omega
    · have h5 := eR8_fin r hr11
      unfold isR8
      by_cases u : r = 8
      · rw [if_pos (by omega)]
        rw [if_pos u] at h5
        omega
      · rw [if_neg (by omega)]
        rw [if_neg u] at h5
        omega
theorem nd_le {l S : List Int64} (h : l.Nodup) (hs : ∀ x ∈ l, x ∈ S) : l.length ≤ S.length := by
  induction l generalizing S with
  | nil => exact Nat.zero_le _
  | cons x l ih =>
    obtain ⟨h1, h2⟩ := List.nodup_cons.mp h
    have hx := hs x (List.mem_cons_self ..)
    have h3 := ih (S := S.erase x) h2 (fun y hy => (List.mem_erase_of_ne (fun e => h1 (by rw [← e]; exact hy))).mpr (hs y (List.mem_cons_of_mem _ hy)))
    rw [List.length_erase_of_mem hx] at h3
    have h4 := List.length_pos_of_mem hx
    rw [List.length_cons]
    omega
/-- the model's list of NAMES: unlike ones out of S -/
def NmM (I : zI) (S : List Int64) : Prop := ∃ nm : List Int64, I.1 491 55 = zi nm.length ∧ (∀ (i : Nat) (v : Int64), nm[i]? = some v → I.2 530 i = v) ∧ nm.Nodup ∧ ∀ v ∈ nm, v ∈ S
def Qna (a j : Nat) : Prop := (a = 491 ∧ j = 55) ∨ a = 530 ∨ a = 531
theorem po_sub {m : Nat} {N : Nat → Nd} (h : NdOk m N) (R : Nat) : R < m → ∀ c ∈ po N R, ∀ z ∈ ndC (N c), z ∈ po N R := by
  induction R using Nat.strongRecOn with
  | ind R ih =>
    intro hR c hc z hz
    rw [po_eq h hR] at hc ⊢
    rcases List.mem_cons.mp hc with rfl | hc
    · have hzc := h.lt hR hz
      refine List.mem_cons_of_mem _ (List.mem_flatMap.mpr ⟨z, hz, ?_⟩)
      rw [po_eq h (by omega)]
      exact List.mem_cons_self ..
    · obtain ⟨w, hw, hcw⟩ := List.mem_flatMap.mp hc
      have hlt := h.lt hR hw
      exact List.mem_cons_of_mem _ (List.mem_flatMap.mpr ⟨w, hw, ih w hlt (by omega) c hcw z hz⟩)
theorem ex_finZ : ∀ r, r < 11 → 4 ≤ r → (rhS r).all (fun y => decide (2 ≤ y)) = true := by decide +kernel
/-- within an E there is no S -/
theorem ex_subZ {m : Nat} {N : Nat → Nd} (h : NdOk m N) (c : Nat) : c < m → 2 ≤ ndM (N c) → ∀ z ∈ po N c, 2 ≤ ndM (N z) := by
  induction c using Nat.strongRecOn with
  | ind c ih =>
    intro hc h2 z hz
    rw [po_eq h hc] at hz
    rcases List.mem_cons.mp hz with rfl | hz
    · exact h2
    · obtain ⟨y, hy, hzy⟩ := List.mem_flatMap.mp hz
      have hlt := h.lt hc hy
      refine ih y hlt (by omega) ?_ z hzy
      rcases h c hc with ⟨-, e2, -⟩ | ⟨r, s, hr, -, e3, -, -, e6, -⟩
      · rw [e2] at hy
        cases hy
      · have hM : ndM (N c) = syN r := by
          unfold ndM
          rw [e3, if_neg (by omega)]
          rfl
        have h4 : 4 ≤ r := by
          rw [hM] at h2
          have := (sy_fin r hr).2
          exact ru4_fin r hr (by omega)
        have ha := ex_finZ r hr h4
        rw [← e6, List.all_map] at ha
        exact of_decide_eq_true (List.all_eq_true.mp ha y hy)
theorem poV_w {N : Nat → Nd} {en : Int64 → Int32} : ∀ {l : List Nat}, (poV N en l).length = (l.map (isR8 N)).sum
  | [] => rfl
  | c :: l => by
    show (if ndR (N c) = 8 then en (nmC N c) :: poV N en l else poV N en l).length = _
    rw [List.map_cons, List.sum_cons]
    unfold isR8
    by_cases u : ndR (N c) = 8
    · rw [if_pos u, if_pos u, List.length_cons, poV_w, Nat.add_comm]
      rfl
    · rw [if_neg u, if_neg u, poV_w, Nat.zero_add]
      rfl
/-- what a statement reads -/
def gRd (N : Nat → Nd) (s : Nat) : Nat := if ndR (N s) = 2 then poW N (isR8 N) (chN (N s) 2) else 0
theorem rdl_g {N : Nat → Nd} {s : Nat} (h2 : ndR (N s) = 2) : rdl N s = gRd N s := by
  unfold rdl gRd rdV
  rw [if_pos h2, poV_w]
  rfl
theorem smR_g {N : Nat → Nd} : ∀ {L : List Fl}, smR N (st2 N L) = (L.map (fun x => gRd N x.1)).sum
  | [] => rfl
  | x :: L => by
    rw [List.map_cons, List.sum_cons]
    show smR N (if ndR (N x.1) = 2 then x.1 :: st2 N L else st2 N L) = _
    by_cases u : ndR (N x.1) = 2
    · rw [if_pos u, ← smR_g, ← rdl_g u]
      rfl
    · rw [if_neg u, smR_g]
      unfold gRd
      rw [if_neg u, Nat.zero_add]
theorem poW_0 {m c : Nat} {N : Nat → Nd} (h : NdOk m N) (hc : c < m) (h2 : 2 ≤ ndM (N c)) : poW N (gRd N) c = 0 := by
  have hs := ex_subZ h c hc h2
  have hz : ∀ l : List Nat, (∀ z ∈ l, z < m ∧ 2 ≤ ndM (N z)) → (l.map (gRd N)).sum = 0 := by
    intro l
    induction l with
    | nil => exact fun _ => rfl
    | cons z l ih =>
      intro hl
      rw [List.map_cons, List.sum_cons, ih (fun w hw => hl w (List.mem_cons_of_mem _ hw)), Nat.add_zero]
      unfold gRd
      rw [if_neg (fun u => by
        have h1 := (hl z (List.mem_cons_self ..)).2
        unfold ndM at h1
        rw [u, if_neg (by decide)] at h1
        exact absurd h1 (by decide +kernel))]
  exact hz _ (fun z hz => ⟨by have := po_le h c hc z hz; omega, hs z hz⟩)
theorem poW_g {m : Nat} {N : Nat → Nd} (h : NdOk m N) (c : Nat) : c < m → poW N (gRd N) c ≤ poW N (isR8 N) c := by
  induction c using Nat.strongRecOn with
  | ind c ih =>
    intro hc
    by_cases h2 : 2 ≤ ndM (N c)
    · rw [poW_0 h hc h2]
      exact Nat.zero_le _
    · rw [poW_eq h hc, poW_eq h hc]
      by_cases u : ndR (N c) = 2
      · have u' : ndR (N c) = ((2 : Nat) : Int) := u
        obtain ⟨c1, c2, c3⟩ := chN_is (k := 2) (y := 2) h hc u' rfl
        have hg : gRd N c = poW N (isR8 N) (chN (N c) 2) := if_pos u
        have h0 : ((ndC (N c)).map (poW N (gRd N))).sum = 0 := by
          have hz : ∀ l : List Nat, (∀ z ∈ l, poW N (gRd N) z = 0) → (l.map (poW N (gRd N))).sum = 0 := by
            intro l
            induction l with
            | nil => exact fun _ => rfl
            | cons z l ihl =>
              intro hl
              rw [List.map_cons, List.sum_cons, ihl (fun w hw => hl w (List.mem_cons_of_mem _ hw)), hl z (List.mem_cons_self ..)]
          refine hz _ (fun z hz => ?_)
          have hlt := h.lt hc hz
          refine poW_0 h (by omega) ?_
          rcases h c hc with ⟨e1, -⟩ | ⟨r, s, hr, -, e3, -, -, e6, -⟩
          · omega
          · have hr2 : r = 2 := by omega
            subst hr2
            have hz2 : ndM (N z) ∈ rhS 2 := by
              rw [← e6]
              exact List.mem_map.mpr ⟨z, hz, rfl⟩
            have hfin : ∀ y, y ∈ rhS 2 → 2 ≤ y := by decide +kernel
            exact hfin _ hz2
        have hm : ∀ l : List Nat, chN (N c) 2 ∈ l → poW N (isR8 N) (chN (N c) 2) ≤ (l.map (poW N (isR8 N))).sum := by
          intro l
          induction l with
          | nil => exact fun w => by cases w
          | cons z l ihl =>
            intro hl
            rw [List.map_cons, List.sum_cons]
            rcases List.mem_cons.mp hl with e | e
            · rw [e]
              exact Nat.le_add_right _ _
            · have := ihl e
              omega
        have := hm _ (List.mem_of_getElem? c1)
        omega
      · have hg : gRd N c = 0 := if_neg u
        have hs : ∀ l : List Nat, (∀ z ∈ l, z ∈ ndC (N c)) → (l.map (poW N (gRd N))).sum ≤ (l.map (poW N (isR8 N))).sum := by
          intro l
          induction l with
          | nil => exact fun _ => Nat.le_refl _
          | cons z l ihl =>
            intro hl
            rw [List.map_cons, List.sum_cons, List.map_cons, List.sum_cons]
            have h1 := ihl (fun w hw => hl w (List.mem_cons_of_mem _ hw))
            have hlt := h.lt hc (hl z (List.mem_cons_self ..))
            have h3 := ih z hlt (by omega)
            omega
        have := hs _ (fun z hz => hz)
        omega
theorem smR_49 {m R n : Nat} {og : Nat → Nat} {N : Nat → Nd} (h : NdOk m N) (t : TreeI m N R n og) : smR N (setsOf N R) ≤ 49 := by
  have h1 : smR N (setsOf N R) = poW N (gRd N) R := by
    show smR N (st2 N (flR N R)) = ((po N R).map (gRd N)).sum
    rw [smR_g, ← fl_map h R t.1 0 0 0 1, List.map_map]
    rfl
  have h2 := poW_g h R t.1
  have h3 := (names_le h t).2
  omega
/-! ===== what LAST tells: the class writes it ===== -/
def rzNm (N : Nat → Nd) (L : List Fl) : Nat → Nat
  | 0 => 0
  | r + 1 => rzNm N L r + cnR N r L
theorem s_ruledSize {N : Nat → Nd} {L : List Fl} {I : zI} {K : Int32 → Prop} (h : RmX I N L) (hK : K (zi (rzNm N L 11))) : w_TreeView_ruledSize I K := by
  intro P4 h4
  have main : ∀ d r : Nat, r + d = 11 → P4 (zi (rzNm N L r)) (zi r) := by
    intro d
    induction d with
    | zero =>
      intro r hr
      refine h4 _ _ ?_
      rw [show r = 11 by omega, if_pos (show (11 : Int32) ≤ zi 11 by decide)]
      exact hK
    | succ d ih =>
      intro r hr
      refine h4 _ _ ?_
      rw [if_neg (show ¬ (11 : Int32) ≤ zi r from nle_zi' (n := 11) (by omega))]
      refine (w_get (by decide)).mpr (fun v1 e1 v2 e2 => ?_)
      rw [rg_in (by decide) (show r < 11 by omega), show I.1 (60 + 1) r = zi (cnR N r L) from h r (by omega), zi_add] at e1
      rw [e1, e2, zi_succ]
      exact ih (r + 1) (by omega)
  exact main 11 0 rfl
/-- nodes of a RULE -/
def rlC (N : Nat → Nd) (L : List Fl) : Nat := (L.map (fun x => if 0 ≤ ndR (N x.1) then 1 else 0)).sum
theorem rzN_cons {N : Nat → Nd} {x : Fl} {L : List Fl} : ∀ r, rzNm N (x :: L) r = rzNm N L r + if 0 ≤ ndR (N x.1) ∧ ndR (N x.1) < (r : Int) then 1 else 0
  | 0 => by
    show 0 = 0 + if 0 ≤ ndR (N x.1) ∧ ndR (N x.1) < ((0 : Nat) : Int) then 1 else 0
    rw [if_neg (by omega)]
  | r + 1 => by
    show rzNm N (x :: L) r + cnR N r (x :: L) = rzNm N L r + cnR N r L + _
    rw [rzN_cons r, cnR_cons]
    by_cases c : ndR (N x.1) = (r : Int)
    · rw [if_pos c, if_neg (by omega), if_pos (by omega)]
      omega
    · rw [if_neg c]
      by_cases u : 0 ≤ ndR (N x.1) ∧ ndR (N x.1) < (r : Int)
      · rw [if_pos u, if_pos (by omega)]
        omega
      · rw [if_neg u, if_neg (by omega)]
        omega
theorem rzN_all {m : Nat} {N : Nat → Nd} (hN : NdOk m N) : ∀ {L : List Fl}, (∀ x ∈ L, x.1 < m) → rzNm N L 11 = rlC N L
  | [], _ => rfl
  | x :: L, h => by
    have ih := rzN_all hN (L := L) (fun y hy => h y (List.mem_cons_of_mem _ hy))
    rw [rzN_cons, ih]
    show rlC N L + _ = (if 0 ≤ ndR (N x.1) then 1 else 0) + rlC N L
    rcases hN x.1 (h x (List.mem_cons_self ..)) with ⟨e1, -⟩ | ⟨r, s, hr, -, e3, -⟩
    · rw [if_neg (by omega), if_neg (by omega)]
      omega
    · rw [if_pos (by omega), if_pos (by omega)]
      omega
def tgV (I : zI) (v : Int32) (j : Nat) : Int32 := if j = 0 then I.1 64 7 else if j = 1 then I.1 64 8 else if j = 2 then I.1 64 11 else if j = 3 then v else if j = 4 then 0 else if j = 5 then I.1 64 12 else if j = 6 then I.1 64 13 else if j = 7 then I.1 64 9 else 0
theorem s_tellGrowth {v : Int32} {I : zI} {K : zI → Prop} (hK : ∀ J, eqQ (fun a _ => a = 23) I J → (∀ j, j < 10 → J.1 23 j = tgV I v j) → K J) : w_Desk_tellGrowth v I K := by
  unfold w_Desk_tellGrowth
  have r : ∀ {A : zI} {i : Nat} {w : Int32}, i < 10 → rs A (22 + 1) 10 (zi i) w = zu A 23 i w := fun hi => rs_in (by decide) hi
  refine (w_set (by decide)).mpr ((w_set (by decide)).mpr ((w_set (by decide)).mpr ((w_set (by decide)).mpr ((w_set (by decide)).mpr ((w_set (by decide)).mpr ((w_set (by decide)).mpr ((w_set (by decide)).mpr ((w_set (by decide)).mpr ((w_set (by decide)).mpr ?_)))))))))
  obtain ⟨I1, e1⟩ : ∃ A, A = rs I (22 + 1) 10 0 (I.1 64 7) := ⟨_, rfl⟩
  rw [← e1]
  obtain ⟨I2, e2⟩ : ∃ A, A = rs I1 (22 + 1) 10 1 (I1.1 64 8) := ⟨_, rfl⟩
  rw [← e2]
  obtain ⟨I3, e3⟩ : ∃ A, A = rs I2 (22 + 1) 10 2 (I2.1 64 11) := ⟨_, rfl⟩
  rw [← e3]
  obtain ⟨I4, e4⟩ : ∃ A, A = rs I3 (22 + 1) 10 3 v := ⟨_, rfl⟩
  rw [← e4]
  obtain ⟨I5, e5⟩ : ∃ A, A = rs I4 (22 + 1) 10 4 0 := ⟨_, rfl⟩
  rw [← e5]
  obtain ⟨I6, e6⟩ : ∃ A, A = rs I5 (22 + 1) 10 5 (I5.1 64 12) := ⟨_, rfl⟩
  rw [← e6]
  obtain ⟨I7, e7⟩ : ∃ A, A = rs I6 (22 + 1) 10 6 (I6.1 64 13) := ⟨_, rfl⟩
  rw [← e7]
  obtain ⟨I8, e8⟩ : ∃ A, A = rs I7 (22 + 1) 10 7 (I7.1 64 9) := ⟨_, rfl⟩
  rw [← e8]
  obtain ⟨I9, e9⟩ : ∃ A, A = rs I8 (22 + 1) 10 8 0 := ⟨_, rfl⟩
  rw [← e9]
  obtain ⟨I10, e10⟩ : ∃ A, A = rs I9 (22 + 1) 10 9 0 := ⟨_, rfl⟩
  rw [← e10]
  have f1 : I1 = zu I 23 0 (I.1 64 7) := e1.trans (r (i := 0) (by decide))
  have f2 : I2 = zu I1 23 1 (I1.1 64 8) := e2.trans (r (i := 1) (by decide))
  have f3 : I3 = zu I2 23 2 (I2.1 64 11) := e3.trans (r (i := 2) (by decide))
  have f4 : I4 = zu I3 23 3 v := e4.trans (r (i := 3) (by decide))
  have f5 : I5 = zu I4 23 4 0 := e5.trans (r (i := 4) (by decide))
  have f6 : I6 = zu I5 23 5 (I5.1 64 12) := e6.trans (r (i := 5) (by decide))
  have f7 : I7 = zu I6 23 6 (I6.1 64 13) := e7.trans (r (i := 6) (by decide))
  have f8 : I8 = zu I7 23 7 (I7.1 64 9) := e8.trans (r (i := 7) (by decide))
  have f9 : I9 = zu I8 23 8 0 := e9.trans (r (i := 8) (by decide))
  have f10 : I10 = zu I9 23 9 0 := e10.trans (r (i := 9) (by decide))
  have o : ∀ j, I1.1 64 j = I.1 64 j ∧ I2.1 64 j = I.1 64 j ∧ I5.1 64 j = I.1 64 j ∧ I6.1 64 j = I.1 64 j ∧ I7.1 64 j = I.1 64 j := fun j => by
    have o1 : I1.1 64 j = I.1 64 j := by rw [f1, zu_oo (by decide)]
    have o2 : I2.1 64 j = I.1 64 j := by rw [f2, zu_oo (by decide), o1]
    have o5 : I5.1 64 j = I.1 64 j := by rw [f5, zu_oo (by decide), f4, zu_oo (by decide), f3, zu_oo (by decide), o2]
    have o6 : I6.1 64 j = I.1 64 j := by rw [f6, zu_oo (by decide), o5]
    exact ⟨o1, o2, o5, o6, by rw [f7, zu_oo (by decide), o6]⟩
  refine hK I10 ?_ (fun j hj => ?_)
  · rw [f10, f9, f8, f7, f6, f5, f4, f3, f2, f1]
    have z : ∀ {A : zI} {i : Nat} {w : Int32}, eqQ (fun a _ => a = 23) I A → eqQ (fun a _ => a = 23) I (zu A 23 i w) := fun h => h.zu rfl
    exact z (z (z (z (z (z (z (z (z (z eqQ.rf)))))))))
  · have z : ∀ {A : zI} {k i : Nat} {w : Int32}, (zu A 23 k w).1 23 i = if i = k then w else A.1 23 i := fun {A k i w} => by
      rw [zu_at]
      by_cases u : i = k
      · rw [if_pos ⟨rfl, u⟩, if_pos u]
      · rw [if_neg (fun q => u q.2), if_neg u]
    have g1 : ∀ i, I1.1 23 i = if i = 0 then I.1 64 7 else I.1 23 i := fun i => by rw [f1, z]
    have g2 : ∀ i, I2.1 23 i = if i = 1 then I.1 64 8 else I1.1 23 i := fun i => by rw [f2, z, (o 8).1]
    have g3 : ∀ i, I3.1 23 i = if i = 2 then I.1 64 11 else I2.1 23 i := fun i => by rw [f3, z, (o 11).2.1]
    have g4 : ∀ i, I4.1 23 i = if i = 3 then v else I3.1 23 i := fun i => by rw [f4, z]
    have g5 : ∀ i, I5.1 23 i = if i = 4 then 0 else I4.1 23 i := fun i => by rw [f5, z]
    have g6 : ∀ i, I6.1 23 i = if i = 5 then I.1 64 12 else I5.1 23 i := fun i => by rw [f6, z, (o 12).2.2.1]
    have g7 : ∀ i, I7.1 23 i = if i = 6 then I.1 64 13 else I6.1 23 i := fun i => by rw [f7, z, (o 13).2.2.2.1]
    have g8 : ∀ i, I8.1 23 i = if i = 7 then I.1 64 9 else I7.1 23 i := fun i => by rw [f8, z, (o 9).2.2.2.2]
    have g9 : ∀ i, I9.1 23 i = if i = 8 then 0 else I8.1 23 i := fun i => by rw [f9, z]
    have g10 : ∀ i, I10.1 23 i = if i = 9 then 0 else I9.1 23 i := fun i => by rw [f10, z]
    rw [g10, g9, g8, g7, g6, g5, g4, g3, g2, g1]
    unfold tgV
    match j, hj with
    | 0, _ => rfl
    | 1, _ => rfl
    | 2, _ => rfl
    | 3, _ => rfl
    | 4, _ => rfl
    | 5, _ => rfl
    | 6, _ => rfl
    | 7, _ => rfl
    | 8, _ => rfl
    | 9, _ => rfl
    | n + 10, h => exact absurd h (by omega)
theorem s_tellGood {a1 : Int32} {N : Nat → Nd} {L : List Fl} {I : zI} {K : zI → Prop} (h : RmX I N L) (hK : ∀ J, eqQ (fun a _ => a = 23) I J → (∀ j, j < 10 → J.1 23 j = if j = 8 then I.1 69 14 else if j = 4 then a1 - (zi (rzNm N L 11) - I.1 64 10) else I.1 23 j) → K J) : w_Desk_tellGood a1 I K := by
  unfold w_Desk_tellGood
  refine s_ruledSize h ((w_set (by decide)).mpr ((w_set (by decide)).mpr ?_))
  rw [show rs I (22 + 1) 10 4 (a1 - (zi (rzNm N L 11) - I.1 64 10)) = zu I 23 4 (a1 - (zi (rzNm N L 11) - I.1 64 10)) from rs_in (i := 4) (by decide) (by decide)]
  rw [show rs (zu I 23 4 (a1 - (zi (rzNm N L 11) - I.1 64 10))) (22 + 1) 10 8 ((zu I 23 4 (a1 - (zi (rzNm N L 11) - I.1 64 10))).1 69 14) = zu (zu I 23 4 (a1 - (zi (rzNm N L 11) - I.1 64 10))) 23 8 ((zu I 23 4 (a1 - (zi (rzNm N L 11) - I.1 64 10))).1 69 14) from rs_in (i := 8) (by decide) (by decide)]
  rw [zu_oo (show (69 : Nat) ≠ 23 by decide)]
  have z : ∀ {A : zI} {i : Nat} {w : Int32}, eqQ (fun a _ => a = 23) I A → eqQ (fun a _ => a = 23) I (zu A 23 i w) := fun h => h.zu rfl
  refine hK _ (z (z eqQ.rf)) (fun j hj => ?_)
  rw [zu_at, zu_at]
  by_cases u : j = 8
  · rw [if_pos ⟨rfl, u⟩, if_pos u]
  · rw [if_neg (fun w => u w.2), if_neg u]
    by_cases w : j = 4
    · rw [if_pos ⟨rfl, w⟩, if_pos w]
    · rw [if_neg (fun z => w z.2), if_neg w]
/-! ===== what is recorded of the moments' TREES ===== -/
theorem flF_cg {m : Nat} {N N' : Nat → Nd} (h : NdOk m N) (e : ∀ c, c < m → N' c = N c) : ∀ (d c q p t dep : Nat), c < m → flF N' d c q p t dep = flF N d c q p t dep
  | 0, _, _, _, _, _, _ => rfl
  | d + 1, c, q, p, t, dep, hc => by
    have eE : ∀ c, c < m → NdE (N c) (N' c) := fun c hc => by rw [e c hc]; exact NdE.rf
    have es : ∀ c, c < m → sz N' c = sz N c := fun c hc => by
      unfold sz
      rw [po_cg h eE hc]
    show flH N' c q t dep :: flL (fun c' p' t' => flF N' d c' p p' t' (dep + 1)) N' (ndC (N' c)) (p + 1) t = flH N c q t dep :: flL (fun c' p' t' => flF N d c' p p' t' (dep + 1)) N (ndC (N c)) (p + 1) t
    have eh : flH N' c q t dep = flH N c q t dep := by
      unfold flH
      rw [e c hc, es c hc]
    have el : ∀ (l : List Nat) (p' t' : Nat), (∀ z ∈ l, z < m) → flL (fun c' p' t' => flF N' d c' p p' t' (dep + 1)) N' l p' t' = flL (fun c' p' t' => flF N d c' p p' t' (dep + 1)) N l p' t' := by
      intro l
      induction l with
      | nil =>
        intro p' t' _
        rfl
      | cons z l ih =>
        intro p' t' hl
        have hz := hl z (List.mem_cons_self ..)
        show flF N' d z p p' t' (dep + 1) ++ flL _ N' l (p' + sz N' z) (t' + ndT (N' z)) = flF N d z p p' t' (dep + 1) ++ flL _ N l (p' + sz N z) (t' + ndT (N z))
        rw [flF_cg h e d z p p' t' (dep + 1) hz, es z hz, e z hz, ih _ _ (fun x hx => hl x (List.mem_cons_of_mem _ hx))]
    rw [eh, e c hc, el _ _ _ (fun z hz => by have := h.lt hc hz; omega)]
theorem flR_cg {m R : Nat} {N N' : Nat → Nd} (h : NdOk m N) (e : ∀ c, c < m → N' c = N c) (hR : R < m) : flR N' R = flR N R := flF_cg h e _ _ _ _ _ _ hR
theorem namF_wn {t : Nat → Int32} {l : List (Nat × Nat × Nat)} {A Bh n' : Nat} {og : Nat → Nat} {e : Nat} : ∀ (d i m : Nat) (g : Nat → Nat) (N : Nat → Nd) (m' : Nat) (g' : Nat → Nat) (N' : Nat → Nd), namF t l A Bh n' og e d i m g N = (m', g', N') →
    ∀ k, m ≤ k → k < m' → ∃ i', i ≤ i' ∧ i' < i + d ∧ wasN A Bh l.length n' i' = none ∧ N' k = tkNd t (l.getD i' (10, 0, 0)) e
  | 0, i, m, g, N, m', g', N', h => by
    cases h
    intro k h1 h2
    omega
  | d + 1, i, m, g, N, m', g', N', h => by
    cases hw : wasN A Bh l.length n' i with
    | some j =>
      have h' : namF t l A Bh n' og e d (i + 1) m (fun k => if k = i then og j else g k) N = (m', g', N') := by
        rw [← h]
        show _ = (match wasN A Bh l.length n' i with
          | some j => namF t l A Bh n' og e d (i + 1) m (fun k => if k = i then og j else g k) N
          | none => namF t l A Bh n' og e d (i + 1) (m + 1) (fun k => if k = i then m else g k) (upN N m (tkNd t (l.getD i (10, 0, 0)) e)))
        rw [hw]
      intro k h1 h2
      obtain ⟨i', b1, b2, b3⟩ := namF_wn d (i + 1) m _ N m' g' N' h' k h1 h2
      exact ⟨i', by omega, by omega, b3⟩
    | none =>
      have h' : namF t l A Bh n' og e d (i + 1) (m + 1) (fun k => if k = i then m else g k) (upN N m (tkNd t (l.getD i (10, 0, 0)) e)) = (m', g', N') := by
        rw [← h]
        show _ = (match wasN A Bh l.length n' i with
          | some j => namF t l A Bh n' og e d (i + 1) m (fun k => if k = i then og j else g k) N
          | none => namF t l A Bh n' og e d (i + 1) (m + 1) (fun k => if k = i then m else g k) (upN N m (tkNd t (l.getD i (10, 0, 0)) e)))
        rw [hw]
      intro k h1 h2
      by_cases u : k = m
      · subst u
        obtain ⟨a1, a2, a3, -⟩ := namF_ok d (i + 1) (k + 1) _ _ m' g' N' h'
        exact ⟨i, Nat.le_refl _, by omega, hw, by rw [a3 k (by omega), upN_self]⟩
      · obtain ⟨i', b1, b2, b3⟩ := namF_wn d (i + 1) (m + 1) _ _ m' g' N' h' k (by omega) h2
        exact ⟨i', by omega, by omega, b3⟩
theorem rdl_cg {m c : Nat} {N N' : Nat → Nd} (h : NdOk m N) (e : ∀ c, c < m → N' c = N c) (hc : c < m) (h2 : ndR (N c) = 2) : rdl N' c = rdl N c := by
  have h2' : ndR (N' c) = 2 := by
    rw [e c hc]
    exact h2
  rw [rdl_g h2, rdl_g h2']
  unfold gRd
  rw [e c hc, if_pos h2, if_pos h2]
  obtain ⟨-, -, c3⟩ := chN_is (k := 2) (y := 2) h hc (show ndR (N c) = ((2 : Nat) : Int) from h2) rfl
  unfold poW
  rw [po_cg h (fun k hk => by rw [e k hk]; exact NdE.rf) (show chN (N c) 2 < m by omega)]
  refine congrArg List.sum (List.map_congr_left (fun z hz => ?_))
  have := po_le h (chN (N c) 2) (by omega) z hz
  unfold isR8
  rw [e z (by omega)]
theorem rcP_or {N : Nat → Nd} {F : List Fl} {e : Nat} {u0 : RcA} {c : Nat} : ∀ p, p ≤ F.length → (rcP N F e u0 p).1 c = u0.1 c ∨ ∃ l, (rcP N F e u0 p).1 c = some l ∧ l.length = rdl N c
  | 0, _ => Or.inl rfl
  | p + 1, hp => by
    have ih := rcP_or (N := N) (F := F) (e := e) (u0 := u0) (c := c) p (by omega)
    have hx : F[p]? = some (F[p]'(by omega)) := List.getElem?_eq_getElem (by omega)
    generalize F[p]'(by omega) = x at hx
    rw [rcP_s hx]
    by_cases u : ndR (N x.1) = 2 ∧ e ≠ 0
    · rw [if_pos u]
      by_cases w : c = x.1
      · refine Or.inr ⟨rdV N (ruE (ruAt N F p)) (chN (N x.1) 2), ?_, ?_⟩
        · rw [rcS_1, w, rcU_s]
        · rw [w]
          exact rdV_len
      · rw [rcS_1, rcU_o w]
        exact ih
    · rw [if_neg u]
      exact ih
theorem rcP_in {N : Nat → Nd} {F : List Fl} {e : Nat} {u0 : RcA} {x : Fl} (he : e ≠ 0) (h2 : ndR (N x.1) = 2) : ∀ p, p ≤ F.length → ∀ q, q < p → F[q]? = some x → ∃ l, (rcP N F e u0 p).1 x.1 = some l ∧ l.length = rdl N x.1
  | 0, _, q, hq, _ => absurd hq (Nat.not_lt_zero _)
  | p + 1, hp, q, hq, hx => by
    have hy : F[p]? = some (F[p]'(by omega)) := List.getElem?_eq_getElem (by omega)
    generalize F[p]'(by omega) = y at hy
    rw [rcP_s hy]
    by_cases u : q = p
    · rw [u, hy] at hx
      cases hx
      rw [if_pos ⟨h2, he⟩]
      exact ⟨rdV N (ruE (ruAt N F p)) (chN (N x.1) 2), by rw [rcS_1, rcU_s], rdV_len⟩
    · obtain ⟨l, l1, l2⟩ := rcP_in (u0 := u0) he h2 p (by omega) q (by omega) hx
      by_cases v : ndR (N y.1) = 2 ∧ e ≠ 0
      · rw [if_pos v]
        by_cases w : x.1 = y.1
        · refine ⟨rdV N (ruE (ruAt N F p)) (chN (N y.1) 2), ?_, ?_⟩
          · rw [rcS_1, w, rcU_s]
          · rw [w]
            exact rdV_len
        · refine ⟨l, ?_, l2⟩
          rw [rcS_1, rcU_o w]
          exact l1
      · rw [if_neg v]
        exact ⟨l, l1, l2⟩
theorem rcP_k {N : Nat → Nd} {F : List Fl} {e k n n' : Nat} {rc : RcZ} : ∀ p, p ≤ F.length → (rcP N F e (rc, k, n) p).1 = (rcP N F e (rc, k, n') p).1 ∧ (rcP N F e (rc, k, n) p).2.1 = (rcP N F e (rc, k, n') p).2.1
  | 0, _ => ⟨rfl, rfl⟩
  | p + 1, hp => by
    obtain ⟨i1, i2⟩ := rcP_k (N := N) (F := F) (e := e) (k := k) (n := n) (n' := n') (rc := rc) p (by omega)
    have hx : F[p]? = some (F[p]'(by omega)) := List.getElem?_eq_getElem (by omega)
    generalize F[p]'(by omega) = x at hx
    rw [rcP_s (u0 := (rc, k, n)) hx, rcP_s (u0 := (rc, k, n')) hx]
    by_cases u : ndR (N x.1) = 2 ∧ e ≠ 0
    · rw [if_pos u, if_pos u]
      unfold rcS
      dsimp only
      rw [i1, i2]
      exact ⟨rfl, rfl⟩
    · rw [if_neg u, if_neg u]
      exact ⟨i1, i2⟩
theorem rcP_0 {N : Nat → Nd} {F : List Fl} {u0 : RcA} : ∀ p, p ≤ F.length → rcP N F 0 u0 p = u0
  | 0, _ => rfl
  | p + 1, hp => by
    have ih := rcP_0 (N := N) (F := F) (u0 := u0) p (by omega)
    have hx : F[p]? = some (F[p]'(by omega)) := List.getElem?_eq_getElem (by omega)
    generalize F[p]'(by omega) = x at hx
    rw [rcP_s hx, if_neg (fun w => w.2 rfl)]
    exact ih
theorem rlC_f {N : Nat → Nd} : ∀ {L : List Fl}, rlC N L = (L.filter ((fun c => decide (0 ≤ ndR (N c))) ∘ fun x : Fl => x.1)).length
  | [] => rfl
  | x :: L => by
    show (if 0 ≤ ndR (N x.1) then 1 else 0) + rlC N L = _
    rw [List.filter_cons, rlC_f (L := L)]
    by_cases u : 0 ≤ ndR (N x.1)
    · rw [if_pos u, if_pos (show ((fun c => decide (0 ≤ ndR (N c))) ∘ fun x : Fl => x.1) x = true from decide_eq_true u), List.length_cons]
      omega
    · rw [if_neg u, if_neg (show ¬ ((fun c => decide (0 ≤ ndR (N c))) ∘ fun x : Fl => x.1) x = true from fun w => u (of_decide_eq_true w))]
      omega
theorem rlC_po {m R : Nat} {N : Nat → Nd} (h : NdOk m N) (hR : R < m) : rlC N (flR N R) = ((po N R).filter (fun c => decide (0 ≤ ndR (N c)))).length := by
  rw [← fl_map h R hR 0 0 0 1, List.filter_map, List.length_map]
  exact rlC_f
theorem TreeI.pnd {m R n : Nat} {N : Nat → Nd} {og : Nat → Nat} (h : NdOk m N) (hu : UqE m N) (t : TreeI m N R n og) : (po N R).Nodup := by
  have fg := t.flG h hu
  rw [← fl_map h R t.1 0 0 0 1]
  refine nd_at.mpr (fun i j a hij hi hj => ?_)
  rw [List.getElem?_map] at hi hj
  cases hx : (fl N R 0 0 0 1)[i]? with
  | none =>
    rw [hx] at hi
    cases hi
  | some x =>
    cases hy : (fl N R 0 0 0 1)[j]? with
    | none =>
      rw [hy] at hj
      cases hj
    | some y =>
      rw [hx] at hi
      rw [hy] at hj
      have := fg.2.1 i j x y hx hy ((Option.some.inj hi).trans (Option.some.inj hj).symm)
      omega
/-- in the new TREE: by which EDIT nodes are made, what is recorded of its statements, how many are broken -/
theorem reg_wr {x : Sg} {d : List Int32} (hv : Iv x) (hd : txOk d) (hg : (regY x d).1 + 1 = (lexL d).length ∧ topS (regY x d).2.2.2.1 = 1) :
    (∀ c, sgM x ≤ c → c < (regY x d).2.1 → ndB ((regY x d).2.2.1 c) = sgE x + 1) ∧
    (∀ z ∈ flR (regY x d).2.2.1 (regR x d), ndR ((regY x d).2.2.1 z.1) = 2 → ((sgLs x).2 z.1 = none → ndB ((regY x d).2.2.1 z.1) = sgE x + 1) ∧ ∀ l, (sgLs x).2 z.1 = some l → l.length = rdl (regY x d).2.2.1 z.1) ∧
    rlC (sgN x) (flR (sgN x) (moR (sgC x))) + ((regY x d).2.1 - (reg x d).1.1) = rlC (regY x d).2.2.1 (flR (regY x d).2.2.1 (regR x d)) + brkN x d := by
  obtain ⟨m1, g, N1, k, y, hreg, hn, hrun, ⟨-, gi, -, hm0, -⟩, q1, q2, q3, q4, q5, q6, q7, q8⟩ := reg_ok hv hd
  obtain ⟨-, hN, hu, hm, -, -, ⟨-, w1, w2, w3⟩, hC, -⟩ := hv
  obtain ⟨c1, c2, c3, c4, c5⟩ := id hC
  have hx := lex_lxo hd
  have hx' := lex_lxo c2
  obtain ⟨ge, -, gj, hog, hnew, -, -, -, -⟩ := naming_ok hN hu c4 c5 hx hx' hn
  have hY : regY x d = y := by
    unfold regY
    rw [hreg]
  have hM1 : (reg x d).1.1 = m1 := by rw [hreg]
  have hBr : brkN x d = ((flR (sgN x) (moR (sgC x))).filter (fun z => decide (0 ≤ ndR (sgN x z.1) ∧ z.1 ∉ po y.2.2.1 (regR x d)))).length := by
    unfold brkN
    rw [hY]
  rw [hY] at hg
  obtain ⟨b, hst, tr⟩ := q8 hg.1 hg.2
  have hI := gRun_inv (e := sgE x + 1) ge (P := fun z => NwI N1 m1 (sgE x + 1) z ∧ GJ (sgM x) (sgN x) g z.1 z.2.1 z.2.2.1 z.2.2.2.1 ∧ BkI (sgN x) (moR (sgC x)) m1 z) (fun a b k hi hp he => ⟨hp.1.nx he, hp.2.1.nx hN c4 hog hnew hm0 ge hi he, BkI.nx hN c4.1 ge hi hm0 (fun c hc => hp.2.1.2.2.2.2.2 c hc) hp.2.2 he⟩) 2000 0 (0, m1, N1, [(0, 0)], 0) gi ⟨⟨Nat.le_refl _, fun c _ => NdE.rf, fun c h1 h2 => absurd h2 (Nat.not_lt.mpr h1)⟩, gj, fun c h1 h2 => absurd h2 (Nat.not_lt.mpr h1), fun p hp => by
    have hp : p ∈ ([] : List (Nat × Nat)) := hp
    cases hp⟩
  rw [hrun] at hI
  obtain ⟨⟨i1, i2, i3⟩, -, i4⟩ := hI
  dsimp only at i1 i2 i3 i4
  have nw : ∀ c, sgM x ≤ c → c < y.2.1 → ndB (y.2.2.1 c) = sgE x + 1 := fun c h1 h2 => by
    by_cases u : c < m1
    · obtain ⟨i', b1, b2, b3, b4⟩ := namF_wn _ _ _ _ _ _ _ _ hn c h1 u
      have w := i2 c u
      rw [b4] at w
      exact w.2.2.2.1
    · exact (i3 c (by omega) h2).1
  rw [hY, hM1, hBr]
  refine ⟨nw, fun z hz h2 => ?_, ?_⟩
  · obtain ⟨p, hp⟩ := List.mem_iff_getElem?.mp hz
    have hzm := (fl_szin q4 tr.1 hp).1
    have hzp := fl_poZ q4 tr.1 hp
    by_cases u : z.1 < sgM x
    · obtain ⟨-, b2⟩ := id i4
      have hz0 := b2 (regR x d, 1) (by
        rw [hst]
        exact List.mem_singleton.mpr rfl) z.1 hzp (by omega) (by omega)
      rw [← fl_map hN (moR (sgC x)) c4.1 0 0 0 1] at hz0
      obtain ⟨z', hz', e⟩ := List.mem_map.mp hz0
      have e : z'.1 = z.1 := e
      have h20 : ndR (sgN x z.1) = 2 := by
        rw [← q1 z.1 u]
        exact h2
      obtain ⟨l, l1, l2⟩ := w3 (sgC x) (Or.inl rfl) z' hz' (by rw [e]; exact h20)
      rw [e] at l1 l2
      refine ⟨fun w => ?_, fun l' hl' => ?_⟩
      · rw [l1] at w
        cases w
      · rw [l1] at hl'
        cases hl'
        rw [l2]
        exact (rdl_cg hN q1 u h20).symm
    · refine ⟨fun _ => nw z.1 (by omega) hzm, fun l hl => ?_⟩
      rw [w1 z.1 (by omega)] at hl
      cases hl
  · have hbk := brk_cnt hN c4.1 hm0 i1 q4 tr.1 q1 hst i4 (fun c h1 h2 => (i3 c h1 h2).2) (c4.pnd hN hu) (tr.pnd q4 q5)
    rw [← rlC_po hN c4.1, ← rlC_po q4 tr.1, ← fl_map hN (moR (sgC x)) c4.1 0 0 0 1, List.filter_map, List.length_map] at hbk
    exact hbk
theorem chg_wr {x : Sg} {d tp : List Int32} (hv : Iv x) (hd : txOk d) : WrZ (chg x d tp) := by
  have hw := reg_wr hv hd
  obtain ⟨m1, g, N1, k, y, hreg, -, -, ⟨-, -, -, hm0, -⟩, q1, q2, q3, q4, q5, q6, q7, q8⟩ := reg_ok hv hd
  obtain ⟨-, hN, hu, hm, -, -, ⟨-, w1, w2, w3⟩, hC, hA, -⟩ := id hv
  have hY : regY x d = y := by
    unfold regY
    rw [hreg]
  have eE : sgE (chg x d tp) = sgE x + 1 := rfl
  have eA : sgA (chg x d tp) = (sgC x :: sgA x).take 20 := rfl
  have eZ : sgZ (chg x d tp) = [] := rfl
  have eC : sgC (chg x d tp) = newC x d := rfl
  have old : ∀ yy, yy ∈ (sgC x :: sgA x).take 20 → (yy = sgC x ∨ yy ∈ sgA x ∨ yy ∈ sgZ x) ∧ MoOk (sgM x) (sgN x) yy := fun yy h => by
    rcases List.mem_cons.mp (List.mem_of_mem_take h) with rfl | h
    · exact ⟨Or.inl rfl, hC⟩
    · exact ⟨Or.inr (Or.inl h), hA yy h⟩
  by_cases hg : y.1 + 1 = (lexL d).length ∧ topS y.2.2.2.1 = 1
  · obtain ⟨h1, h2, -⟩ := hw (by rw [hY]; exact hg)
    rw [hY] at h1 h2
    obtain ⟨b, hst, tr⟩ := q8 hg.1 hg.2
    have hcm : (chg x d tp).2.1 = (y.2.1, y.2.2.1) := by
      unfold chg
      rw [hY, if_pos hg]
    have eN : sgN (chg x d tp) = y.2.2.1 := congrArg Prod.snd hcm
    have eM : sgM (chg x d tp) = y.2.1 := congrArg Prod.fst hcm
    have eL : (sgLs (chg x d tp)).2 = (rcR x d).1 := by
      show (if (regY x d).1 + 1 = (lexL d).length ∧ topS (regY x d).2.2.2.1 = 1 then (laG x d, (rcR x d).1) else (laW x d, (sgLs x).2)).2 = _
      rw [hY, if_pos hg]
    have eR : rcR x d = rcP y.2.2.1 (flR y.2.2.1 (regR x d)) (sgE x + 1) ((sgLs x).2, 0, 0) (flR y.2.2.1 (regR x d)).length := by
      unfold rcR
      rw [hY]
    have eRR : moR (newC x d) = regR x d := by
      unfold newC
      rw [hY, if_pos hg]
      rfl
    unfold WrZ
    rw [eN, eM, eL, eE, eA, eZ, eC, eR]
    refine ⟨fun c hc => ?_, fun c hc => ?_, fun yy hyy z hz hz2 => ?_⟩
    · rw [rcP_o _ (Nat.le_refl _) (fun q z _ hz w => by
        have := (fl_szin q4 tr.1 hz).1
        omega)]
      exact w1 c (by omega)
    · by_cases u : c < sgM x
      · rw [q1 c u]
        have := w2 c u
        omega
      · rw [h1 c (by omega) hc]
        exact Nat.le_refl _
    · rcases hyy with rfl | hyy | hyy
      · rw [eRR] at hz
        obtain ⟨p, hp⟩ := List.mem_iff_getElem?.mp hz
        exact rcP_in (Nat.succ_ne_zero _) hz2 _ (Nat.le_refl _) p (List.getElem?_eq_some_iff.mp hp).1 hp
      · obtain ⟨o1, o2⟩ := old yy hyy
        have hR := o2.2.2.2.1.1
        rw [flR_cg hN q1 hR] at hz
        obtain ⟨p, hp⟩ := List.mem_iff_getElem?.mp hz
        have zm := (fl_szin hN hR hp).1
        rw [q1 z.1 zm] at hz2
        obtain ⟨l, l1, l2⟩ := w3 yy o1 z hz hz2
        rcases rcP_or (N := y.2.2.1) (F := flR y.2.2.1 (regR x d)) (e := sgE x + 1) (u0 := ((sgLs x).2, 0, 0)) (c := z.1) _ (Nat.le_refl _) with e1 | ⟨l', e1, e2⟩
        · exact ⟨l, by rw [e1]; exact l1, by rw [l2]; exact (rdl_cg hN q1 zm hz2).symm⟩
        · exact ⟨l', e1, e2⟩
      · cases hyy
  · have hcm : (chg x d tp).2.1 = (sgM x, sgN x) := by
      unfold chg
      rw [hY, if_neg hg]
    have eN : sgN (chg x d tp) = sgN x := congrArg Prod.snd hcm
    have eM : sgM (chg x d tp) = sgM x := congrArg Prod.fst hcm
    have eL : (sgLs (chg x d tp)).2 = (sgLs x).2 := by
      show (if (regY x d).1 + 1 = (lexL d).length ∧ topS (regY x d).2.2.2.1 = 1 then (laG x d, (rcR x d).1) else (laW x d, (sgLs x).2)).2 = _
      rw [hY, if_neg hg]
    have eRR : moR (newC x d) = moR (sgC x) := by
      unfold newC
      rw [hY, if_neg hg]
      rfl
    unfold WrZ
    rw [eN, eM, eL, eE, eA, eZ, eC]
    refine ⟨w1, fun c hc => ?_, fun yy hyy z hz hz2 => ?_⟩
    · have := w2 c hc
      omega
    · rcases hyy with rfl | hyy | hyy
      · rw [eRR] at hz
        exact w3 (sgC x) (Or.inl rfl) z hz hz2
      · exact w3 yy (old yy hyy).1 z hz hz2
      · cases hyy
/-! ===== a change keeps what holds ===== -/
theorem chg_ok {x : Sg} {d tp : List Int32} (hv : Iv x) (hd : txOk d) (hr : ¬ refu x d) (htp : tp.length ≤ 200 ∧ ∀ b ∈ tp, byt b) (he : sgE x < 512) : Iv (chg x d tp) := by
  have hwr := chg_wr (tp := tp) hv hd
  obtain ⟨m1, g, N1, k, y, hreg, hn, hrun, ⟨ge, gi, hog, hm0, hm1⟩, q1, q2, q3, q4, q5, q6, q7, q8⟩ := reg_ok hv hd
  obtain ⟨-, hN, hu, hm, hT, ⟨hP1, hP2⟩, -, hC, hA, hZ, hAZ⟩ := hv
  have hY : regY x d = y := by
    unfold regY
    rw [hreg]
  unfold refu at hr
  have hA2 : ∀ z ∈ (sgC x :: sgA x).take 20, MoOk (sgM x) (sgN x) z := fun z hz => by
    rcases List.mem_cons.mp (List.mem_of_mem_take hz) with rfl | hz
    · exact hC
    · exact hA z hz
  have hlen : ((sgC x :: sgA x).take 20).length + ([] : List Mo).length ≤ 20 := by
    rw [List.length_take]
    show min 20 _ + 0 ≤ 20
    omega
  unfold Iv
  obtain ⟨W, hW⟩ : ∃ W : Prop, WrZ (chg x d tp) = W := ⟨_, rfl⟩
  rw [hW] at hwr ⊢
  unfold chg newC
  rw [hY]
  by_cases hg : y.1 + 1 = (lexL d).length ∧ topS y.2.2.2.1 = 1
  · rw [if_pos hg, if_pos hg, if_pos hg, if_pos hg]
    obtain ⟨b, e1, e2⟩ := q8 hg.1 hg.2
    obtain ⟨r1, r2⟩ := runs_ok q4 q5 e2
    obtain ⟨l1, l2, l3⟩ := layAllR_ok (pl := sgP x) (rs := runsOf y.2.2.1 (regR x d)) (fun r hr => by have := r1 r hr; omega) hP1
    refine ⟨htp, q4, q5, (show y.2.1 ≤ 3250 by omega), q7, ⟨l1, (show (layAllR (runsOf y.2.2.1 (regR x d)) (sgP x)).length ≤ 3999 by omega)⟩, ⟨(show sgE x + 1 ≤ 512 by omega), hwr⟩, ⟨hd, hd, fun _ => rfl, ?_, ?_⟩, fun z hz => (hA2 z hz).cg hN (by show sgM x ≤ y.2.1; omega) q1, fun z hz => (by cases hz), hlen⟩
    · show TreeI y.2.1 y.2.2.1 (regR x d) (lexL d).length (reg x d).1.2.1
      rw [hreg]
      exact e2
    · show TkI y.2.2.1 (txF d) (lexL d) (reg x d).1.2.1
      rw [hreg]
      exact q6
  · rw [if_neg hg, if_neg hg, if_neg hg, if_neg hg]
    exact ⟨htp, hN, hu, hm, hT, ⟨hP1, hP2⟩, ⟨(show sgE x + 1 ≤ 512 by omega), hwr⟩, ⟨hd, hC.2.1, (fun u => by cases u), hC.2.2.2.1, hC.2.2.2.2⟩, hA2, fun z hz => (by cases hz), hlen⟩
