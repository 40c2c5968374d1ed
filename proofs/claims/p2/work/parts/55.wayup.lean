/-! ===== ways up from a token: which sound node is taken ===== -/
/-- a node's parent's place, by the flat list -/
def upP (F : List Fl) (c : Nat) : Option Nat := (F.find? (fun x => x.1 == c)).map (fun x => x.2.1)
/-- what a flat tree is: over m nodes and n' TOKENS (END is one of them) -/
def FlG (m : Nat) (F : List Fl) (N : Nat → Nd) (n' : Nat) : Prop :=
  FlOk m F ∧ (∀ (p q : Nat) (x y : Fl), F[p]? = some x → F[q]? = some y → x.1 = y.1 → p = q) ∧
  ∀ (p : Nat) (x : Fl), F[p]? = some x → (x.2.2.1 = -2 ∨ ∃ f : Nat, x.2.2.1 = f ∧ 1 ≤ ndT (N x.1) ∧ f + ndT (N x.1) < n') ∧ (∃ k : Nat, k < 21 ∧ ndS (N x.1) = k) ∧
    (1 ≤ p → ∃ (y : Fl) (r : Nat), F[x.2.1]? = some y ∧ r < 11 ∧ ndR (N y.1) = r ∧ (0 ≤ x.2.2.1 → 0 ≤ y.2.2.1))
theorem upP_at {F : List Fl} {p : Nat} {x : Fl} (hu : ∀ (p q : Nat) (x y : Fl), F[p]? = some x → F[q]? = some y → x.1 = y.1 → p = q) (hp : F[p]? = some x) : upP F x.1 = some x.2.1 := by
  have h : F.find? (fun y => y.1 == x.1) = some x := by
    obtain ⟨hl, hx⟩ := List.getElem?_eq_some_iff.mp hp
    refine List.find?_eq_some_iff_getElem.mpr ⟨beq_self_eq_true _, p, hl, hx, fun j hj => ?_⟩
    have hj2 : F[j]? = some (F[j]'(by omega)) := List.getElem?_eq_getElem (by omega)
    have ne : (F[j]'(by omega)).1 ≠ x.1 := fun e => by
      have := hu j p _ _ hj2 hp e
      omega
    rw [Bool.not_eq_true', beq_eq_false_iff_ne]
    exact ne
  unfold upP
  rw [h]
  rfl
theorem upP_no {F : List Fl} {c : Nat} (h : ∀ (p : Nat) (x : Fl), F[p]? = some x → x.1 ≠ c) : upP F c = none := by
  unfold upP
  have : F.find? (fun x => x.1 == c) = none := by
    refine List.find?_eq_none.mpr (fun x hx => ?_)
    obtain ⟨p, hp⟩ := List.mem_iff_getElem?.mp hx
    rw [beq_iff_eq]
    exact h p x hp
  rw [this]
  rfl
/-- the way up from the place p, d steps at most, from what was best -/
def bsT (F : List Fl) (N : Nat → Nd) (A B n' n j s : Nat) : Nat → Nat → Option Nat → Option Nat
  | 0, _, b => b
  | d + 1, p, b => match F[p]? with
    | none => b
    | some x => if x.2.2.1 = (j : Int) then
        (if p = 0 then (if ndS (N x.1) = (s : Int) ∧ sndP A B n' n j (ndT (N x.1)) then some x.1 else b)
        else bsT F N A B n' n j s d x.2.1 (if ndS (N x.1) = (s : Int) ∧ sndP A B n' n j (ndT (N x.1)) then some x.1 else b)) else b
theorem bsT_at {F : List Fl} {N : Nat → Nd} {A B n' n j s d p : Nat} {b : Option Nat} {x : Fl} (hp : F[p]? = some x) : bsT F N A B n' n j s (d + 1) p b = if x.2.2.1 = (j : Int) then
        (if p = 0 then (if ndS (N x.1) = (s : Int) ∧ sndP A B n' n j (ndT (N x.1)) then some x.1 else b)
        else bsT F N A B n' n j s d x.2.1 (if ndS (N x.1) = (s : Int) ∧ sndP A B n' n j (ndT (N x.1)) then some x.1 else b)) else b := by
  show (match F[p]? with
    | none => b
    | some x => _) = _
  rw [hp]
/-- which node is taken ahead of the i-th token (whose node is c), in the state s -/
def bestOf (F : List Fl) (N : Nat → Nd) (A B n n' i s c : Nat) : Option Nat := match wasN A B n n' i with
  | none => none
  | some j => match upP F c with
    | none => none
    | some q => bsT F N A B n' n j s 400 q none
/-- a place on a way up -/
def FlR (F : List Fl) (N : Nat → Nd) (p : Nat) : Prop := ∃ (y : Fl) (r : Nat), F[p]? = some y ∧ r < 11 ∧ ndR (N y.1) = r ∧ 0 ≤ y.2.2.1
theorem FlG.up {m n' p : Nat} {F : List Fl} {N : Nat → Nd} {x : Fl} (h : FlG m F N n') (hp : F[p]? = some x) (h1 : 1 ≤ p) (h0 : 0 ≤ x.2.2.1) : FlR F N x.2.1 := by
  obtain ⟨y, r, e1, e2, e3, e4⟩ := (h.2.2 p x hp).2.2 h1
  exact ⟨y, r, e1, e2, e3, e4 h0⟩
/-- what is taken -/
def TkOk (F : List Fl) (N : Nat → Nd) (A B n' n j s b : Nat) : Prop := ∃ (p : Nat) (x : Fl) (r : Nat), F[p]? = some x ∧ x.1 = b ∧ x.2.2.1 = (j : Int) ∧ r < 11 ∧ ndR (N b) = r ∧ ndS (N b) = (s : Int) ∧ sndP A B n' n j (ndT (N b))
theorem bsT_ok {m : Nat} {F : List Fl} {N : Nat → Nd} {A B n' n j s b : Nat} (h : FlG m F N n') : ∀ (d q : Nat) (b0 : Option Nat), FlR F N q → (∀ b1, b0 = some b1 → TkOk F N A B n' n j s b1) → bsT F N A B n' n j s d q b0 = some b → TkOk F N A B n' n j s b
  | 0, q, b0, _, h0, e => h0 b e
  | d + 1, q, b0, hq, h0, e => by
    obtain ⟨y, r, e1, e2, e3, e4⟩ := hq
    rw [bsT_at e1] at e
    by_cases c1 : y.2.2.1 = (j : Int)
    · rw [if_pos c1] at e
      have hb : ∀ b1, (if ndS (N y.1) = (s : Int) ∧ sndP A B n' n j (ndT (N y.1)) then some y.1 else b0) = some b1 → TkOk F N A B n' n j s b1 := by
        intro b1 hb1
        by_cases c2 : ndS (N y.1) = (s : Int) ∧ sndP A B n' n j (ndT (N y.1))
        · rw [if_pos c2] at hb1
          cases hb1
          exact ⟨q, y, r, e1, rfl, c1, e2, e3, c2.1, c2.2⟩
        · rw [if_neg c2] at hb1
          exact h0 b1 hb1
      by_cases c3 : q = 0
      · rw [if_pos c3] at e
        exact hb b e
      · rw [if_neg c3] at e
        exact bsT_ok h d _ _ (h.up e1 (by omega) e4) hb e
    · rw [if_neg c1] at e
      exact h0 b e
theorem bestOf_ok {m : Nat} {F : List Fl} {N : Nat → Nd} {A B n' n i s c b : Nat} (h : FlG m F N n') (hcw : ∀ j, wasN A B n n' i = some j → ∀ (p : Nat) (x : Fl), F[p]? = some x → x.1 = c → 1 ≤ p ∧ 0 ≤ x.2.2.1) (e : bestOf F N A B n n' i s c = some b) : ∃ j, wasN A B n n' i = some j ∧ TkOk F N A B n' n j s b := by
  unfold bestOf at e
  cases hw : wasN A B n n' i with
  | none => rw [hw] at e; cases e
  | some j =>
    rw [hw] at e
    refine ⟨j, rfl, ?_⟩
    cases hq : upP F c with
    | none =>
      rw [hq] at e
      cases e
    | some q =>
      rw [hq] at e
      have hq' := hq
      unfold upP at hq'
      cases hf : F.find? (fun x => x.1 == c) with
      | none => rw [hf] at hq'; cases hq'
      | some x =>
        rw [hf] at hq'
        cases hq'
        have hx1 : x.1 = c := by have := List.find?_some hf; exact beq_iff_eq.mp this
        obtain ⟨p, hp⟩ := List.mem_iff_getElem?.mp (List.mem_of_find?_eq_some hf)
        obtain ⟨u1, u2⟩ := hcw j hw p x hp hx1
        exact bsT_ok h 400 _ none (h.up hp u1 u2) (fun b1 hb1 => by cases hb1) e
/-- a node that is not in the TREE: the class -/
theorem s_parentOfN {m c : Nat} {F : List Fl} {N : Nat → Nd} {I : zI} {K : Int32 → Prop} (rep : RepNX I m N) (hm : m ≤ 3400) (hF : FlX I F) (ok : FlOk m F) (hc : c < m) (hno : ∀ (p : Nat) (x : Fl), F[p]? = some x → x.1 ≠ c) (hpl : ∃ p, p < 400 ∧ I.1 47 c = zi p) (hK : K (-2)) : w_TreeView_parentOf (zi c) I K := by
  unfold w_TreeView_parentOf w_TreeView_holds
  have hl := ok.1
  obtain ⟨p, p1, p2⟩ := hpl
  refine s_has rep hm hc ?_
  rw [if_neg (by decide)]
  refine (w_get (by decide)).mpr ?_
  rw [rg_in (by decide) (show c < 3400 by omega), show I.1 (46 + 1) c = zi p from p2, hF.1]
  by_cases u : zi F.length ≤ zi p
  · rw [if_pos u]
    show if (0 : Int32) = 0 then K (-2) else _
    rw [if_pos rfl]
    exact hK
  · rw [if_neg u]
    have hp : p < F.length := Nat.lt_of_not_le (fun v => u ((zi_le (by omega) (by omega)).mpr v))
    have hx : F[p]? = some F[p] := List.getElem?_eq_getElem hp
    refine (w_get (by decide)).mpr ?_
    rw [rg_in (by decide) (show p < 400 by omega), show I.1 (44 + 1) p = zi F[p].1 from (hF.2 p _ hx).1, if_neg (fun v => hno p _ hx ((zi_eq (by have := (ok.2 p _ hx).1; omega) (by omega)).mp v))]
    show if (0 : Int32) = 0 then K (-2) else _
    rw [if_pos rfl]
    exact hK
def oI (z : Int32) : Option Nat → Int32
  | some b => zi b
  | none => z
def Qps (l a j : Nat) : Prop := (a = 64 ∧ (j = 4 ∨ j = 11)) ∨ ((a = 66 ∨ a = 68) ∧ j = l)
theorem s_putSound {m s n' n A B R i c : Nat} {p0 : Nat × Nat} {st : List (Nat × Nat)} {F : List Fl} {N : Nat → Nd} {I : zI} {K : Int32 → zI → Prop} (rep : RepNX I m N) (hm : m ≤ 3400) (hcm : c < m) (hF : FlX I F) (fg : FlG m F N n') (hR : I.1 43 13 = zi R) (hR0 : ∃ x : Fl, F[0]? = some x ∧ x.1 = R) (hpl : ∃ p, p < 400 ∧ I.1 47 c = zi p)
    (hS : StX I st) (ok : StOk m st) (hl : st.length < 300) (htop : st[st.length - 1]? = some p0) (hs : p0.2 = s)
    (h5 : I.1 64 5 = zi n') (h6 : I.1 64 6 = zi n) (h7 : I.1 64 7 = zi A) (h8 : I.1 64 8 = zi B) (hA : A ≤ 100) (hB : B ≤ n) (hB' : B ≤ n') (hAn : A ≤ n') (hn : n ≤ 100) (hn' : n' ≤ 100) (hi : i < n)
    (hcw : ∀ j, wasN A B n n' i = some j → ∀ (p : Nat) (x : Fl), F[p]? = some x → x.1 = c → 1 ≤ p ∧ 0 ≤ x.2.2.1)
    (hK0 : bestOf F N A B n n' i s c = none → K 0 I)
    (hK : ∀ b J, bestOf F N A B n n' i s c = some b → eqQ (Qps st.length) I J → StX J (st ++ [(b, ldN s (ndM (N b)))]) → J.1 64 11 = I.1 64 11 + 1 → K (zi (ndT (N b))) J) : w_Grower_putSound (zi c) (zi i) I K := by
  unfold w_Grower_putSound
  have hs21 : s < 21 := hs ▸ (ok _ p0 htop).1
  obtain ⟨st0, st1, st2⟩ := id hS
  have gtop : ∀ (H : Int32 → Prop), H (zi s) → w_Row_get 65 300 (I.1 64 4) I H := fun H hH => by
    rw [st1]
    refine (w_get (by decide)).mpr ?_
    rw [rg_in (by decide) (show st.length - 1 < 300 by omega), show I.1 (65 + 1) (st.length - 1) = zi s from hs ▸ (st2 _ p0 htop).1]
    exact hH
  have fin : ∀ b : Option Nat, bestOf F N A B n n' i s c = b → (if 0 ≤ oI (-2) b then (w_Row_get 65 300 (I.1 64 4) I (fun r_6 => w_Row_get 27 3400 (oI (-2) b) I (fun r_7 => w_Desk_leadsTo r_6 r_7 I (fun r_8 => w_Grower_put (oI (-2) b) r_8 I (fun I_9 => ∀ I_10, I_10 = (zu I_9 64 11 ((I_9.1 64 11) + 1)) → w_Row_get 31 3400 (oI (-2) b) I_10 (fun r_11 => K r_11 I_10)))))) else K 0 I) := by
    intro b hb
    cases b with
    | none =>
      rw [if_neg (by show ¬ (0 : Int32) ≤ -2; decide)]
      exact hK0 hb
    | some b =>
      obtain ⟨j, hj, q, x, r, t1, t2, t3, t4, t5, t6, t7⟩ := bestOf_ok fg hcw hb
      have hbm : b < m := t2 ▸ (fg.1.2 q x t1).1
      rw [if_pos (show (0 : Int32) ≤ oI (-2) (some b) from zi_ge (by omega))]
      have nd := rep.2 b hbm
      have hM : ndM (N b) = syN r := by
        unfold ndM
        rw [t5, if_neg (by omega)]
        rfl
      have hM5 : syN r < 5 := (sy_fin r t4).2
      have h17 : ndM (N b) < 17 := by omega
      refine gtop _ ((w_get (by decide)).mpr ?_)
      show w_Desk_leadsTo (zi s) (rg 3400 (I.1 (27 + 1)) (zi b)) I _
      rw [rg_in (by decide) (show b < 3400 by omega), show I.1 (27 + 1) b = zi (ndM (N b)) from nd.2.1]
      refine s_leadsTo hs21 h17 ?_
      refine s_put hS hl (fun J q2 S2 I10 e10 => (w_get (by decide)).mpr ?_)
      have o10 : ∀ a j, ¬ (a = 64 ∧ j = 11) → I10.1 a j = J.1 a j := fun a j u => by rw [e10, zu_at, if_neg u]
      show K (rg 3400 (I10.1 (31 + 1)) (zi b)) I10
      rw [rg_in (by decide) (show b < 3400 by omega), show I10.1 (31 + 1) b = zi (ndT (N b)) by rw [o10 _ _ (by omega), q2.1 _ _ (by omega)]; exact nd.2.2.2.1]
      refine hK b I10 hb ?_ ⟨S2.1, ?_, fun j p hj => ?_⟩ ?_
      · rw [e10]
        exact (q2.mono (fun a j h => by unfold Qps; omega)).zu (Or.inl ⟨rfl, Or.inr rfl⟩)
      · rw [o10 _ _ (by omega)]
        exact S2.2.1
      · rw [o10 _ _ (by omega), o10 _ _ (by omega)]
        exact S2.2.2 j p hj
      · rw [e10, zu_self, q2.1 64 11 (by omega)]
  refine s_oldPlace h5 h6 h7 h8 hA hB hB' hn hn' hi ?_
  have hbest : bestOf F N A B n n' i s c = bestOf F N A B n n' i s c := rfl
  conv at hbest => rhs; unfold bestOf
  cases hw : wasN A B n n' i with
  | none =>
    rw [hw] at hbest
    intro P27 h27
    show if (0 : Int32) ≤ -2 then _ else _
    rw [if_neg (by decide)]
    refine h27 _ ?_
    intro P32 h32
    refine h32 _ _ _ ?_
    intro P125 h125
    rw [if_neg (by decide), if_pos (by decide)]
    exact h125 (fin none hbest)
  | some j =>
    rw [hw] at hbest
    have hjn : j < n' := by
      unfold wasN at hw
      by_cases c1 : i < A
      · rw [if_pos c1] at hw
        cases hw
        omega
      · rw [if_neg c1] at hw
        by_cases c2 : n - B ≤ i
        · rw [if_pos c2] at hw
          cases hw
          omega
        · rw [if_neg c2] at hw
          cases hw
    intro P27 h27
    show if (0 : Int32) ≤ zi j then _ else _
    rw [if_pos (zi_ge (by omega))]
    by_cases hin : ∃ (p : Nat) (x : Fl), F[p]? = some x ∧ x.1 = c
    · obtain ⟨p, x, hp, hx⟩ := hin
      obtain ⟨u1, u2⟩ := hcw j hw p x hp hx
      have hq := upP_at fg.2.1 hp
      rw [hx] at hq
      rw [hq] at hbest
      obtain ⟨z0, hz0, hz1⟩ := hR0
      have hRm : R < m := hz1 ▸ (fg.1.2 0 z0 hz0).1
      have hneR : ∀ (p : Nat) (x : Fl), F[p]? = some x → 1 ≤ p → x.1 ≠ R := fun p x hp h1 e => by
        have := fg.2.1 p 0 x z0 hp hz0 (e.trans hz1.symm)
        omega
      have hF400 := fg.1.1
      rw [← hx]
      obtain ⟨y0, r0, y1, y2, y3, y4⟩ := fg.up hp u1 u2
      refine s_parentOf rep hm hF fg.1 hp u1 hR hRm (hneR p x hp u1) y1 (h27 _ ?_)
      intro P32 h32
      have main : ∀ (d q up : Nat) (b : Option Nat) (y : Fl), up + d = 400 → q < d → F[q]? = some y → FlR F N q → bestOf F N A B n n' i s c = bsT F N A B n' n j s d q b → P32 (oI (-2) b) (zi y.1) (zi up) := by
        intro d
        induction d with
        | zero =>
          intro q up b y h1 h2
          omega
        | succ d ih =>
          intro q up b y h1 h2 hy hr e
          refine h32 _ _ _ ?_
          intro P125 h125
          rw [bsT_at hy] at e
          have hym := (fg.1.2 q y hy).1
          rw [if_neg (show ¬ (400 : Int32) ≤ zi up from fun u => by have := (zi_le (a := 400) (by decide) (by omega)).mp u; omega), if_neg (zi_pos (by omega))]
          refine s_firstOf rep hm hF fg.1 hy ?_
          obtain ⟨y', r, e1, e2, e3, e4⟩ := hr
          rw [hy] at e1
          cases e1
          have nd := rep.2 y.1 hym
          rcases (fg.2.2 q y hy).1 with hf | ⟨f, hf, hf1, hf2⟩
          · omega
          rw [hf] at e ⊢
          rw [zi_int f]
          by_cases c1 : f = j
          · rw [if_pos (show zi f = zi j by rw [c1])]
            rw [if_pos (by rw [c1])] at e
            refine (w_get (by decide)).mpr ?_
            rw [rg_in (by decide) (show y.1 < 3400 by omega), show I.1 (29 + 1) y.1 = Int32.ofInt (ndS (N y.1)) from nd.2.2.1]
            refine gtop _ ?_
            intro P108 h108
            have nxt : ∀ b' : Option Nat, bestOf F N A B n n' i s c = (if q = 0 then b' else bsT F N A B n' n j s d y.2.1 b') → P108 (oI (-2) b') := by
              intro b' e'
              refine h108 _ ?_
              by_cases hq0 : q = 0
              · subst hq0
                rw [if_pos rfl] at e'
                have hyR : y.1 = R := by
                  rw [hz0] at hy
                  cases hy
                  exact hz1
                refine s_parentOf0 rep hm hF fg.1 hy (by rw [hR, hyR]) (fun v ev => ?_)
                refine h32 _ _ _ ?_
                intro P hP
                by_cases hv : (400 : Int32) ≤ v
                · rw [if_pos hv]
                  exact hP (fin b' e')
                · rw [if_neg hv, if_pos (show (-2 : Int32) < 0 by decide)]
                  exact hP (fin b' e')
              · rw [if_neg hq0] at e'
                have hr2 := fg.up hy (by omega) e4
                obtain ⟨w, rw_, w1, w2, w3, w4⟩ := id hr2
                refine s_parentOf rep hm hF fg.1 hy (by omega) hR hRm (hneR q y hy (by omega)) w1 (fun v ev => ?_)
                rw [ev, zi_succ]
                exact ih y.2.1 (up + 1) b' w (by omega) (by have := (fg.1.2 q y hy).2 (by omega); omega) w1 hr2 e'
            obtain ⟨k, k1, k2⟩ := (fg.2.2 q y hy).2.1
            rw [k2] at e ⊢
            rw [zi_int k]
            by_cases c2 : k = s
            · rw [if_pos (show zi k = zi s by rw [c2])]
              refine (w_get (by decide)).mpr ?_
              rw [rg_in (by decide) (show y.1 < 3400 by omega), show I.1 (31 + 1) y.1 = zi (ndT (N y.1)) from nd.2.2.2.1]
              refine s_isSound h5 h6 h7 h8 hB' (by omega) (by omega) (by omega) (by omega) (by omega) ?_
              unfold sndI
              by_cases c3 : sndP A B n' n j (ndT (N y.1))
              · rw [if_pos c3, if_neg (by decide)]
                rw [if_pos (show (k : Int) = (s : Int) ∧ sndP A B n' n j (ndT (N y.1)) from ⟨by rw [c2], c3⟩)] at e
                exact nxt (some y.1) e
              · rw [if_neg c3, if_pos rfl]
                rw [if_neg (show ¬ ((k : Int) = (s : Int) ∧ sndP A B n' n j (ndT (N y.1))) from fun u => c3 u.2)] at e
                exact nxt b e
            · rw [if_neg (fun u => c2 ((zi_eq (by omega) (by omega)).mp u))]
              rw [if_neg (show ¬ ((k : Int) = (s : Int) ∧ sndP A B n' n j (ndT (N y.1))) from fun u => c2 (by have := u.1; omega))] at e
              exact nxt b e
          · rw [if_neg (fun u => c1 ((zi_eq (by omega) (by omega)).mp u))]
            rw [if_neg (fun u => c1 (by omega))] at e
            exact h125 (fin b e)
      have hx2 := (fg.1.2 p x hp).2 u1
      have hpl2 := (List.getElem?_eq_some_iff.mp hp).1
      exact main 400 x.2.1 0 none y0 (by omega) (by omega) y1 ⟨y0, r0, y1, y2, y3, y4⟩ hbest
    · have hno : ∀ (p : Nat) (x : Fl), F[p]? = some x → x.1 ≠ c := fun p x hp e => hin ⟨p, x, hp, e⟩
      rw [upP_no hno] at hbest
      refine s_parentOfN rep hm hF fg.1 hcm hno hpl (h27 _ ?_)
      intro P32 h32
      refine h32 _ _ _ ?_
      intro P125 h125
      rw [if_neg (by decide), if_pos (by decide)]
      exact h125 (fin none hbest)
