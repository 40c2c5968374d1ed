/-! ===== which sound node is taken: the model ===== -/
/-- parents and first TOKENS in the model's rows -/
def FlM (I : zI) (F : List Fl) : Prop := ∀ (p : Nat) (x : Fl), F[p]? = some x → (p = 0 → I.1 524 x.1 = -2) ∧ (1 ≤ p → ∀ y : Fl, F[x.2.1]? = some y → I.1 524 x.1 = zi y.1) ∧ (0 ≤ x.2.2.1 → I.1 526 x.1 = Int32.ofInt x.2.2.1)
theorem s_takenFor {m s n' n A B c p j : Nat} {x : Fl} {F : List Fl} {N : Nat → Nd} {I : zI} {K : Int32 → Prop} (rep : RepNM I m N) (hm : m ≤ 3700) (hF : FlM I F) (fg : FlG m F N n') (hp : F[p]? = some x) (hx : x.1 = c) (u1 : 1 ≤ p) (u2 : 0 ≤ x.2.2.1) (hg : I.1 508 j = zi c) (hj : j < n') (hs : s < 21)
    (h9 : I.1 491 9 = zi n) (h19 : I.1 491 19 = zi n') (h66 : I.1 491 66 = zi A) (h67 : I.1 491 67 = zi B) (hA : A ≤ 100) (hB' : B ≤ n') (hn : n ≤ 100) (hn' : n' ≤ 100)
    (hK : K (oI (-1) (bsT F N A B n' n j s 400 x.2.1 none))) : w_M_takenFor (zi j) (zi s) I K := by
  unfold w_M_takenFor
  have hcm : c < m := hx ▸ (fg.1.2 p x hp).1
  have hF400 := fg.1.1
  obtain ⟨y0, r0, y1, y2, y3, y4⟩ := fg.up hp u1 u2
  rw [zi_tn (show j < 2147483648 by omega), hg, zi_tn (show c < 2147483648 by omega)]
  refine ⟨(zin_iff (by omega)).mpr (by omega), (zin_iff (by omega)).mpr (by omega), fun v ev => ?_⟩
  rw [← hx, (hF p x hp).2.1 u1 y0 y1] at ev
  subst ev
  intro P15 h15
  have main : ∀ (d q : Nat) (b : Option Nat) (y : Fl), q < d → F[q]? = some y → FlR F N q → bsT F N A B n' n j s 400 x.2.1 none = bsT F N A B n' n j s d q b → P15 (oI (-1) b) (zi y.1) := by
    intro d
    induction d with
    | zero =>
      intro q b y h1
      omega
    | succ d ih =>
      intro q b y h1 hy hr e
      refine h15 _ _ ?_
      rw [bsT_at hy] at e
      have hym := (fg.1.2 q y hy).1
      have hin : vp_in (zi y.1) 3700 := (zin_iff (by omega)).mpr (by omega)
      rw [if_neg (zi_pos (by omega)), zi_tn (show y.1 < 2147483648 by omega)]
      obtain ⟨y', r, e1, e2, e3, e4⟩ := hr
      rw [hy] at e1
      cases e1
      have nd := rep.2 y.1 hym
      rcases (fg.2.2 q y hy).1 with hf | ⟨f, hf, hf1, hf2⟩
      · omega
      refine ⟨hin, ?_⟩
      rw [(hF q y hy).2.2 e4, hf, zi_int f]
      rw [hf] at e
      by_cases c1 : f = j
      · rw [if_pos (show zi f = zi j by rw [c1])]
        rw [if_pos (by rw [c1])] at e
        refine ⟨hin, ?_⟩
        intro P62 h62
        have nxt : ∀ b' : Option Nat, bsT F N A B n' n j s 400 x.2.1 none = (if q = 0 then b' else bsT F N A B n' n j s d y.2.1 b') → P62 (oI (-1) b') := by
          intro b' e'
          refine h62 _ ⟨hin, fun v ev => ?_⟩
          by_cases hq0 : q = 0
          · rw [if_pos hq0] at e'
            rw [(hF q y hy).1 hq0] at ev
            rw [ev]
            refine h15 _ _ ?_
            rw [if_pos (show (-2 : Int32) < 0 by decide), ← e']
            exact hK
          · rw [if_neg hq0] at e'
            have hr2 := fg.up hy (by omega) e4
            obtain ⟨w, rw_, w1, w2, w3, w4⟩ := id hr2
            rw [(hF q y hy).2.1 (by omega) w w1] at ev
            rw [ev]
            exact ih y.2.1 b' w (by have := (fg.1.2 q y hy).2 (by omega); omega) w1 hr2 e'
        obtain ⟨k, k1, k2⟩ := (fg.2.2 q y hy).2.1
        rw [k2] at e
        rw [show I.1 514 y.1 = Int32.ofInt (ndS (N y.1)) from nd.2.1, k2, zi_int k]
        by_cases c2 : k = s
        · rw [if_pos (show zi k = zi s by rw [c2])]
          refine ⟨hin, ?_⟩
          rw [show I.1 515 y.1 = zi (ndT (N y.1)) from nd.2.2.1, zi_add]
          refine s_areTogether h9 h19 h66 h67 hB' (by omega) (by omega) (by omega) (by omega) (by omega) ?_
          unfold sndI
          by_cases c3 : sndP A B n' n j (ndT (N y.1))
          · rw [if_pos c3, if_neg (by decide)]
            rw [if_pos (show (k : Int) = (s : Int) ∧ sndP A B n' n j (ndT (N y.1)) from ⟨by rw [c2], c3⟩)] at e
            exact nxt (some y.1) e
          · rw [if_neg c3, if_pos rfl]
            rw [if_neg (show ¬ ((k : Int) = (s : Int) ∧ sndP A B n' n j (ndT (N y.1))) from fun u => c3 u.2)] at e
            exact nxt b e
        · rw [if_neg (fun u => c2 ((zi_eq (by omega) (by omega)).mp u))]
          rw [if_neg (show ¬ ((k : Int) = (s : Int) ∧ sndP A B n' n j (ndT (N y.1))) from fun u => c2 (by have := u.1; omega))] at e
          exact nxt b e
      · rw [if_neg (fun u => c1 ((zi_eq (by omega) (by omega)).mp u))]
        rw [if_neg (fun u => c1 (by omega))] at e
        rw [← e]
        exact hK
  have hx2 := (fg.1.2 p x hp).2 u1
  have hpl2 := (List.getElem?_eq_some_iff.mp hp).1
  exact main 400 x.2.1 none y0 (by omega) y1 ⟨y0, r0, y1, y2, y3, y4⟩ rfl
/-- what the model takes ahead of the i-th token (whose node is c): two lines of grows -/
theorem s_Mbest {m s n' n A B i c : Nat} {F : List Fl} {N : Nat → Nd} {I : zI} {Y : Int32 → Prop} (rep : RepNM I m N) (hm : m ≤ 3700) (hF : FlM I F) (fg : FlG m F N n') (hs : s < 21)
    (h9 : I.1 491 9 = zi n) (h19 : I.1 491 19 = zi n') (h66 : I.1 491 66 = zi A) (h67 : I.1 491 67 = zi B) (hA : A ≤ 100) (hB : B ≤ n) (hB' : B ≤ n') (hAn : A < n') (hn : n ≤ 100) (hn' : n' ≤ 100) (hi : i < n)
    (hgo : ∀ j, wasN A B n n' i = some j → I.1 508 j = zi c ∧ (j + 1 = n' → ∀ (p : Nat) (x : Fl), F[p]? = some x → x.1 ≠ c) ∧ (j + 1 < n' → ∃ (p : Nat) (x : Fl), F[p]? = some x ∧ x.1 = c ∧ 1 ≤ p ∧ 0 ≤ x.2.2.1))
    (hK : Y (oI (-1) (bestOf F N A B n n' i s c))) :
    w_M_wasOf (zi i) I (fun r_9 => ∀ (P70 : Int32 → Prop), (∀ (t_10 : Int32), Y t_10 → P70 t_10) → ∀ (P69 : Prop), ((P70 (-1)) → P69) → (if r_9 < 0 then P69 else (if ((I.1 491 19) - 1) ≤ r_9 then P69 else (w_M_takenFor r_9 (zi s) I (fun r_30 => P70 r_30))))) := by
  refine s_wasOf h9 h19 h66 h67 hA hB hB' hn hn' hi ?_
  intro P70 h70 P69 h69
  unfold bestOf at hK
  cases hw : wasN A B n n' i with
  | none =>
    rw [hw] at hK
    show if (-1 : Int32) < 0 then _ else _
    rw [if_pos (by decide)]
    exact h69 (h70 _ hK)
  | some j =>
    rw [hw] at hK
    have hjn : j < n' := by
      unfold wasN at hw
      by_cases c1 : i < A
      · rw [if_pos c1] at hw
        cases hw
        omega
      · rw [if_neg c1] at hw
        by_cases c2 : n - B ≤ i
        · rw [if_pos c2] at hw
          cases hw
          omega
        · rw [if_neg c2] at hw
          cases hw
    obtain ⟨g1, g2, g3⟩ := hgo j hw
    show if zi j < 0 then _ else _
    rw [if_neg (zi_pos (by omega)), h19, show zi n' - 1 = zi (n' - 1) from zi_sub (b := 1) (by omega)]
    by_cases c1 : j + 1 = n'
    · rw [if_pos ((zi_le (by omega) (by omega)).mpr (by omega))]
      rw [upP_no (g2 c1)] at hK
      exact h69 (h70 _ hK)
    · rw [if_neg (fun u => by have := (zi_le (by omega) (by omega)).mp u; omega)]
      obtain ⟨p, x, hp, hx, u1, u2⟩ := g3 (by omega)
      have hq := upP_at fg.2.1 hp
      rw [hx] at hq
      rw [hq] at hK
      exact s_takenFor rep hm hF fg hp hx u1 u2 g1 hjn hs h9 h19 h66 h67 hA hB' hn hn' (h70 _ hK)
