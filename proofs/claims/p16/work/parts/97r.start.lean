/-! ===== the state at the start ===== -/
def nEnd : Nd := (-2, 10, -2, 1, 0, [], [])
def N00 : Nat → Nd := upN (fun _ => nEnd) 0 nEnd
def N01 : Nat → Nd := upN N00 1 (rlNd 0 0 0 0 [])
def mo0 : Mo := ([], [], true, 1, fun _ => 0, -2)
def x0 : Sg := ([], (2, N01), [], (0, (fun j => if j = 6 then -2 else 0), fun _ => none), [], mo0, [])
theorem N01_0 : N01 0 = nEnd := rfl
theorem N01_1 : N01 1 = rlNd 0 0 0 0 [] := rfl
theorem n01 : NdOk 2 N01 := by
  intro k hk
  by_cases u : k = 0
  · rw [u]
    exact Or.inl ⟨rfl, rfl, by decide, rfl, Or.inl rfl⟩
  · rw [show k = 1 by omega]
    exact Or.inr ⟨0, 0, by decide, by decide, rfl, rfl, by decide +kernel, rfl, fun c hc => (by cases hc), rfl⟩
theorem lex0 : lexL [] = [(10, 0, 0)] := rfl
theorem c01 : ∀ k, k < 2 → ndC (N01 k) = [] := by
  intro k hk
  by_cases u : k = 0
  · rw [u]
    rfl
  · rw [show k = 1 by omega]
    rfl
theorem tx0 : txOk [] := ⟨Nat.zero_le _, fun j hj => absurd hj (Nat.not_lt_zero _), by rw [lex0]; decide⟩
theorem tr0 : TreeI 2 N01 1 1 (fun _ => 0) := by
  have hy : yl N01 1 = [] := rfl
  refine ⟨by decide, rfl, hy, fun i j h1 h2 _ => by omega, fun i hi => ⟨(show 0 < 2 by decide), rfl⟩, fun z hz => ?_, Nat.le_refl _, by decide⟩
  rw [hy] at hz
  cases hz
theorem mo0_ok : MoOk 2 N01 mo0 := by
  refine ⟨tx0, tx0, fun _ => rfl, tr0, fun i x hx => ?_⟩
  have hx' : ([(10, 0, 0)] : List (Nat × Nat × Nat))[i]? = some x := hx
  cases i with
  | zero =>
    cases hx'
    exact ⟨rfl, rfl⟩
  | succ i => cases hx'
theorem x0_iv : Iv x0 := by
  refine ⟨⟨Nat.zero_le _, fun b hb => (by cases hb)⟩, n01, ?_, by decide, fun c hc => ?_, ⟨fun i j p hi => (by cases hi), Nat.zero_le _⟩, ⟨Nat.zero_le _, fun c _ => rfl, fun c hc => ?_, fun y hy z hz h2 => ?_⟩, mo0_ok, fun y hy => (by cases hy), fun y hy => (by cases hy), Nat.zero_le _⟩
  · intro p1 p2 i1 i2 z h1 h2 h3 h4
    change (ndC (N01 p1))[i1]? = some z at h3
    rw [c01 p1 h1] at h3
    cases h3
  · change ndT (N01 c) ≤ 100
    change c < 2 at hc
    by_cases u : c = 0
    · rw [u]
      decide
    · rw [show c = 1 by omega]
      decide
  · change c < 2 at hc
    change ndB (N01 c) ≤ 0
    by_cases u : c = 0
    · rw [u]
      decide
    · rw [show c = 1 by omega]
      decide
  · rcases hy with h | h | h
    · have h : y = mo0 := h
      rw [h] at hz
      obtain ⟨p, hp⟩ := List.mem_iff_getElem?.mp hz
      have hz2 := (fl_szin n01 (show 1 < 2 by decide) hp).1
      change ndR (N01 z.1) = 2 at h2
      by_cases u : z.1 = 0
      · rw [u] at h2
        exact absurd h2 (by decide)
      · rw [show z.1 = 1 by omega] at h2
        exact absurd h2 (by decide)
    · cases h
    · cases h
theorem x0_lv : Lv x0 := by
  refine ⟨⟨?_, fun u => by cases u⟩, fun y hy => (by cases hy), fun y hy => by cases hy⟩
  show TL N01 (kdF [(10, 0, 0)]) 1 0
  refine TL_eq.mpr ⟨fun r s hr e1 e2 st l1 l2 => ?_, trivial⟩
  have hr0 : r = 0 := by
    have : (0 : Int) = r := e1
    omega
  have hs0 : s = 0 := by
    have : (0 : Int) = s := e2
    omega
  subst hr0
  subst hs0
  rw [show sz N01 1 = 1 from rfl]
  refine RC.one ?_
  unfold lNx
  rw [l2, if_pos (show ldN 0 (5 + kdF [(10, 0, 0)] 0) = 0 from end_fin 0 (by decide))]
  have hr : rlN 0 = some 0 := by decide +kernel
  rw [hr]
  have := byT_app (r := 0) (l := []) l1 rfl
  rw [List.append_nil, l2] at this
  dsimp only
  rw [this]
  rfl
theorem x0_pc : Pc x0 := by
  have e : runsOf N01 1 = [] := rfl
  refine ⟨⟨?_, ?_⟩, fun y hy => (by cases hy), fun y hy => by cases hy⟩
  · show layAllR (runsOf N01 1) [] = []
    rw [e]
    rfl
  · show (-2 : Int32) = rowI (runsOf N01 1) []
    rw [e]
    rfl
theorem x0_ev : Ev x0 := by
  refine ⟨fun c hc => ?_, fun c hc => ?_, fun _ => ⟨rfl, rfl, rfl⟩⟩
  · change c < 2 at hc
    show ndB (N01 c) ≤ 0
    by_cases u : c = 0
    · rw [u]
      decide
    · rw [show c = 1 by omega]
      decide
  · change c < 2 at hc
    show ndM (N01 c) = 15 ↔ c = 0
    by_cases u : c = 0
    · rw [u]
      exact ⟨fun _ => rfl, fun _ => rfl⟩
    · rw [show c = 1 by omega]
      exact ⟨fun v => absurd v (by decide), fun v => absurd v (by decide)⟩
theorem x0_fr : Fr x0 := by
  refine ⟨?_, fun y hy => (by cases hy), fun y hy => by cases hy⟩
  show lIt (kdF [(10, 0, 0)]) (sz N01 1) (0, [(0, 0)]) = some (0, [(0, 0), (0, 1)])
  decide +kernel
theorem x0_ls : Lsv x0 := ⟨x0_iv, x0_lv, x0_pc, x0_ev, x0_fr⟩
