/-! ===== stacks are paths ===== -/
/-- which STATES lead to a STATE -/
def tbP : List (List Nat) := [[], [0], [1, 6], [1, 6], [1, 6], [3], [4], [5], [5, 12], [5, 12, 15], [5, 12, 15, 16], [5, 12, 15, 16], [5, 12, 15, 16], [6], [7], [7, 17], [8, 18], [12], [15], [16], [17]]
theorem tbP_fin : ∀ a, a < 21 → ∀ y, y < 17 → ldN a y ≠ 0 → a ∈ tbP.getD (ldN a y) [] := by decide +kernel
/-- the STATES that may lie k below a STATE -/
def bkT : Nat → Nat → List Nat
  | 0, s => [s]
  | k + 1, s => (bkT k s).flatMap (fun a => tbP.getD a [])
theorem bk_fin : ((List.range 21).all (fun s => match rlN s with
  | none => true
  | some r => (List.range (lnN r)).all (fun k => !(bkT k s).contains 0) && (bkT (lnN r) s).all (fun a => ldN a (syN r) != 0))) = true := by decide +kernel
theorem bk_fin2 {s r : Nat} (hs : s < 21) (hr : rlN s = some r) : (∀ k, k < lnN r → 0 ∉ bkT k s) ∧ ∀ a ∈ bkT (lnN r) s, ldN a (syN r) ≠ 0 := by
  have h := List.all_eq_true.mp bk_fin s (List.mem_range.mpr hs)
  rw [hr] at h
  obtain ⟨h1, h2⟩ := Bool.and_eq_true_iff.mp h
  refine ⟨fun k hk hm => ?_, fun a ha => ?_⟩
  · have := List.all_eq_true.mp h1 k (List.mem_range.mpr hk)
    rw [List.contains_iff_mem.mpr hm] at this
    cases this
  · have := List.all_eq_true.mp h2 a ha
    exact bne_iff_ne.mp this
/-- a stack of the tables: its bottom is STATE 0, each STATE is led to by the one below -/
def StP (st : List (Nat × Nat)) : Prop := (∀ p, st[0]? = some p → p.2 = 0) ∧ ∀ (j : Nat) (p q : Nat × Nat), st[j]? = some p → st[j + 1]? = some q → ∃ y, y < 17 ∧ ldN p.2 y = q.2 ∧ q.2 ≠ 0
theorem bk_mem {m : Nat} {st : List (Nat × Nat)} (hP : StP st) (ok : StOk m st) {q : Nat × Nat} {j : Nat} (hj : st[j]? = some q) : ∀ (k : Nat) (p : Nat × Nat), k ≤ j → st[j - k]? = some p → p.2 ∈ bkT k q.2
  | 0, p, _, hp => by
    rw [Nat.sub_zero, hj] at hp
    cases hp
    exact List.mem_singleton.mpr rfl
  | k + 1, p, hk, hp => by
    have hl := (List.getElem?_eq_some_iff.mp hj).1
    have hx : st[j - k]? = some (st[j - k]'(by omega)) := List.getElem?_eq_getElem (by omega)
    have ih := bk_mem hP ok hj k _ (by omega) hx
    obtain ⟨y, hy, e, e0⟩ := hP.2 (j - (k + 1)) p _ hp (by rw [show j - (k + 1) + 1 = j - k by omega]; exact hx)
    refine List.mem_flatMap.mpr ⟨_, ih, ?_⟩
    rw [← e]
    exact tbP_fin p.2 (ok _ p hp).1 y hy (by rw [e]; exact e0)
/-- a STATE's RULE fits what is on the stack, and what is left leads on -/
theorem st_fits {m s r : Nat} {st : List (Nat × Nat)} {p0 : Nat × Nat} (hP : StP st) (ok : StOk m st) (h1 : 1 ≤ st.length) (htop : st[st.length - 1]? = some p0) (hs : p0.2 = s) (hr : rlN s = some r) : lnN r < st.length ∧ ldN (byS st r) (syN r) ≠ 0 := by
  have hs21 : s < 21 := hs ▸ (ok _ p0 htop).1
  obtain ⟨f1, f2⟩ := bk_fin2 hs21 hr
  have hlt : lnN r < st.length := by
    refine Nat.lt_of_not_le (fun u => ?_)
    have h0 : st[0]? = some (st[0]'(by omega)) := List.getElem?_eq_getElem (by omega)
    have := bk_mem hP ok htop (st.length - 1) _ (Nat.le_refl _) (by rw [Nat.sub_self]; exact h0)
    rw [hP.1 _ h0, hs] at this
    exact f1 _ (by omega) this
  refine ⟨hlt, f2 _ ?_⟩
  have hb : st[st.length - lnN r - 1]? = some (st.getD (st.length - lnN r - 1) (0, 0)) := by
    rw [List.getD_eq_getElem?_getD, List.getElem?_eq_getElem (by omega)]
    rfl
  have := bk_mem hP ok htop (lnN r) _ (by omega) (by rw [show st.length - 1 - lnN r = st.length - lnN r - 1 by omega]; exact hb)
  rw [hs] at this
  exact this
