/-! ===== a step keeps a stack a path ===== -/
theorem StP.take {st : List (Nat × Nat)} {n : Nat} (h : StP st) : StP (st.take n) := by
  refine ⟨fun p hp => ?_, fun j p q hp hq => ?_⟩
  · by_cases u : 0 < n
    · rw [List.getElem?_take, if_pos u] at hp
      exact h.1 p hp
    · rw [List.getElem?_take, if_neg u] at hp
      cases hp
  · by_cases u : j + 1 < n
    · rw [List.getElem?_take, if_pos u] at hq
      rw [List.getElem?_take, if_pos (by omega)] at hp
      exact h.2 j p q hp hq
    · rw [List.getElem?_take, if_neg u] at hq
      cases hq
theorem StP.snoc {st : List (Nat × Nat)} {p0 : Nat × Nat} {c s y : Nat} (h : StP st) (htop : st[st.length - 1]? = some p0) (h1 : 1 ≤ st.length) (hy : y < 17) (e : ldN p0.2 y = s) (e0 : s ≠ 0) : StP (st ++ [(c, s)]) := by
  refine ⟨fun p hp => ?_, fun j p q hp hq => ?_⟩
  · rw [List.getElem?_append_left (by omega)] at hp
    exact h.1 p hp
  · by_cases u : j + 1 < st.length
    · rw [List.getElem?_append_left u] at hq
      rw [List.getElem?_append_left (by omega)] at hp
      exact h.2 j p q hp hq
    · have hq2 := (List.getElem?_eq_some_iff.mp hq).1
      rw [List.length_append] at hq2
      have hj : j + 1 = st.length := by
        have : [(c, s)].length = 1 := rfl
        omega
      rw [hj, List.getElem?_append_right (Nat.le_refl _), Nat.sub_self] at hq
      rw [List.getElem?_append_left (by omega), show j = st.length - 1 by omega, htop] at hp
      cases hq
      cases hp
      exact ⟨y, hy, e, e0⟩
theorem StOk.mono {m m' : Nat} {st : List (Nat × Nat)} (h : StOk m st) (hm : m ≤ m') : StOk m' st := fun j p hp => ⟨(h j p hp).1, fun u => Nat.lt_of_lt_of_le ((h j p hp).2 u) hm⟩
theorem StOk.take {m n : Nat} {st : List (Nat × Nat)} (h : StOk m st) : StOk m (st.take n) := by
  intro j p hp
  by_cases u : j < n
  · rw [List.getElem?_take, if_pos u] at hp
    exact h j p hp
  · rw [List.getElem?_take, if_neg u] at hp
    cases hp
theorem StOk.snoc {m c s : Nat} {st : List (Nat × Nat)} (h : StOk m st) (hc : c < m) (hs : s < 21) : StOk m (st ++ [(c, s)]) := by
  intro j p hp
  by_cases u : j < st.length
  · rw [List.getElem?_append_left u] at hp
    exact h j p hp
  · have hq2 := (List.getElem?_eq_some_iff.mp hp).1
    rw [List.length_append] at hq2
    have hj : j = st.length := by
      have : [(c, s)].length = 1 := rfl
      omega
    rw [hj, List.getElem?_append_right (Nat.le_refl _), Nat.sub_self] at hp
    cases hp
    exact ⟨hs, fun _ => hc⟩
/-- what a RULE makes of a stack is one -/
theorem byT_ok {m s r : Nat} {st : List (Nat × Nat)} {p0 : Nat × Nat} (hP : StP st) (ok : StOk m st) (h1 : 1 ≤ st.length) (htop : st[st.length - 1]? = some p0) (hs : p0.2 = s) (hr : rlN s = some r) : StP (byT m st r) ∧ StOk (m + 1) (byT m st r) := by
  obtain ⟨hf, hl⟩ := st_fits hP ok h1 htop hs hr
  have hs21 : s < 21 := hs ▸ (ok _ p0 htop).1
  have hr11 := rlN_lt hs21 hr
  have sy5 := (sy_fin r hr11).2
  change syN r < 5 at sy5
  have hb : st[st.length - lnN r - 1]? = some (st.getD (st.length - lnN r - 1) (0, 0)) := by
    rw [List.getD_eq_getElem?_getD, List.getElem?_eq_getElem (by omega)]
    rfl
  have hb21 : byS st r < 21 := (ok _ _ hb).1
  have hlen : (st.take (st.length - lnN r)).length = st.length - lnN r := by rw [List.length_take]; omega
  have ht : (st.take (st.length - lnN r))[(st.take (st.length - lnN r)).length - 1]? = some (st.getD (st.length - lnN r - 1) (0, 0)) := by
    rw [hlen, List.getElem?_take, if_pos (by omega)]
    exact hb
  unfold byT
  exact ⟨hP.take.snoc ht (by omega) (show syN r < 17 by omega) rfl hl, (ok.take.mono (Nat.le_succ m)).snoc (Nat.lt_succ_self m) (ldN_lt hb21 (by omega))⟩
