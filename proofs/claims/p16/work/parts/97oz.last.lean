/-! ===== last ===== -/
def vLast (x : Sg) (a : Int32) : Int32 := if 0 ≤ a ∧ a ≤ 9 then (sgLs x).1 (Int32.toNatClampNeg a) else -1
theorem t_last {x : Sg} {a : Int32} {I : zI} {K : Int32 → Prop} (hR : RX I x) (h : K (vLast x a)) : w_Desk_last a I K := by
  unfold vLast at h
  unfold w_Desk_last
  by_cases u0 : a < 0
  · rw [if_pos u0]
    rw [if_neg (fun w => Int32.not_lt.mpr w.1 u0)] at h
    exact h
  rw [if_neg u0]
  by_cases u9 : 9 < a
  · rw [if_pos u9]
    rw [if_neg (fun w => Int32.not_lt.mpr w.2 u9)] at h
    exact h
  rw [if_neg u9]
  rw [if_pos ⟨Int32.not_lt.mp u0, Int32.not_lt.mp u9⟩] at h
  obtain ⟨k, hk, rfl⟩ := zi_of (Int32.not_lt.mp u0)
  have hk9 := (zi_le (b := 9) hk (by decide)).mp (Int32.not_lt.mp u9)
  rw [zi_tn hk] at h
  refine (w_get (by decide)).mpr ?_
  rw [rg_in (by decide) (show k < 10 by omega), show I.1 (22 + 1) k = (sgLs x).1 k from hR.2.2.2.2.1.2.1 k (by omega)]
  exact h
theorem u_last {x : Sg} {a : Int32} {I : zI} {K : Int32 → Prop} (hR : RM I x) (h : K (vLast x a)) : w_M_last a I K := by
  unfold vLast at h
  unfold w_M_last
  refine s_in (fun c => ?_) (fun c => ?_)
  · rw [if_neg (by decide)]
    rw [if_pos c] at h
    obtain ⟨k, hk, rfl⟩ := zi_of c.1
    have hk9 := (zi_le (b := 9) hk (by decide)).mp c.2
    rw [zi_tn hk] at h ⊢
    refine ⟨(zin_iff (by omega)).mpr (by omega), ?_⟩
    rw [show I.1 538 k = (sgLs x).1 k from hR.2.2.2.2.1.2.1 k (by omega)]
    exact h
  · rw [if_pos rfl]
    rw [if_neg c] at h
    exact h
