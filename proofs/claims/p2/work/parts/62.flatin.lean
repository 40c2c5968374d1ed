/-! ===== what a flat tree is made of ===== -/
theorem fm_seg {N : Nat → Nd} : ∀ {l : List Nat} {k z : Nat}, (∀ c ∈ l, (yl N c).length = ndT (N c)) → l[k]? = some z → (l.flatMap (yl N)).drop (tkS N (l.take k)) = yl N z ++ (l.drop (k + 1)).flatMap (yl N)
  | [], _, _, _, hk => by cases hk
  | c :: l, 0, z, h, hk => by
    cases hk
    show ((c :: l).flatMap (yl N)).drop 0 = yl N c ++ l.flatMap (yl N)
    rw [List.drop_zero, List.flatMap_cons]
  | c :: l, k + 1, z, h, hk => by
    rw [List.getElem?_cons_succ] at hk
    rw [List.take_succ_cons, tkS_cons, List.flatMap_cons, List.drop_succ_cons]
    have hl := h c (List.mem_cons_self ..)
    rw [List.drop_append, hl, List.drop_of_length_le (by omega), Nat.add_sub_cancel_left, List.nil_append]
    exact fm_seg (fun x hx => h x (List.mem_cons_of_mem _ hx)) hk
theorem yl_ch {m c : Nat} {N : Nat → Nd} (h : NdOk m N) (hc : c < m) {k z : Nat} (hk : (ndC (N c))[k]? = some z) : yl N c = (ndC (N c)).flatMap (yl N) := by
  rw [yl_eq h hc]
  rcases h c hc with ⟨-, e, -⟩ | ⟨r, s, -, -, e3, -⟩
  · rw [e] at hk
    cases hk
  · rw [if_neg (by omega)]
theorem ndT_ch {m c : Nat} {N : Nat → Nd} (h : NdOk m N) (hc : c < m) {k z : Nat} (hk : (ndC (N c))[k]? = some z) : ndT (N c) = tkS N (ndC (N c)) := by
  rcases h c hc with ⟨-, e, -⟩ | ⟨r, s, -, -, e3, -, -, -, -, e8⟩
  · rw [e] at hk
    cases hk
  · exact e8
theorem fl_in {m : Nat} {N : Nat → Nd} (h : NdOk m N) (c : Nat) : c < m → ∀ (q p t dep i : Nat) (x : Fl), (fl N c q p t dep)[i]? = some x → x.1 ≤ c ∧ (1 ≤ i → ∃ (y : Fl) (i' : Nat), i' < i ∧ x.2.1 = p + i' ∧ (fl N c q p t dep)[i']? = some y ∧ x.1 ∈ ndC (N y.1) ∧ x.2.2.2.1 = y.2.2.2.1 + 1) ∧
    ∃ o, o + ndT (N x.1) ≤ ndT (N c) ∧ x = flH N x.1 x.2.1 (t + o) x.2.2.2.1 ∧ yl N x.1 = ((yl N c).drop o).take (ndT (N x.1)) ∧ ∀ j, j < sz N x.1 → (fl N c q p t dep)[i + j]? = (fl N x.1 x.2.1 (p + i) (t + o) x.2.2.2.1)[j]? := by
  induction c using Nat.strongRecOn with
  | ind c ih =>
    intro hc q p t dep i x hx
    rcases fl_at h hc hx with ⟨hi, rfl⟩ | ⟨k, z, i', hk, hi, hz, hx'⟩
    · subst hi
      refine ⟨Nat.le_refl c, fun u => by omega, 0, ?_, rfl, ?_, fun j _ => ?_⟩
      · show 0 + ndT (N c) ≤ _
        omega
      · show yl N c = ((yl N c).drop 0).take (ndT (N c))
        rw [List.drop_zero, List.take_of_length_le (by rw [yl_len h c hc]; exact Nat.le_refl _)]
      · rw [Nat.zero_add]
        rfl
    · have hzc : z ∈ ndC (N c) := List.mem_of_getElem? hk
      have hlt := h.lt hc hzc
      obtain ⟨a1, a2, o, a3, a4, a5, a6⟩ := ih z hlt (by omega) _ _ _ _ _ _ hx'
      have hput : ∀ j, j < sz N z → (fl N c q p t dep)[1 + szS N ((ndC (N c)).take k) + j]? = (fl N z p (p + 1 + szS N ((ndC (N c)).take k)) (t + tkS N ((ndC (N c)).take k)) (dep + 1))[j]? := fun j hj => fl_put h hc hk hj
      have htk := tkS_take (N := N) hk
      refine ⟨by omega, fun _ => ?_, tkS N ((ndC (N c)).take k) + o, ?_, ?_, ?_, fun j hj => ?_⟩
      · by_cases u : i' = 0
        · subst u
          rw [fl_0 h (by omega)] at hx'
          cases hx'
          exact ⟨flH N c q t dep, 0, by omega, rfl, fl_0 h hc, hzc, rfl⟩
        · obtain ⟨y, i2, b1, b2, b3, b4, b5⟩ := a2 (by omega)
          refine ⟨y, 1 + szS N ((ndC (N c)).take k) + i2, by omega, by omega, ?_, b4, b5⟩
          rw [hput i2 (by omega)]
          exact b3
      · rw [ndT_ch h hc hk]
        omega
      · rw [← Nat.add_assoc]
        exact a4
      · rw [a5, yl_ch h hc hk, ← List.drop_drop, fm_seg (fun w hw => yl_len h w (by have := h.lt hc hw; omega)) hk]
        have hl := yl_len h z (by omega)
        rw [List.drop_append_of_le_length (by omega), List.take_append_of_le_length (by rw [List.length_drop]; omega)]
      · have hb := a6 j hj
        have hlen := fl_len h x.1 (by omega) x.2.1 (p + 1 + szS N ((ndC (N c)).take k) + i') (t + tkS N ((ndC (N c)).take k) + o) x.2.2.2.1
        have hin : i' + j < sz N z := by
          have h1 : ((fl N x.1 x.2.1 (p + 1 + szS N ((ndC (N c)).take k) + i') (t + tkS N ((ndC (N c)).take k) + o) x.2.2.2.1)[j]?).isSome := by
            rw [List.getElem?_eq_getElem (by omega)]
            rfl
          rw [← hb, Option.isSome_iff_exists] at h1
          obtain ⟨w, hw⟩ := h1
          have := (List.getElem?_eq_some_iff.mp hw).1
          rw [fl_len h z (by omega)] at this
          exact this
        rw [hi, show 1 + szS N ((ndC (N c)).take k) + i' + j = 1 + szS N ((ndC (N c)).take k) + (i' + j) by omega, hput _ hin, hb, show p + 1 + szS N ((ndC (N c)).take k) + i' = p + (1 + szS N ((ndC (N c)).take k) + i') by omega, Nat.add_assoc t]
theorem fm_at {N : Nat → Nd} : ∀ {l : List Nat} {k z : Nat}, (∀ c ∈ l, (yl N c).length = ndT (N c)) → (l.flatMap (yl N))[k]? = some z → ∃ j w k', l[j]? = some w ∧ k = tkS N (l.take j) + k' ∧ (yl N w)[k']? = some z
  | [], _, _, _, hk => by cases hk
  | c :: l, k, z, h, hk => by
    have hl := h c (List.mem_cons_self ..)
    rw [List.flatMap_cons] at hk
    by_cases u : k < ndT (N c)
    · rw [List.getElem?_append_left (by omega)] at hk
      refine ⟨0, c, k, rfl, ?_, hk⟩
      show k = 0 + k
      omega
    · rw [List.getElem?_append_right (by omega), hl] at hk
      obtain ⟨j, w, k', e1, e2, e3⟩ := fm_at (fun x hx => h x (List.mem_cons_of_mem _ hx)) hk
      refine ⟨j + 1, w, k', by rw [List.getElem?_cons_succ]; exact e1, ?_, e3⟩
      rw [List.take_succ_cons, tkS_cons]
      omega
/-- the k-th token below a node is in its flat tree -/
theorem fl_tok {m : Nat} {N : Nat → Nd} (h : NdOk m N) (c : Nat) : c < m → ∀ (q p t dep k z : Nat), (yl N c)[k]? = some z → ∃ (i : Nat) (x : Fl), (fl N c q p t dep)[i]? = some x ∧ x.1 = z ∧ x.2.2.1 = ((t + k : Nat) : Int) := by
  induction c using Nat.strongRecOn with
  | ind c ih =>
    intro hc q p t dep k z hk
    rw [yl_eq h hc] at hk
    rcases h c hc with ⟨e1, -, -, e4, -⟩ | ⟨r, s, -, -, e3, -, -, -, e7, e8⟩
    · rw [if_pos (by omega)] at hk
      have hk0 : k = 0 := by
        have := (List.getElem?_eq_some_iff.mp hk).1
        have h1 : [c].length = 1 := rfl
        omega
      subst hk0
      cases hk
      refine ⟨0, flH N c q t dep, fl_0 h hc, rfl, ?_⟩
      show (if ndT (N c) = 0 then (-2 : Int) else (t : Int)) = _
      rw [if_neg (by omega)]
      rfl
    · rw [if_neg (by omega)] at hk
      obtain ⟨j, w, k', f1, f2, f3⟩ := fm_at (fun w hw => yl_len h w (by have := e7 w hw; omega)) hk
      have hwc := List.mem_of_getElem? f1
      have hlt := e7 w hwc
      obtain ⟨i, x, g1, g2, g3⟩ := ih w hlt (by omega) p (p + 1 + szS N ((ndC (N c)).take j)) (t + tkS N ((ndC (N c)).take j)) (dep + 1) k' z f3
      have hi := (List.getElem?_eq_some_iff.mp g1).1
      rw [fl_len h w (by omega)] at hi
      refine ⟨1 + szS N ((ndC (N c)).take j) + i, x, ?_, g2, ?_⟩
      · rw [fl_put h hc f1 hi]
        exact g1
      · rw [g3, f2, Nat.add_assoc]
theorem flL_map {f : Nat → Nat → Nat → List Fl} {N : Nat → Nd} : ∀ {l : List Nat} {p t : Nat}, (∀ c ∈ l, ∀ p t, (f c p t).map (fun x => x.1) = po N c) → (flL f N l p t).map (fun x => x.1) = l.flatMap (po N)
  | [], _, _, _ => rfl
  | c :: l, p, t, h => by
    show (f c p t ++ _).map _ = _
    rw [List.map_append, h c (List.mem_cons_self ..), flL_map (fun x hx => h x (List.mem_cons_of_mem _ hx)), List.flatMap_cons]
theorem fl_map {m : Nat} {N : Nat → Nd} (h : NdOk m N) (c : Nat) : c < m → ∀ q p t dep, (fl N c q p t dep).map (fun x => x.1) = po N c := by
  induction c using Nat.strongRecOn with
  | ind c ih =>
    intro hc q p t dep
    rw [fl_eq h hc, List.map_cons, flL_map (fun x hx p' t' => ih x (h.lt hc hx) (by have := h.lt hc hx; omega) _ _ _ _), po_eq h hc]
    rfl
theorem sz_leL {m : Nat} {N : Nat → Nd} : ∀ {l : List Nat}, (∀ c ∈ l, (2 : Int) * sz N c ≤ 5 * ndT (N c) + cS (ndM (N c))) → (2 : Int) * szS N l ≤ 5 * tkS N l + (l.map (fun c => cS (ndM (N c)))).sum
  | [], _ => by
    show (2 : Int) * ((0 : Nat) : Int) ≤ 5 * ((0 : Nat) : Int) + 0
    omega
  | c :: l, h => by
    have h1 := h c (List.mem_cons_self ..)
    have h2 := sz_leL (m := m) (fun x hx => h x (List.mem_cons_of_mem _ hx))
    rw [szS_cons, tkS_cons, List.map_cons, List.sum_cons]
    omega
/-- how many nodes a tree of so many TOKENS has -/
theorem sz_le {m : Nat} {N : Nat → Nd} (h : NdOk m N) (c : Nat) : c < m → (2 : Int) * sz N c ≤ 5 * ndT (N c) + cS (ndM (N c)) := by
  induction c using Nat.strongRecOn with
  | ind c ih =>
    intro hc
    rw [sz_eq h hc]
    rcases h c hc with ⟨e1, e2, e3, e4, -⟩ | ⟨r, s, hr, -, e3, -, -, e6, e7, e8⟩
    · have hM : ndM (N c) = 5 + ndK (N c) := by
        unfold ndM
        rw [if_pos (by omega)]
      have hcs : cS (5 + ndK (N c)) = -3 := by
        unfold cS
        rw [if_neg (by omega), if_neg (by omega), if_neg (by omega), if_neg (by omega), if_neg (by omega), if_neg (by omega)]
      rw [e2, e4, hM, hcs]
      show (2 : Int) * ((1 + 0 : Nat) : Int) ≤ _
      omega
    · have hM : ndM (N c) = syN r := by
        unfold ndM
        rw [e3, if_neg (by omega)]
        rfl
      have hL := sz_leL (m := m) (fun x hx => ih x (e7 x hx) (by have := e7 x hx; omega))
      have hrh := (rh_fin r hr).2
      rw [← e6, List.map_map] at hrh
      rw [hM, e8]
      have he : (List.map (cS ∘ fun c => ndM (N c)) (ndC (N c))) = (ndC (N c)).map (fun c => cS (ndM (N c))) := rfl
      rw [he] at hrh
      omega
