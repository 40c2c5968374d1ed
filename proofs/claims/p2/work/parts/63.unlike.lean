/-! ===== the nodes of a tree are unlike ===== -/
theorem rh_tok : ∀ r, r < 11 → 1 ≤ r → (rhS r).any (fun y => y != 0) = true := by decide +kernel
theorem rh_0 : ∀ r, r < 11 → rhS r = [] → r = 0 := by decide +kernel
theorem tkS_mem {N : Nat → Nd} {l : List Nat} {c : Nat} (h : c ∈ l) : ndT (N c) ≤ tkS N l := by
  obtain ⟨k, hk⟩ := List.mem_iff_getElem?.mp h
  have := tkS_take (N := N) hk
  omega
/-- a node that is no L, or that has CHILDREN, has a token -/
theorem tok1 {m : Nat} {N : Nat → Nd} (h : NdOk m N) (c : Nat) : c < m → (ndM (N c) ≠ 0 ∨ ndC (N c) ≠ []) → 1 ≤ ndT (N c) := by
  induction c using Nat.strongRecOn with
  | ind c ih =>
    intro hc hs
    rcases h c hc with ⟨e1, e2, e3, e4, -⟩ | ⟨r, s, hr, -, e3, -, -, e6, e7, e8⟩
    · omega
    · have hr1 : 1 ≤ r := by
        refine Nat.pos_of_ne_zero (fun u => ?_)
        subst u
        rcases hs with hs | hs
        · exact hs (by
            unfold ndM
            rw [e3, if_neg (by omega)]
            decide +kernel)
        · exact hs (List.map_eq_nil_iff.mp (e6.trans (by decide +kernel)))
      have := rh_tok r hr hr1
      rw [← e6] at this
      obtain ⟨y, hy, hy0⟩ := List.any_eq_true.mp this
      obtain ⟨z, hz, rfl⟩ := List.mem_map.mp hy
      have h1 := ih z (e7 z hz) (by have := e7 z hz; omega) (Or.inl (bne_iff_ne.mp hy0))
      have h2 := tkS_mem (N := N) hz
      omega
/-- a node of no TOKENS is CHILD of one node alone -/
def UqE (m : Nat) (N : Nat → Nd) : Prop := ∀ p1 p2 i1 i2 z : Nat, p1 < m → p2 < m → (ndC (N p1))[i1]? = some z → (ndC (N p2))[i2]? = some z → ndT (N z) = 0 → p1 = p2 ∧ i1 = i2
theorem po_le {m : Nat} {N : Nat → Nd} (h : NdOk m N) (c : Nat) : c < m → ∀ x ∈ po N c, x ≤ c := by
  induction c using Nat.strongRecOn with
  | ind c ih =>
    intro hc x hx
    rw [po_eq h hc] at hx
    rcases List.mem_cons.mp hx with rfl | hx
    · exact Nat.le_refl _
    · obtain ⟨z, hz, hxz⟩ := List.mem_flatMap.mp hx
      have := h.lt hc hz
      have := ih z this (by omega) x hxz
      omega
theorem po_yl {m : Nat} {N : Nat → Nd} (h : NdOk m N) (c : Nat) : c < m → ∀ x ∈ po N c, ∀ w ∈ yl N x, w ∈ yl N c := by
  induction c using Nat.strongRecOn with
  | ind c ih =>
    intro hc x hx w hw
    rw [po_eq h hc] at hx
    rcases List.mem_cons.mp hx with rfl | hx
    · exact hw
    · obtain ⟨z, hz, hxz⟩ := List.mem_flatMap.mp hx
      have hlt := h.lt hc hz
      have := ih z hlt (by omega) x hxz w hw
      obtain ⟨k, hk⟩ := List.mem_iff_getElem?.mp hz
      rw [yl_ch h hc hk]
      exact List.mem_flatMap.mpr ⟨z, hz, this⟩
theorem po_par {m : Nat} {N : Nat → Nd} (h : NdOk m N) (c : Nat) : c < m → ∀ x ∈ po N c, x = c ∨ ∃ y ∈ po N c, x ∈ ndC (N y) := by
  induction c using Nat.strongRecOn with
  | ind c ih =>
    intro hc x hx
    rw [po_eq h hc] at hx ⊢
    rcases List.mem_cons.mp hx with rfl | hx
    · exact Or.inl rfl
    · obtain ⟨z, hz, hxz⟩ := List.mem_flatMap.mp hx
      have hlt := h.lt hc hz
      rcases ih z hlt (by omega) x hxz with rfl | ⟨y, hy, hxy⟩
      · exact Or.inr ⟨c, List.mem_cons_self .., hz⟩
      · exact Or.inr ⟨y, List.mem_cons_of_mem _ (List.mem_flatMap.mpr ⟨z, hz, hy⟩), hxy⟩
theorem nd_fm {f : Nat → List Nat} : ∀ {l : List Nat}, (∀ c ∈ l, (f c).Nodup) → (∀ i j a b x : Nat, l[i]? = some a → l[j]? = some b → x ∈ f a → x ∈ f b → i = j) → (l.flatMap f).Nodup
  | [], _, _ => List.nodup_nil
  | c :: l, h1, h2 => by
    rw [List.flatMap_cons]
    refine List.nodup_append.mpr ⟨h1 c (List.mem_cons_self ..), nd_fm (fun x hx => h1 x (List.mem_cons_of_mem _ hx)) (fun i j a b x hi hj ha hb => ?_), fun a ha b hb e => ?_⟩
    · have := h2 (i + 1) (j + 1) a b x (by rw [List.getElem?_cons_succ]; exact hi) (by rw [List.getElem?_cons_succ]; exact hj) ha hb
      omega
    · subst e
      obtain ⟨z, hz, haz⟩ := List.mem_flatMap.mp hb
      obtain ⟨k, hk⟩ := List.mem_iff_getElem?.mp hz
      have := h2 0 (k + 1) c z a rfl (by rw [List.getElem?_cons_succ]; exact hk) ha haz
      omega
theorem nd_fm_inv {f : Nat → List Nat} : ∀ {l : List Nat} {i j a b x : Nat}, (l.flatMap f).Nodup → l[i]? = some a → l[j]? = some b → x ∈ f a → x ∈ f b → i = j
  | [], _, _, _, _, _, _, hi, _, _, _ => by cases hi
  | c :: l, i, j, a, b, x, h, hi, hj, ha, hb => by
    rw [List.flatMap_cons] at h
    obtain ⟨n1, n2, n3⟩ := List.nodup_append.mp h
    cases i with
    | zero =>
      cases j with
      | zero => rfl
      | succ j =>
        rw [List.getElem?_cons_succ] at hj
        cases hi
        exact absurd rfl (n3 x ha x (List.mem_flatMap.mpr ⟨b, List.mem_of_getElem? hj, hb⟩))
    | succ i =>
      rw [List.getElem?_cons_succ] at hi
      cases j with
      | zero =>
        cases hj
        exact absurd rfl (n3 x hb x (List.mem_flatMap.mpr ⟨a, List.mem_of_getElem? hi, ha⟩))
      | succ j =>
        rw [List.getElem?_cons_succ] at hj
        have := nd_fm_inv n2 hi hj ha hb
        omega
theorem nd_fm_sub {f : Nat → List Nat} : ∀ {l : List Nat} {c : Nat}, (l.flatMap f).Nodup → c ∈ l → (f c).Nodup
  | [], _, _, hc => by cases hc
  | a :: l, c, h, hc => by
    rw [List.flatMap_cons] at h
    obtain ⟨n1, n2, n3⟩ := List.nodup_append.mp h
    rcases List.mem_cons.mp hc with rfl | hc
    · exact n1
    · exact nd_fm_sub n2 hc
theorem po_nodup {m : Nat} {N : Nat → Nd} (h : NdOk m N) (hu : UqE m N) (c : Nat) : c < m → (yl N c).Nodup → (po N c).Nodup := by
  induction c using Nat.strongRecOn with
  | ind c ih =>
    intro hc hy
    rw [po_eq h hc]
    refine List.nodup_cons.mpr ⟨fun hm => ?_, ?_⟩
    · obtain ⟨z, hz, hcz⟩ := List.mem_flatMap.mp hm
      have hlt := h.lt hc hz
      have := po_le h z (by omega) c hcz
      omega
    · by_cases hnil : ndC (N c) = []
      · rw [hnil]
        exact List.nodup_nil
      have hy2 : ((ndC (N c)).flatMap (yl N)).Nodup := by
        obtain ⟨z, hz⟩ := List.exists_mem_of_ne_nil _ hnil
        obtain ⟨k, hk⟩ := List.mem_iff_getElem?.mp hz
        rw [← yl_ch h hc hk]
        exact hy
      refine nd_fm (fun z hz => ih z (h.lt hc hz) (by have := h.lt hc hz; omega) (nd_fm_sub hy2 hz)) (fun i j a b x hi hj hxa hxb => ?_)
      have ha := h.lt hc (List.mem_of_getElem? hi)
      have hb := h.lt hc (List.mem_of_getElem? hj)
      have big : ∀ y, y ∈ po N a → y ∈ po N b → 1 ≤ ndT (N y) → i = j := by
        intro y hya hyb hy1
        have hym := po_le h a (by omega) y hya
        have hlen := yl_len h y (by omega)
        have hne : yl N y ≠ [] := fun u => by
          rw [u] at hlen
          change 0 = _ at hlen
          omega
        obtain ⟨w, hw⟩ := List.exists_mem_of_ne_nil _ hne
        exact nd_fm_inv hy2 hi hj (po_yl h a (by omega) y hya w hw) (po_yl h b (by omega) y hyb w hw)
      by_cases hx1 : 1 ≤ ndT (N x)
      · exact big x hxa hxb hx1
      · have hx0 : ndT (N x) = 0 := by omega
        rcases po_par h a (by omega) x hxa with rfl | ⟨y1, hy1, hxy1⟩
        · rcases po_par h b (by omega) x hxb with rfl | ⟨y2, hy2', hxy2⟩
          · exact (hu c c i j x hc hc hi hj hx0).2
          · have hy2m := po_le h b (by omega) y2 hy2'
            obtain ⟨k2, hk2⟩ := List.mem_iff_getElem?.mp hxy2
            have := (hu c y2 i k2 x hc (by omega) hi hk2 hx0).1
            omega
        · have hy1m := po_le h a (by omega) y1 hy1
          obtain ⟨k1, hk1⟩ := List.mem_iff_getElem?.mp hxy1
          rcases po_par h b (by omega) x hxb with rfl | ⟨y2, hy2', hxy2⟩
          · have := (hu c y1 j k1 x hc (by omega) hj hk1 hx0).1
            omega
          · have hy2m := po_le h b (by omega) y2 hy2'
            obtain ⟨k2, hk2⟩ := List.mem_iff_getElem?.mp hxy2
            have e := (hu y1 y2 k1 k2 x (by omega) (by omega) hk1 hk2 hx0).1
            subst e
            exact big y1 hy1 hy2' (tok1 h y1 (by omega) (Or.inr (List.ne_nil_of_mem hxy1)))
