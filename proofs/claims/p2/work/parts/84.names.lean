/-! ===== how many NAMES a TREE has ===== -/
/-- a weight summed up over the nodes of a tree -/
def poW (N : Nat → Nd) (f : Nat → Nat) (c : Nat) : Nat := ((po N c).map f).sum
theorem fmW {N : Nat → Nd} {f : Nat → Nat} : ∀ {l : List Nat}, ((l.flatMap (po N)).map f).sum = (l.map (poW N f)).sum
  | [] => rfl
  | c :: l => by
    rw [List.flatMap_cons, List.map_append, List.sum_append, fmW, List.map_cons, List.sum_cons]
    rfl
theorem poW_eq {m c : Nat} {N : Nat → Nd} {f : Nat → Nat} (h : NdOk m N) (hc : c < m) : poW N f c = f c + ((ndC (N c)).map (poW N f)).sum := by
  unfold poW
  rw [po_eq h hc, List.map_cons, List.sum_cons, fmW]
  rfl
theorem poW_le {m : Nat} {N : Nat → Nd} {f : Nat → Nat} {e : Nat → Int} (h : NdOk m N) (ht : ∀ c, c < m → ndR (N c) = -2 → (2 : Int) * f c ≤ 1 + e (5 + ndK (N c))) (hr : ∀ c (r : Nat), c < m → r < 11 → ndR (N c) = (r : Int) → (2 : Int) * f c + ((rhS r).map e).sum ≤ e (syN r)) (c : Nat) : c < m → (2 : Int) * poW N f c ≤ ndT (N c) + e (ndM (N c)) := by
  have lst : ∀ l : List Nat, (∀ z ∈ l, (2 : Int) * poW N f z ≤ ndT (N z) + e (ndM (N z))) → (2 : Int) * (l.map (poW N f)).sum ≤ tkS N l + (l.map (fun z => e (ndM (N z)))).sum := by
    intro l
    induction l with
    | nil =>
      intro _
      show (2 : Int) * ((0 : Nat) : Int) ≤ ((0 : Nat) : Int) + 0
      omega
    | cons z l ih =>
      intro hl
      have h1 := hl z (List.mem_cons_self ..)
      have h2 := ih (fun w hw => hl w (List.mem_cons_of_mem _ hw))
      rw [List.map_cons, List.sum_cons, tkS_cons, List.map_cons, List.sum_cons]
      omega
  induction c using Nat.strongRecOn with
  | ind c ih =>
    intro hc
    rw [poW_eq h hc]
    rcases h c hc with ⟨e1, e2, e3, e4, -⟩ | ⟨r, s, hr11, -, e3, -, -, e6, e7, e8⟩
    · have hM : ndM (N c) = 5 + ndK (N c) := by
        unfold ndM
        rw [if_pos (by omega)]
      have h1 := ht c hc e1
      rw [e2, e4, hM]
      show (2 : Int) * ((f c + 0 : Nat) : Int) ≤ _
      omega
    · have hM : ndM (N c) = syN r := by
        unfold ndM
        rw [e3, if_neg (by omega)]
        rfl
      have h1 := hr c r hc hr11 e3
      have h2 := lst (ndC (N c)) (fun z hz => ih z (e7 z hz) (by have := e7 z hz; omega))
      rw [← e6, List.map_map] at h1
      have he : (List.map (e ∘ fun c => ndM (N c)) (ndC (N c))) = (ndC (N c)).map (fun z => e (ndM (N z))) := rfl
      rw [he] at h1
      rw [hM, e8]
      omega
def eNm (y : Nat) : Int := if y ≤ 1 then 0 else if y ≤ 5 then 1 else -1
def eR8 (y : Nat) : Int := if y ≤ 1 then 0 else if y ≤ 4 then 1 else -1
theorem eNm_fin : ∀ r, r < 11 → ((rhS r).map eNm).sum ≤ eNm (syN r) := by decide +kernel
theorem eR8_fin : ∀ r, r < 11 → (2 : Int) * (if r = 8 then 1 else 0) + ((rhS r).map eR8).sum ≤ eR8 (syN r) := by decide +kernel
def isNm (N : Nat → Nd) (z : Nat) : Nat := if ndR (N z) = -2 ∧ ndK (N z) = 0 then 1 else 0
def isR8 (N : Nat → Nd) (z : Nat) : Nat := if ndR (N z) = 8 then 1 else 0
theorem names_le {m R n : Nat} {og : Nat → Nat} {N : Nat → Nd} (h : NdOk m N) (t : TreeI m N R n og) : poW N (isNm N) R ≤ 49 ∧ poW N (isR8 N) R ≤ 49 := by
  have h2 := t.tk h
  have h3 := t.2.2.2.2.2.2.2
  constructor
  · have := poW_le (f := isNm N) (e := eNm) h (fun c hc hr => ?_) (fun c r hc hr11 hr => ?_) R t.1
    · rw [t.2.1] at this
      have h4 : eNm 0 = 0 := rfl
      omega
    · unfold isNm eNm
      by_cases u : ndR (N c) = -2 ∧ ndK (N c) = 0
      · rw [if_pos u, u.2]
        decide
      · rw [if_neg u, if_neg (by omega)]
        split <;> omega
    · have h5 := eNm_fin r hr11
      unfold isNm
      rw [if_neg (by omega)]
      omega
  · have := poW_le (f := isR8 N) (e := eR8) h (fun c hc hr => ?_) (fun c r hc hr11 hr => ?_) R t.1
    · rw [t.2.1] at this
      have h4 : eR8 0 = 0 := rfl
      omega
    · unfold isR8 eR8
      rw [if_neg (by omega), if_neg (by omega), if_neg (by omega)]
      omega
    · have h5 := eR8_fin r hr11
      unfold isR8
      by_cases u : r = 8
      · rw [if_pos (by omega)]
        rw [if_pos u] at h5
        omega
      · rw [if_neg (by omega)]
        rw [if_neg u] at h5
        omega
/-- the NAMES' values, in the model -/
def nmV (N : Nat → Nd) (z : Nat) : Int64 := isV (bsF (ndY (N z))) (ndK (N z), 0, (ndY (N z)).length)
def nmL (N : Nat → Nd) (R : Nat) : List Int64 := ((po N R).filter (fun z => decide (ndR (N z) = -2 ∧ ndK (N z) = 0))).map (nmV N)
theorem nm_sum {N : Nat → Nd} : ∀ {l : List Nat}, (l.filter (fun z => decide (ndR (N z) = -2 ∧ ndK (N z) = 0))).length = (l.map (isNm N)).sum
  | [] => rfl
  | z :: l => by
    rw [List.filter_cons, List.map_cons, List.sum_cons]
    unfold isNm
    by_cases u : ndR (N z) = -2 ∧ ndK (N z) = 0
    · rw [if_pos u, if_pos (decide_eq_true u), List.length_cons, nm_sum, Nat.add_comm]
      rfl
    · rw [if_neg u, if_neg (by rw [decide_eq_false u]; decide), nm_sum, Nat.zero_add]
      rfl
theorem nmL_len {m R n : Nat} {og : Nat → Nat} {N : Nat → Nd} (h : NdOk m N) (t : TreeI m N R n og) : (nmL N R).length ≤ 49 := by
  unfold nmL
  rw [List.length_map, nm_sum]
  exact (names_le h t).1
theorem nd_le {l S : List Int64} (h : l.Nodup) (hs : ∀ x ∈ l, x ∈ S) : l.length ≤ S.length := by
  induction l generalizing S with
  | nil => exact Nat.zero_le _
  | cons x l ih =>
    obtain ⟨h1, h2⟩ := List.nodup_cons.mp h
    have hx := hs x (List.mem_cons_self ..)
    have h3 := ih (S := S.erase x) h2 (fun y hy => (List.mem_erase_of_ne (fun e => h1 (by rw [← e]; exact hy))).mpr (hs y (List.mem_cons_of_mem _ hy)))
    rw [List.length_erase_of_mem hx] at h3
    have h4 := List.length_pos_of_mem hx
    rw [List.length_cons]
    omega
/-- the model's list of NAMES: unlike ones out of S -/
def NmM (I : zI) (S : List Int64) : Prop := ∃ nm : List Int64, I.1 491 55 = zi nm.length ∧ (∀ (i : Nat) (v : Int64), nm[i]? = some v → I.2 530 i = v) ∧ nm.Nodup ∧ ∀ v ∈ nm, v ∈ S
def Qna (a j : Nat) : Prop := (a = 491 ∧ j = 55) ∨ a = 530 ∨ a = 531
theorem s_nameOf {v : Int64} {S : List Int64} {I : zI} {K : Int32 → zI → Prop} (hS : S.length ≤ 49) (hv : v ∈ S) (hN : NmM I S) (hK : ∀ (r : Nat) (J : zI), r < 60 → eqQ Qna I J → NmM J S → K (zi r) J) : w_M_nameOf v I K := by
  obtain ⟨nm, n1, n2, n3, n4⟩ := id hN
  have hl := nd_le n3 n4
  intro P2 h2
  have main : ∀ (d k : Nat), k + d = nm.length → (∀ i : Nat, i < k → nm[i]? ≠ some v) → P2 (zi k) := by
    intro d
    induction d with
    | zero =>
      intro k hk hno
      refine h2 _ ?_
      have hnv : v ∉ nm := fun hm => by
        obtain ⟨i, hi⟩ := List.mem_iff_getElem?.mp hm
        exact hno i (by have := (List.getElem?_eq_some_iff.mp hi).1; omega) hi
      have hnd : (nm ++ [v]).Nodup := List.nodup_append.mpr ⟨n3, List.nodup_cons.mpr ⟨List.not_mem_nil, List.nodup_nil⟩, fun a ha b hb e => by
        cases List.mem_singleton.mp hb
        exact hnv (e ▸ ha)⟩
      have hsub : ∀ w ∈ nm ++ [v], w ∈ S := fun w hw => by
        rcases List.mem_append.mp hw with hw | hw
        · exact n4 w hw
        · cases List.mem_singleton.mp hw
          exact hv
      have hl2 := nd_le hnd hsub
      rw [List.length_append] at hl2
      change nm.length + 1 ≤ _ at hl2
      rw [n1, if_pos ((zi_le (by omega) (by omega)).mpr (by omega)), zi_tn (show nm.length < 2147483648 by omega)]
      refine ⟨(zin_iff (by omega)).mpr (by omega), fun I2 e2 => ?_⟩
      have g2 : I2.1 491 55 = zi nm.length := by rw [e2, zul_1]; exact n1
      rw [g2, zi_tn (show nm.length < 2147483648 by omega)]
      refine ⟨(zin_iff (by omega)).mpr (by omega), fun I3 e3 I4 e4 => ?_⟩
      rw [show I3.1 491 55 = zi nm.length by rw [e3, zu_oo (by decide)]; exact g2, zi_succ] at e4
      rw [show I4.1 491 55 - 1 = zi nm.length by rw [e4, zu_self]; exact zi_sub (b := 1) (by omega)]
      refine hK nm.length I4 (by omega) ?_ ⟨nm ++ [v], ?_, fun i w hi => ?_, hnd, hsub⟩
      · rw [e4, e3, e2]
        exact ((eqQ.rf.zul (Or.inr (Or.inl rfl))).zu (Or.inr (Or.inr rfl))).zu (Or.inl ⟨rfl, rfl⟩)
      · rw [e4, zu_self, List.length_append]
        rfl
      · rw [e4, zu_2, e3, zu_2, e2, zul_at]
        rcases snoc_at hi with hi | ⟨rfl, rfl⟩
        · have := (List.getElem?_eq_some_iff.mp hi).1
          rw [if_neg (by omega)]
          exact n2 i w hi
        · rw [if_pos ⟨rfl, rfl⟩]
    | succ d ih =>
      intro k hk hno
      refine h2 _ ?_
      rw [n1, if_neg (fun u => by have := (zi_le (by omega) (by omega)).mp u; omega), zi_tn (show k < 2147483648 by omega)]
      have hk2 : nm[k]? = some (nm[k]'(by omega)) := List.getElem?_eq_getElem (by omega)
      generalize nm[k]'(by omega) = w at hk2
      refine ⟨(zin_iff (by omega)).mpr (by omega), ?_⟩
      rw [n2 k w hk2]
      by_cases u : w = v
      · rw [if_pos (lg_cmp0.mpr u)]
        exact hK k I (by omega) eqQ.rf hN
      · rw [if_neg (fun x => u (lg_cmp0.mp x))]
        intro v' ev
        rw [ev, zi_succ]
        refine ih (k + 1) (by omega) (fun i hi hi2 => ?_)
        by_cases x : i = k
        · rw [x, hk2] at hi2
          exact u (Option.some.inj hi2)
        · exact hno i (by omega) hi2
  exact main nm.length 0 (by omega) (fun i hi => by omega)
theorem s_MchildOf {m c k z : Nat} {N : Nat → Nd} {I : zI} {K : Int32 → Prop} (rep : RepNM I m N) (hm : m ≤ 3700) (hc : c < m) (hch : (ndC (N c)).length ≤ 4) (hk : (ndC (N c))[k]? = some z) (hK : K (zi z)) : w_M_childOf (zi c) (zi k) I K := by
  have hkl := (List.getElem?_eq_some_iff.mp hk).1
  unfold w_M_childOf
  rw [show 4 * zi c + zi k = zi (4 * c + k) by rw [show (4 : Int32) = zi 4 from rfl, zi_mul, zi_add], zi_tn (show 4 * c + k < 2147483648 by omega)]
  refine ⟨(zin_iff (by omega)).mpr (by omega), ?_⟩
  rw [show I.1 513 (4 * c + k) = zi z from (rep.2 c hc).2.2.2.2.2.1 k z hk]
  exact hK
/-- a node by a RULE has the CHILDREN of its right side -/
theorem NdOk.child {m c r k y : Nat} {N : Nat → Nd} (h : NdOk m N) (hc : c < m) (hr : ndR (N c) = (r : Int)) (hk : (rhS r)[k]? = some y) : ∃ z, (ndC (N c))[k]? = some z ∧ ndM (N z) = y ∧ z < c := by
  rcases h c hc with ⟨e1, -⟩ | ⟨r', s, -, -, e3, -, -, e6, e7, -⟩
  · omega
  · have : r' = r := by omega
    subst this
    rw [← e6, List.getElem?_map] at hk
    cases hz : (ndC (N c))[k]? with
    | none =>
      rw [hz] at hk
      cases hk
    | some z =>
      rw [hz] at hk
      exact ⟨z, rfl, Option.some.inj hk, e7 z (List.mem_of_getElem? hz)⟩
theorem po_sub {m : Nat} {N : Nat → Nd} (h : NdOk m N) (R : Nat) : R < m → ∀ c ∈ po N R, ∀ z ∈ ndC (N c), z ∈ po N R := by
  induction R using Nat.strongRecOn with
  | ind R ih =>
    intro hR c hc z hz
    rw [po_eq h hR] at hc ⊢
    rcases List.mem_cons.mp hc with rfl | hc
    · have hzc := h.lt hR hz
      refine List.mem_cons_of_mem _ (List.mem_flatMap.mpr ⟨z, hz, ?_⟩)
      rw [po_eq h (by omega)]
      exact List.mem_cons_self ..
    · obtain ⟨w, hw, hcw⟩ := List.mem_flatMap.mp hc
      have hlt := h.lt hR hw
      exact List.mem_cons_of_mem _ (List.mem_flatMap.mpr ⟨w, hw, ih w hlt (by omega) c hcw z hz⟩)
/-- a CHILD of symbol NAME is a NAME of the TREE -/
theorem nm_child {m R n c z : Nat} {og : Nat → Nat} {N : Nat → Nd} (h : NdOk m N) (t : TreeI m N R n og) (hc : c ∈ po N R) (hz : z ∈ ndC (N c)) (hM : ndM (N z) = 5) : nmV N z ∈ nmL N R ∧ ndR (N z) = -2 := by
  have hcR := po_le h R t.1 c hc
  have hR := t.1
  have hzc := h.lt (show c < m by omega) hz
  have hzt : ndR (N z) = -2 ∧ ndK (N z) = 0 := by
    rcases h z (by omega) with ⟨f1, -⟩ | ⟨r', s', f1, -, f3, -⟩
    · unfold ndM at hM
      rw [f1, if_pos (by decide)] at hM
      exact ⟨f1, by omega⟩
    · have h1 : ndM (N z) = syN r' := by
        unfold ndM
        rw [f3, if_neg (by omega)]
        rfl
      have h5 := (sy_fin r' f1).2
      change syN r' < 5 at h5
      omega
  refine ⟨?_, hzt.1⟩
  unfold nmL
  refine List.mem_map.mpr ⟨z, List.mem_filter.mpr ⟨?_, decide_eq_true hzt⟩, rfl⟩
  exact po_sub h R t.1 c hc z hz
