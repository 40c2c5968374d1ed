/-! ===== trees: the tokens below a node, the nodes in their order, the tree laid flat ===== -/
theorem flatMap_cg {α β : Type} {f g : α → List β} : ∀ {l : List α}, (∀ x ∈ l, f x = g x) → l.flatMap f = l.flatMap g
  | [], _ => rfl
  | a :: l, h => by
    rw [List.flatMap_cons, List.flatMap_cons, h a (List.mem_cons_self ..), flatMap_cg (fun x hx => h x (List.mem_cons_of_mem _ hx))]
theorem NdOk.lt {m k c : Nat} {N : Nat → Nd} (h : NdOk m N) (hk : k < m) (hc : c ∈ ndC (N k)) : c < k := by
  rcases h k hk with ⟨-, e, -⟩ | ⟨r, s, -, -, -, -, -, -, e, -⟩
  · rw [e] at hc
    cases hc
  · exact e c hc
def ylF (N : Nat → Nd) : Nat → Nat → List Nat
  | 0, _ => []
  | d + 1, c => if ndR (N c) < 0 then [c] else (ndC (N c)).flatMap (ylF N d)
/-- the tokens' nodes below a node, from the left -/
def yl (N : Nat → Nd) (c : Nat) : List Nat := ylF N (c + 1) c
theorem ylF_cg {m : Nat} {N N' : Nat → Nd} (h : NdOk m N) (e : ∀ c, c < m → NdE (N c) (N' c)) : ∀ (d d' c : Nat), c < m → c < d → c < d' → ylF N' d' c = ylF N d c
  | 0, _, c, _, h1, _ => by omega
  | _ + 1, 0, c, _, _, h2 => by omega
  | d + 1, d' + 1, c, hc, h1, h2 => by
    show (if ndR (N' c) < 0 then [c] else (ndC (N' c)).flatMap (ylF N' d')) = (if ndR (N c) < 0 then [c] else (ndC (N c)).flatMap (ylF N d))
    obtain ⟨e1, -, -, -, e5, -⟩ := e c hc
    rw [e1, e5, flatMap_cg (fun x hx => ylF_cg h e d d' x (by have := h.lt hc hx; omega) (by have := h.lt hc hx; omega) (by have := h.lt hc hx; omega))]
theorem NdE.rf {x : Nd} : NdE x x := ⟨rfl, rfl, rfl, rfl, rfl, rfl⟩
theorem yl_cg {m c : Nat} {N N' : Nat → Nd} (h : NdOk m N) (e : ∀ c, c < m → NdE (N c) (N' c)) (hc : c < m) : yl N' c = yl N c := ylF_cg h e _ _ c hc (Nat.lt_succ_self c) (Nat.lt_succ_self c)
theorem yl_eq {m c : Nat} {N : Nat → Nd} (h : NdOk m N) (hc : c < m) : yl N c = if ndR (N c) < 0 then [c] else (ndC (N c)).flatMap (yl N) := by
  show (if ndR (N c) < 0 then [c] else (ndC (N c)).flatMap (ylF N c)) = _
  rw [flatMap_cg (fun x hx => (ylF_cg h (fun _ _ => NdE.rf) (x + 1) c x (by have := h.lt hc hx; omega) (Nat.lt_succ_self x) (h.lt hc hx)).trans rfl)]
  rfl
theorem yl_len {m : Nat} {N : Nat → Nd} (h : NdOk m N) (c : Nat) : c < m → (yl N c).length = ndT (N c) := by
  induction c using Nat.strongRecOn with
  | ind c ih =>
    intro hc
    rw [yl_eq h hc]
    rcases h c hc with ⟨e1, -, -, e4, -⟩ | ⟨r, s, -, -, e3, -, -, -, e7, e8⟩
    · rw [if_pos (by omega), e4]
      rfl
    · rw [if_neg (by omega), List.length_flatMap, e8]
      unfold tkS
      rw [List.map_congr_left (fun x hx => ih x (e7 x hx) (by have := e7 x hx; omega))]
theorem yl_mem {m : Nat} {N : Nat → Nd} (h : NdOk m N) (c : Nat) : c < m → ∀ z ∈ yl N c, z ≤ c ∧ ndR (N z) = -2 := by
  induction c using Nat.strongRecOn with
  | ind c ih =>
    intro hc z hz
    rw [yl_eq h hc] at hz
    rcases h c hc with ⟨e1, -, -, e4, -⟩ | ⟨r, s, -, -, e3, -, -, -, e7, e8⟩
    · rw [if_pos (by omega)] at hz
      cases List.mem_singleton.mp hz
      exact ⟨Nat.le_refl _, e1⟩
    · rw [if_neg (by omega)] at hz
      obtain ⟨x, hx, hzx⟩ := List.mem_flatMap.mp hz
      have hlt := e7 x hx
      obtain ⟨a, b⟩ := ih x hlt (by omega) z hzx
      exact ⟨by omega, b⟩
def poF (N : Nat → Nd) : Nat → Nat → List Nat
  | 0, _ => []
  | d + 1, c => c :: (ndC (N c)).flatMap (poF N d)
/-- the nodes below a node and itself -/
def po (N : Nat → Nd) (c : Nat) : List Nat := poF N (c + 1) c
theorem poF_cg {m : Nat} {N N' : Nat → Nd} (h : NdOk m N) (e : ∀ c, c < m → NdE (N c) (N' c)) : ∀ (d d' c : Nat), c < m → c < d → c < d' → poF N' d' c = poF N d c
  | 0, _, c, _, h1, _ => by omega
  | _ + 1, 0, c, _, _, h2 => by omega
  | d + 1, d' + 1, c, hc, h1, h2 => by
    show c :: (ndC (N' c)).flatMap (poF N' d') = c :: (ndC (N c)).flatMap (poF N d)
    obtain ⟨e1, -, -, -, e5, -⟩ := e c hc
    rw [e5, flatMap_cg (fun x hx => poF_cg h e d d' x (by have := h.lt hc hx; omega) (by have := h.lt hc hx; omega) (by have := h.lt hc hx; omega))]
theorem po_cg {m c : Nat} {N N' : Nat → Nd} (h : NdOk m N) (e : ∀ c, c < m → NdE (N c) (N' c)) (hc : c < m) : po N' c = po N c := poF_cg h e _ _ c hc (Nat.lt_succ_self c) (Nat.lt_succ_self c)
theorem po_eq {m c : Nat} {N : Nat → Nd} (h : NdOk m N) (hc : c < m) : po N c = c :: (ndC (N c)).flatMap (po N) := by
  show c :: (ndC (N c)).flatMap (poF N c) = _
  rw [flatMap_cg (fun x hx => (poF_cg h (fun _ _ => NdE.rf) (x + 1) c x (by have := h.lt hc hx; omega) (Nat.lt_succ_self x) (h.lt hc hx)).trans rfl)]
  rfl
/-- how many they are -/
def sz (N : Nat → Nd) (c : Nat) : Nat := (po N c).length
def szS (N : Nat → Nd) (l : List Nat) : Nat := (l.map (sz N)).sum
theorem sz_eq {m c : Nat} {N : Nat → Nd} (h : NdOk m N) (hc : c < m) : sz N c = 1 + szS N (ndC (N c)) := by
  unfold sz
  rw [po_eq h hc, List.length_cons, List.length_flatMap, Nat.add_comm]
  rfl
theorem szS_cons {N : Nat → Nd} {c : Nat} {l : List Nat} : szS N (c :: l) = sz N c + szS N l := by
  unfold szS
  rw [List.map_cons, List.sum_cons]
theorem tkS_cons {N : Nat → Nd} {c : Nat} {l : List Nat} : tkS N (c :: l) = ndT (N c) + tkS N l := by
  unfold tkS
  rw [List.map_cons, List.sum_cons]
/-- subtrees laid flat one behind the other: from the place p, the token t -/
def flL (f : Nat → Nat → Nat → List Fl) (N : Nat → Nd) : List Nat → Nat → Nat → List Fl
  | [], _, _ => []
  | c :: cs, p, t => f c p t ++ flL f N cs (p + sz N c) (t + ndT (N c))
def flH (N : Nat → Nd) (c q t dep : Nat) : Fl := (c, q, (if ndT (N c) = 0 then -2 else (t : Int)), dep, sz N c)
def flF (N : Nat → Nd) : Nat → Nat → Nat → Nat → Nat → Nat → List Fl
  | 0, _, _, _, _, _ => []
  | d + 1, c, q, p, t, dep => flH N c q t dep :: flL (fun c' p' t' => flF N d c' p p' t' (dep + 1)) N (ndC (N c)) (p + 1) t
/-- a node c laid flat: its parent's place, its place, its first token, its depth -/
def fl (N : Nat → Nd) (c q p t dep : Nat) : List Fl := flF N (c + 1) c q p t dep
theorem flL_cg {f g : Nat → Nat → Nat → List Fl} {N : Nat → Nd} : ∀ {l : List Nat} {p t : Nat}, (∀ c ∈ l, ∀ p t, f c p t = g c p t) → flL f N l p t = flL g N l p t
  | [], _, _, _ => rfl
  | c :: l, p, t, h => by
    show f c p t ++ _ = g c p t ++ _
    rw [h c (List.mem_cons_self ..), flL_cg (fun x hx => h x (List.mem_cons_of_mem _ hx))]
theorem flF_fu {m : Nat} {N : Nat → Nd} (h : NdOk m N) : ∀ (d d' c q p t dep : Nat), c < m → c < d → c < d' → flF N d' c q p t dep = flF N d c q p t dep
  | 0, _, c, _, _, _, _, _, h1, _ => by omega
  | _ + 1, 0, c, _, _, _, _, _, _, h2 => by omega
  | d + 1, d' + 1, c, q, p, t, dep, hc, h1, h2 => by
    show _ :: _ = _ :: _
    rw [flL_cg (fun x hx p' t' => flF_fu h d d' x p p' t' (dep + 1) (by have := h.lt hc hx; omega) (by have := h.lt hc hx; omega) (by have := h.lt hc hx; omega))]
theorem fl_eq {m c q p t dep : Nat} {N : Nat → Nd} (h : NdOk m N) (hc : c < m) : fl N c q p t dep = flH N c q t dep :: flL (fun c' p' t' => fl N c' p p' t' (dep + 1)) N (ndC (N c)) (p + 1) t := by
  show flH N c q t dep :: flL (fun c' p' t' => flF N c c' p p' t' (dep + 1)) N (ndC (N c)) (p + 1) t = _
  rw [flL_cg (fun x hx p' t' => flF_fu h (x + 1) c x p p' t' (dep + 1) (by have := h.lt hc hx; omega) (Nat.lt_succ_self x) (h.lt hc hx))]
  rfl
theorem flL_len {f : Nat → Nat → Nat → List Fl} {N : Nat → Nd} : ∀ {l : List Nat} {p t : Nat}, (∀ c ∈ l, ∀ p t, (f c p t).length = sz N c) → (flL f N l p t).length = szS N l
  | [], _, _, _ => rfl
  | c :: l, p, t, h => by
    show (f c p t ++ _).length = _
    rw [List.length_append, h c (List.mem_cons_self ..), flL_len (fun x hx => h x (List.mem_cons_of_mem _ hx)), szS_cons]
theorem fl_len {m : Nat} {N : Nat → Nd} (h : NdOk m N) (c : Nat) : c < m → ∀ q p t dep, (fl N c q p t dep).length = sz N c := by
  induction c using Nat.strongRecOn with
  | ind c ih =>
    intro hc q p t dep
    rw [fl_eq h hc, List.length_cons, flL_len (fun x hx p' t' => ih x (h.lt hc hx) (by have := h.lt hc hx; omega) _ _ _ _), sz_eq h hc, Nat.add_comm]
theorem flL_put {f : Nat → Nat → Nat → List Fl} {N : Nat → Nd} : ∀ {l : List Nat} {p t k z i : Nat}, (∀ c ∈ l, ∀ p t, (f c p t).length = sz N c) → l[k]? = some z → i < sz N z → (flL f N l p t)[szS N (l.take k) + i]? = (f z (p + szS N (l.take k)) (t + tkS N (l.take k)))[i]?
  | [], _, _, k, _, _, _, hk, _ => by
    cases hk
  | c :: l, p, t, 0, z, i, h, hk, hi => by
    cases hk
    show (f c p t ++ _)[0 + i]? = (f c (p + 0) (t + 0))[i]?
    rw [Nat.zero_add, Nat.add_zero, Nat.add_zero, List.getElem?_append_left (by rw [h c (List.mem_cons_self ..)]; exact hi)]
  | c :: l, p, t, k + 1, z, i, h, hk, hi => by
    have hl := h c (List.mem_cons_self ..) p t
    show (f c p t ++ flL f N l (p + sz N c) (t + ndT (N c)))[szS N (c :: l.take k) + i]? = (f z (p + szS N (c :: l.take k)) (t + tkS N (c :: l.take k)))[i]?
    rw [szS_cons, tkS_cons, List.getElem?_append_right (by omega), hl, show sz N c + szS N (l.take k) + i - sz N c = szS N (l.take k) + i by omega, flL_put (fun x hx => h x (List.mem_cons_of_mem _ hx)) (by rw [List.getElem?_cons_succ] at hk; exact hk) hi, Nat.add_assoc, Nat.add_assoc]
theorem flL_at {f : Nat → Nat → Nat → List Fl} {N : Nat → Nd} : ∀ {l : List Nat} {p t i : Nat} {x : Fl}, (∀ c ∈ l, ∀ p t, (f c p t).length = sz N c) → (flL f N l p t)[i]? = some x → ∃ k z i', l[k]? = some z ∧ i = szS N (l.take k) + i' ∧ i' < sz N z ∧ (f z (p + szS N (l.take k)) (t + tkS N (l.take k)))[i']? = some x
  | [], _, _, _, _, _, hx => by cases hx
  | c :: l, p, t, i, x, h, hx => by
    have hl := h c (List.mem_cons_self ..) p t
    by_cases hi : i < sz N c
    · refine ⟨0, c, i, rfl, ?_, hi, ?_⟩
      · show i = 0 + i
        omega
      · have hx' : (f c p t ++ flL f N l (p + sz N c) (t + ndT (N c)))[i]? = some x := hx
        rw [List.getElem?_append_left (by omega)] at hx'
        exact hx'
    · have hx' : (f c p t ++ flL f N l (p + sz N c) (t + ndT (N c)))[i]? = some x := hx
      rw [List.getElem?_append_right (by omega), hl] at hx'
      obtain ⟨k, z, i', e1, e2, e3, e4⟩ := flL_at (fun x hx => h x (List.mem_cons_of_mem _ hx)) hx'
      refine ⟨k + 1, z, i', by rw [List.getElem?_cons_succ]; exact e1, ?_, e3, ?_⟩
      · rw [List.take_succ_cons, szS_cons]
        omega
      · rw [List.take_succ_cons, szS_cons, tkS_cons, ← Nat.add_assoc, ← Nat.add_assoc]
        exact e4
/-- where the nodes are: the first is c itself, the others lie in the subtrees of its CHILDREN -/
theorem fl_at {m c q p t dep i : Nat} {N : Nat → Nd} {x : Fl} (h : NdOk m N) (hc : c < m) (hx : (fl N c q p t dep)[i]? = some x) : (i = 0 ∧ x = flH N c q t dep) ∨ ∃ k z i', (ndC (N c))[k]? = some z ∧ i = 1 + szS N ((ndC (N c)).take k) + i' ∧ i' < sz N z ∧ (fl N z p (p + 1 + szS N ((ndC (N c)).take k)) (t + tkS N ((ndC (N c)).take k)) (dep + 1))[i']? = some x := by
  rw [fl_eq h hc] at hx
  cases i with
  | zero =>
    cases hx
    exact Or.inl ⟨rfl, rfl⟩
  | succ i =>
    rw [List.getElem?_cons_succ] at hx
    obtain ⟨k, z, i', e1, e2, e3, e4⟩ := flL_at (fun z hz p' t' => fl_len h z (by have := h.lt hc hz; omega) _ _ _ _) hx
    exact Or.inr ⟨k, z, i', e1, by omega, e3, e4⟩
theorem fl_put {m c q p t dep k z i : Nat} {N : Nat → Nd} (h : NdOk m N) (hc : c < m) (hk : (ndC (N c))[k]? = some z) (hi : i < sz N z) : (fl N c q p t dep)[1 + szS N ((ndC (N c)).take k) + i]? = (fl N z p (p + 1 + szS N ((ndC (N c)).take k)) (t + tkS N ((ndC (N c)).take k)) (dep + 1))[i]? := by
  rw [fl_eq h hc, show 1 + szS N ((ndC (N c)).take k) + i = szS N ((ndC (N c)).take k) + i + 1 by omega, List.getElem?_cons_succ]
  exact flL_put (fun z hz p' t' => fl_len h z (by have := h.lt hc hz; omega) _ _ _ _) hk hi
theorem fl_0 {m c q p t dep : Nat} {N : Nat → Nd} (h : NdOk m N) (hc : c < m) : (fl N c q p t dep)[0]? = some (flH N c q t dep) := by
  rw [fl_eq h hc]
  rfl
theorem sz_pos {m c : Nat} {N : Nat → Nd} (h : NdOk m N) (hc : c < m) : 1 ≤ sz N c := by
  rw [sz_eq h hc]
  omega
theorem szS_take {N : Nat → Nd} : ∀ {l : List Nat} {k z : Nat}, l[k]? = some z → szS N (l.take k) + sz N z ≤ szS N l
  | [], k, _, hk => by cases hk
  | c :: l, 0, z, hk => by
    cases hk
    rw [List.take_zero, szS_cons]
    show 0 + _ ≤ _
    omega
  | c :: l, k + 1, z, hk => by
    rw [List.getElem?_cons_succ] at hk
    rw [List.take_succ_cons, szS_cons, szS_cons]
    have := szS_take (N := N) hk
    omega
theorem tkS_take {N : Nat → Nd} : ∀ {l : List Nat} {k z : Nat}, l[k]? = some z → tkS N (l.take k) + ndT (N z) ≤ tkS N l
  | [], k, _, hk => by cases hk
  | c :: l, 0, z, hk => by
    cases hk
    rw [List.take_zero, tkS_cons]
    show 0 + _ ≤ _
    omega
  | c :: l, k + 1, z, hk => by
    rw [List.getElem?_cons_succ] at hk
    rw [List.take_succ_cons, tkS_cons, tkS_cons]
    have := tkS_take (N := N) hk
    omega
