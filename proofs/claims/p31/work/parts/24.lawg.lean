theorem zlw_in {w : Cond} (h : w ∈ zTb) : w ∈ lw_tbl := (List.mem_filter.mp h).1
theorem zlw_ao : Cond.arrayOver (.object "RegrowDesk$Moment") ∈ lw_tbl := List.mem_of_getElem? (i := 143) (by decide +kernel)
theorem zlw_ls_LEADS : Cond.laysStatic "RegrowDesk" "LEADS" "[I" ∈ lw_tbl := List.mem_of_getElem? (i := 959) (by decide +kernel)
theorem zlw_ls_STATE_RULE : Cond.laysStatic "RegrowDesk" "STATE_RULE" "[I" ∈ lw_tbl := List.mem_of_getElem? (i := 976) (by decide +kernel)
theorem zlw_ls_RULE_SYMBOL : Cond.laysStatic "RegrowDesk" "RULE_SYMBOL" "[I" ∈ lw_tbl := List.mem_of_getElem? (i := 602) (by decide +kernel)
theorem zlw_ls_FOLLOWERS : Cond.laysStatic "RegrowDesk" "FOLLOWERS" "[I" ∈ lw_tbl := List.mem_of_getElem? (i := 1132) (by decide +kernel)
theorem zlw_ls_RULE_LENGTH : Cond.laysStatic "RegrowDesk" "RULE_LENGTH" "[I" ∈ lw_tbl := List.mem_of_getElem? (i := 705) (by decide +kernel)
theorem zlw_a_LEADS : Cond.arrayOf (Term.static "RegrowDesk" "LEADS" "[I") .int ∈ flatC (Cond.and given_1 narrow_1) := List.mem_of_getElem? (i := 33) (by decide +kernel)
theorem zlw_l_LEADS : Cond.eq (Term.length (Term.static "RegrowDesk" "LEADS" "[I")) (Term.int 357) ∈ flatC (Cond.and given_1 narrow_1) := List.mem_of_getElem? (i := 34) (by decide +kernel)
set_option maxRecDepth 100000 in
theorem zlw_f_LEADS : ((flatC (Cond.and given_1 narrow_1)).drop 35).take 357 = (List.range 357).map (fun j => Cond.eq (Term.elem (Term.static "RegrowDesk" "LEADS" "[I") (Term.int (Int32.ofNat j))) (Term.int (zst_LEADS.getD j 0))) := by decide +kernel
theorem zlw_e_LEADS (j : Nat) (hj : j < 357) : Cond.eq (Term.elem (Term.static "RegrowDesk" "LEADS" "[I") (Term.int (Int32.ofNat j))) (Term.int (zst_LEADS.getD j 0)) ∈ flatC (Cond.and given_1 narrow_1) := List.mem_of_mem_drop (List.mem_of_mem_take (zlw_f_LEADS ▸ List.mem_map.mpr ⟨j, List.mem_range.mpr hj, rfl⟩))
set_option maxRecDepth 100000 in
theorem zlw_LEADS {args : Array Value} {s : State} (hs : ∀ c ∈ flatC (Cond.and given_1 narrow_1), c.before args s = true) (ht : ∀ w ∈ lw_tbl, w.before args s = true) : ∃ t : Nat, va_Z "RegrowDesk" "LEADS" "[I" (.ref t) (fun a => s.heap.size ≤ a) s s.heap ∧ va_T .int t zst_LEADS.length (fun j => .int (zst_LEADS.getD j 0)) (fun a => s.heap.size ≤ a) s s.heap := by
  obtain ⟨t, h1, h2⟩ := va_Tof (tm := (Term.static "RegrowDesk" "LEADS" "[I")) (ty := .int) (N := 357) (f := fun j => .int (zst_LEADS.getD j 0)) (A := fun a => s.heap.size ≤ a) (by decide) (hs _ zlw_a_LEADS) (va_eqt (hs _ zlw_l_LEADS)) (fun j hj => va_eqt (hs _ (zlw_e_LEADS j hj))) (fun a h => Nat.not_le.mpr h)
  exact ⟨t, va_Zof (ht _ zlw_ls_LEADS) (ht _ (zlw_in zk_in_11)) h1 (fun a h => Nat.not_le.mpr h), h2⟩
theorem zlw_a_STATE_RULE : Cond.arrayOf (Term.static "RegrowDesk" "STATE_RULE" "[I") .int ∈ flatC (Cond.and given_1 narrow_1) := List.mem_of_getElem? (i := 393) (by decide +kernel)
theorem zlw_l_STATE_RULE : Cond.eq (Term.length (Term.static "RegrowDesk" "STATE_RULE" "[I")) (Term.int 21) ∈ flatC (Cond.and given_1 narrow_1) := List.mem_of_getElem? (i := 394) (by decide +kernel)
set_option maxRecDepth 100000 in
theorem zlw_f_STATE_RULE : ((flatC (Cond.and given_1 narrow_1)).drop 395).take 21 = (List.range 21).map (fun j => Cond.eq (Term.elem (Term.static "RegrowDesk" "STATE_RULE" "[I") (Term.int (Int32.ofNat j))) (Term.int (zst_STATE_RULE.getD j 0))) := by decide +kernel
theorem zlw_e_STATE_RULE (j : Nat) (hj : j < 21) : Cond.eq (Term.elem (Term.static "RegrowDesk" "STATE_RULE" "[I") (Term.int (Int32.ofNat j))) (Term.int (zst_STATE_RULE.getD j 0)) ∈ flatC (Cond.and given_1 narrow_1) := List.mem_of_mem_drop (List.mem_of_mem_take (zlw_f_STATE_RULE ▸ List.mem_map.mpr ⟨j, List.mem_range.mpr hj, rfl⟩))
set_option maxRecDepth 100000 in
theorem zlw_STATE_RULE {args : Array Value} {s : State} (hs : ∀ c ∈ flatC (Cond.and given_1 narrow_1), c.before args s = true) (ht : ∀ w ∈ lw_tbl, w.before args s = true) : ∃ t : Nat, va_Z "RegrowDesk" "STATE_RULE" "[I" (.ref t) (fun a => s.heap.size ≤ a) s s.heap ∧ va_T .int t zst_STATE_RULE.length (fun j => .int (zst_STATE_RULE.getD j 0)) (fun a => s.heap.size ≤ a) s s.heap := by
  obtain ⟨t, h1, h2⟩ := va_Tof (tm := (Term.static "RegrowDesk" "STATE_RULE" "[I")) (ty := .int) (N := 21) (f := fun j => .int (zst_STATE_RULE.getD j 0)) (A := fun a => s.heap.size ≤ a) (by decide) (hs _ zlw_a_STATE_RULE) (va_eqt (hs _ zlw_l_STATE_RULE)) (fun j hj => va_eqt (hs _ (zlw_e_STATE_RULE j hj))) (fun a h => Nat.not_le.mpr h)
  exact ⟨t, va_Zof (ht _ zlw_ls_STATE_RULE) (ht _ (zlw_in zk_in_11)) h1 (fun a h => Nat.not_le.mpr h), h2⟩
theorem zlw_a_RULE_SYMBOL : Cond.arrayOf (Term.static "RegrowDesk" "RULE_SYMBOL" "[I") .int ∈ flatC (Cond.and given_1 narrow_1) := List.mem_of_getElem? (i := 5) (by decide +kernel)
theorem zlw_l_RULE_SYMBOL : Cond.eq (Term.length (Term.static "RegrowDesk" "RULE_SYMBOL" "[I")) (Term.int 11) ∈ flatC (Cond.and given_1 narrow_1) := List.mem_of_getElem? (i := 6) (by decide +kernel)
set_option maxRecDepth 100000 in
theorem zlw_f_RULE_SYMBOL : ((flatC (Cond.and given_1 narrow_1)).drop 7).take 11 = (List.range 11).map (fun j => Cond.eq (Term.elem (Term.static "RegrowDesk" "RULE_SYMBOL" "[I") (Term.int (Int32.ofNat j))) (Term.int (zst_RULE_SYMBOL.getD j 0))) := by decide +kernel
theorem zlw_e_RULE_SYMBOL (j : Nat) (hj : j < 11) : Cond.eq (Term.elem (Term.static "RegrowDesk" "RULE_SYMBOL" "[I") (Term.int (Int32.ofNat j))) (Term.int (zst_RULE_SYMBOL.getD j 0)) ∈ flatC (Cond.and given_1 narrow_1) := List.mem_of_mem_drop (List.mem_of_mem_take (zlw_f_RULE_SYMBOL ▸ List.mem_map.mpr ⟨j, List.mem_range.mpr hj, rfl⟩))
set_option maxRecDepth 100000 in
theorem zlw_RULE_SYMBOL {args : Array Value} {s : State} (hs : ∀ c ∈ flatC (Cond.and given_1 narrow_1), c.before args s = true) (ht : ∀ w ∈ lw_tbl, w.before args s = true) : ∃ t : Nat, va_Z "RegrowDesk" "RULE_SYMBOL" "[I" (.ref t) (fun a => s.heap.size ≤ a) s s.heap ∧ va_T .int t zst_RULE_SYMBOL.length (fun j => .int (zst_RULE_SYMBOL.getD j 0)) (fun a => s.heap.size ≤ a) s s.heap := by
  obtain ⟨t, h1, h2⟩ := va_Tof (tm := (Term.static "RegrowDesk" "RULE_SYMBOL" "[I")) (ty := .int) (N := 11) (f := fun j => .int (zst_RULE_SYMBOL.getD j 0)) (A := fun a => s.heap.size ≤ a) (by decide) (hs _ zlw_a_RULE_SYMBOL) (va_eqt (hs _ zlw_l_RULE_SYMBOL)) (fun j hj => va_eqt (hs _ (zlw_e_RULE_SYMBOL j hj))) (fun a h => Nat.not_le.mpr h)
  exact ⟨t, va_Zof (ht _ zlw_ls_RULE_SYMBOL) (ht _ (zlw_in zk_in_11)) h1 (fun a h => Nat.not_le.mpr h), h2⟩
theorem zlw_a_FOLLOWERS : Cond.arrayOf (Term.static "RegrowDesk" "FOLLOWERS" "[I") .int ∈ flatC (Cond.and given_1 narrow_1) := List.mem_of_getElem? (i := 417) (by decide +kernel)
theorem zlw_l_FOLLOWERS : Cond.eq (Term.length (Term.static "RegrowDesk" "FOLLOWERS" "[I")) (Term.int 13) ∈ flatC (Cond.and given_1 narrow_1) := List.mem_of_getElem? (i := 418) (by decide +kernel)
set_option maxRecDepth 100000 in
theorem zlw_f_FOLLOWERS : ((flatC (Cond.and given_1 narrow_1)).drop 419).take 13 = (List.range 13).map (fun j => Cond.eq (Term.elem (Term.static "RegrowDesk" "FOLLOWERS" "[I") (Term.int (Int32.ofNat j))) (Term.int (zst_FOLLOWERS.getD j 0))) := by decide +kernel
theorem zlw_e_FOLLOWERS (j : Nat) (hj : j < 13) : Cond.eq (Term.elem (Term.static "RegrowDesk" "FOLLOWERS" "[I") (Term.int (Int32.ofNat j))) (Term.int (zst_FOLLOWERS.getD j 0)) ∈ flatC (Cond.and given_1 narrow_1) := List.mem_of_mem_drop (List.mem_of_mem_take (zlw_f_FOLLOWERS ▸ List.mem_map.mpr ⟨j, List.mem_range.mpr hj, rfl⟩))
set_option maxRecDepth 100000 in
theorem zlw_FOLLOWERS {args : Array Value} {s : State} (hs : ∀ c ∈ flatC (Cond.and given_1 narrow_1), c.before args s = true) (ht : ∀ w ∈ lw_tbl, w.before args s = true) : ∃ t : Nat, va_Z "RegrowDesk" "FOLLOWERS" "[I" (.ref t) (fun a => s.heap.size ≤ a) s s.heap ∧ va_T .int t zst_FOLLOWERS.length (fun j => .int (zst_FOLLOWERS.getD j 0)) (fun a => s.heap.size ≤ a) s s.heap := by
  obtain ⟨t, h1, h2⟩ := va_Tof (tm := (Term.static "RegrowDesk" "FOLLOWERS" "[I")) (ty := .int) (N := 13) (f := fun j => .int (zst_FOLLOWERS.getD j 0)) (A := fun a => s.heap.size ≤ a) (by decide) (hs _ zlw_a_FOLLOWERS) (va_eqt (hs _ zlw_l_FOLLOWERS)) (fun j hj => va_eqt (hs _ (zlw_e_FOLLOWERS j hj))) (fun a h => Nat.not_le.mpr h)
  exact ⟨t, va_Zof (ht _ zlw_ls_FOLLOWERS) (ht _ (zlw_in zk_in_11)) h1 (fun a h => Nat.not_le.mpr h), h2⟩
theorem zlw_a_RULE_LENGTH : Cond.arrayOf (Term.static "RegrowDesk" "RULE_LENGTH" "[I") .int ∈ flatC (Cond.and given_1 narrow_1) := List.mem_of_getElem? (i := 19) (by decide +kernel)
theorem zlw_l_RULE_LENGTH : Cond.eq (Term.length (Term.static "RegrowDesk" "RULE_LENGTH" "[I")) (Term.int 11) ∈ flatC (Cond.and given_1 narrow_1) := List.mem_of_getElem? (i := 20) (by decide +kernel)
set_option maxRecDepth 100000 in
theorem zlw_f_RULE_LENGTH : ((flatC (Cond.and given_1 narrow_1)).drop 21).take 11 = (List.range 11).map (fun j => Cond.eq (Term.elem (Term.static "RegrowDesk" "RULE_LENGTH" "[I") (Term.int (Int32.ofNat j))) (Term.int (zst_RULE_LENGTH.getD j 0))) := by decide +kernel
theorem zlw_e_RULE_LENGTH (j : Nat) (hj : j < 11) : Cond.eq (Term.elem (Term.static "RegrowDesk" "RULE_LENGTH" "[I") (Term.int (Int32.ofNat j))) (Term.int (zst_RULE_LENGTH.getD j 0)) ∈ flatC (Cond.and given_1 narrow_1) := List.mem_of_mem_drop (List.mem_of_mem_take (zlw_f_RULE_LENGTH ▸ List.mem_map.mpr ⟨j, List.mem_range.mpr hj, rfl⟩))
set_option maxRecDepth 100000 in
theorem zlw_RULE_LENGTH {args : Array Value} {s : State} (hs : ∀ c ∈ flatC (Cond.and given_1 narrow_1), c.before args s = true) (ht : ∀ w ∈ lw_tbl, w.before args s = true) : ∃ t : Nat, va_Z "RegrowDesk" "RULE_LENGTH" "[I" (.ref t) (fun a => s.heap.size ≤ a) s s.heap ∧ va_T .int t zst_RULE_LENGTH.length (fun j => .int (zst_RULE_LENGTH.getD j 0)) (fun a => s.heap.size ≤ a) s s.heap := by
  obtain ⟨t, h1, h2⟩ := va_Tof (tm := (Term.static "RegrowDesk" "RULE_LENGTH" "[I")) (ty := .int) (N := 11) (f := fun j => .int (zst_RULE_LENGTH.getD j 0)) (A := fun a => s.heap.size ≤ a) (by decide) (hs _ zlw_a_RULE_LENGTH) (va_eqt (hs _ zlw_l_RULE_LENGTH)) (fun j hj => va_eqt (hs _ (zlw_e_RULE_LENGTH j hj))) (fun a h => Nat.not_le.mpr h)
  exact ⟨t, va_Zof (ht _ zlw_ls_RULE_LENGTH) (ht _ (zlw_in zk_in_11)) h1 (fun a h => Nat.not_le.mpr h), h2⟩
theorem zl_all {p : Program} {e : Env} {s : State} {m : MethodId} {below : List Frame} {meth : Method} {c : Code} (l : Launch) {b L : Nat} {xs : Nat → Int32} (C0 : lw_At p s m meth c b L xs) (h : w_law L xs) : W p l e room_1 s m #[Value.ref b] below meth c s.heap [] 0 0 (lw_Z below #[Value.ref b] s) (entryFrame m ([Value.ref b] : List Value).toArray 4) := by
  obtain ⟨hx, hb, hr, hml, hown, ht, hX, hbl, hlocks, hgv⟩ := C0
  have hs := flat_of_before _ hgv
  have hW : ∀ w ∈ zTb, w.before #[Value.ref b] s = true := fun w hw => ht w (zlw_in hw)
  obtain ⟨t0, z0⟩ := zlw_LEADS hs ht
  obtain ⟨t1, z1⟩ := zlw_STATE_RULE hs ht
  obtain ⟨t2, z2⟩ := zlw_RULE_SYMBOL hs ht
  obtain ⟨t3, z3⟩ := zlw_FOLLOWERS hs ht
  obtain ⟨t4, z4⟩ := zlw_RULE_LENGTH hs ht
  have hkn : ∀ k : Nat, ∃ q : ClassId × (Nat → Nat), ∀ r : vw_C, classes[k]? = some r → u_Kn s r.1 r.2.1 r.2.2 q.1 q.2 := by
    intro k
    match k with
    | 0 =>
      obtain ⟨cC, iS, hk⟩ := u_known hW zin_0 (hW _ zk_ia_0)
      exact ⟨(cC, iS), fun r hr => by cases hr; exact hk⟩
    | 1 =>
      obtain ⟨cC, iS, hk⟩ := u_known hW zin_1 (hW _ zk_ia_1)
      exact ⟨(cC, iS), fun r hr => by cases hr; exact hk⟩
    | 2 =>
      obtain ⟨cC, iS, hk⟩ := u_known hW zin_2 (hW _ zk_ia_2)
      exact ⟨(cC, iS), fun r hr => by cases hr; exact hk⟩
    | 3 =>
      obtain ⟨cC, iS, hk⟩ := u_known hW zin_3 (hW _ zk_ia_3)
      exact ⟨(cC, iS), fun r hr => by cases hr; exact hk⟩
    | 4 =>
      obtain ⟨cC, iS, hk⟩ := u_known hW zin_4 (hW _ zk_ia_4)
      exact ⟨(cC, iS), fun r hr => by cases hr; exact hk⟩
    | 5 =>
      obtain ⟨cC, iS, hk⟩ := u_known hW zin_5 (hW _ zk_ia_5)
      exact ⟨(cC, iS), fun r hr => by cases hr; exact hk⟩
    | 6 =>
      obtain ⟨cC, iS, hk⟩ := u_known hW zin_6 (hW _ zk_ia_6)
      exact ⟨(cC, iS), fun r hr => by cases hr; exact hk⟩
    | 7 =>
      obtain ⟨cC, iS, hk⟩ := u_known hW zin_7 (hW _ zk_ia_7)
      exact ⟨(cC, iS), fun r hr => by cases hr; exact hk⟩
    | 8 =>
      obtain ⟨cC, iS, hk⟩ := u_known hW zin_8 (hW _ zk_ia_8)
      exact ⟨(cC, iS), fun r hr => by cases hr; exact hk⟩
    | 9 =>
      obtain ⟨cC, iS, hk⟩ := u_known hW zin_9 (hW _ zk_ia_9)
      exact ⟨(cC, iS), fun r hr => by cases hr; exact hk⟩
    | 10 =>
      obtain ⟨cC, iS, hk⟩ := u_known hW zin_10 (hW _ zk_ia_10)
      exact ⟨(cC, iS), fun r hr => by cases hr; exact hk⟩
    | 11 =>
      obtain ⟨cC, iS, hk⟩ := u_known hW zin_11 (hW _ zk_ia_11)
      exact ⟨(cC, iS), fun r hr => by cases hr; exact hk⟩
    | 12 =>
      obtain ⟨cC, iS, hk⟩ := u_known hW zin_12 (hW _ zk_ia_12)
      exact ⟨(cC, iS), fun r hr => by cases hr; exact hk⟩
    | k + 13 => exact ⟨(0, fun _ => 0), fun r hr => by cases hr⟩
  obtain ⟨f, hf⟩ := Classical.axiomOfChoice hkn
  obtain ⟨cI, kI, oI, i1, i2, i3⟩ := Cond.arrayClass_spec (hW _ zk_ac_int)
  obtain ⟨cJ, kJ, oJ, j1, j2, j3⟩ := Cond.arrayClass_spec (hW _ zk_ac_long)
  obtain ⟨om, cM, kM, m1, -, m3, m4, m5⟩ := Cond.arrayOver_spec (ht _ zlw_ao)
  have hC : zCx p s m #[Value.ref b] meth c cL_law 4 RL ret ((fun k => (f k).1, fun k => (f k).2)) s.heap.size (fun i => match i with | 0 => cI | 1 => cJ | _ => cM) (fun i => match i with | 0 => t0 | 1 => t1 | 2 => t2 | 3 => t3 | 4 => t4 | _ => 0) := by
    refine ⟨hx, hb, hml, hown, hW, hr, hlocks, ⟨fun k q hq => hf k q hq, fun k q hq => ?_⟩, fun i q hq => ?_, Nat.le_refl _, fun q hq => va_Nw.of rfl (ht _ (zNs_tbl q hq)), va_AO.of (ht _ zlw_ao)⟩
    · match k with
      | 0 => cases hq; exact ⟨fun n z => ⟨fun k h => (by cases h), kI, i2, oI, i3⟩, i1⟩
      | 1 => cases hq; exact ⟨fun n z => ⟨fun k h => (by cases h), kJ, j2, oJ, j3⟩, j1⟩
      | 2 => cases hq; exact ⟨fun n z => ⟨fun k h => (by cases h), kM, m3, om, m4⟩, kM, om, m3, m4, m1, m5⟩
      | k + 3 => cases hq
    · match i with
      | 0 => cases hq; exact z0
      | 1 => cases hq; exact z1
      | 2 => cases hq; exact z2
      | 3 => cases hq; exact z3
      | 4 => cases hq; exact z4
      | i + 5 => cases hq
  have h0 := zl_start (l := l) (e := e) (below := below) hC hX hbl (Nat.not_le.mpr hbl) h
  have hl := lv_entry ([.ref b]) (n := 4) (Nat.le_of_ble_eq_true rfl)
  rw [lg_entry_eq]
  exact h0 s.heap [] _ (fun k q hq => by cases hq) rfl va_S.rf hl
