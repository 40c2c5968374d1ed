def z00 : zI := (fun _ _ => 0, fun _ _ => 0)
def w_law44 : Prop := w_Desk_init z00 (fun I1 => zZ I1 491 ∧ w_law_39 492 123129 zSx I1)
set_option maxHeartbeats 4000000 in
set_option maxRecDepth 20000 in
theorem zl_desk {p : Program} {l : Launch} {e : Env} {s : State} {m : MethodId} {below : List Frame} {meth : Method} {c : Code} {D : va_G} {cA : Nat → ClassId} {ad : Nat → Nat} {b : Nat} (C : zCx p s m #[Value.ref b] meth c cL_law 25 RL ret D (s.heap.size + 1) cA ad) (h : w_law44) : zX p l e room_1 s m #[Value.ref b] below meth c (lw_Z below #[Value.ref b] s) D (s.heap.size + 1) cA 25 1 44 [] z00 [(1, .ref s.heap.size), (0, .ref b)] [] 31 := by
  have hz : zZ z00 0 := fun a _ => ⟨fun _ => rfl, fun _ => rfl⟩
  refine za_new C (ci := 11) (fs := [some none, none, some none, some none, none, none, none, none, some none, some none, some none, some none, some none, some none, some none, some none, some none, some none, none]) rfl zin_11 tyX11 tyX11_ok zk_cl_L_8 zk_ia_11 zk_in_11 zdf_11 (hz.up (Nat.zero_le _)) (Nat.le_of_ble_eq_true rfl) (Nat.le_of_ble_eq_true rfl) dyL_law_31 ?_
  refine zr_dup C dyL_law_34 rfl ?_
  refine zl_callD C (st := [.ref (s.heap.size + 1 + ([] : List zC).length)]) (ci_Desk [] rfl (hz.up (Nat.zero_le _)) h) (zgM zk_cd_yX11_init) zk_ml_L_81 zk_im_yX11_init zk_in_11 rfl rfl rfl zsg_yX11_init ⟨Nat.le_of_ble_eq_true rfl, Nat.le_of_ble_eq_true rfl⟩ rfl rfl (Nat.le_of_ble_eq_true rfl) dyL_law_35 ⟨Nat.le_of_ble_eq_true rfl, Nat.le_of_ble_eq_true rfl⟩ (fun I1 h => ?_)
  obtain ⟨hz1, h⟩ := h
  refine zr_astore_n C dyL_law_38 rfl (Nat.le_of_ble_eq_true rfl) (lv2 := [(2, .ref (s.heap.size + 1 + 0)), (1, .ref s.heap.size), (0, .ref b)]) rfl ?_
  exact zl_law_39 C rfl (S0 := zSx) ⟨zOkX_self, ⟨[], (List.append_nil _).symm⟩, Nat.le_of_ble_eq_true rfl, Nat.le_of_ble_eq_true rfl⟩ h
set_option maxHeartbeats 4000000 in
theorem zl_fill {p : Program} {l : Launch} {e : Env} {s : State} {m : MethodId} {below : List Frame} {meth : Method} {c : Code} {D : va_G} {cA : Nat → ClassId} {ad : Nat → Nat} {b L : Nat} {xs : Nat → Int32} (C : zCx p s m #[Value.ref b] meth c cL_law 25 RL ret D (s.heap.size) cA ad) (hX : va_X b L xs s s.heap) (hbl : b < s.heap.size) (hbA : ¬ s.heap.size ≤ b) (hL : L ≤ 260) (kk : ∀ I : zI, zX p l e room_1 s m #[Value.ref b] below meth c (lw_Z below #[Value.ref b] s) D (s.heap.size) cA 25 1 44 [.inr (.inl (0, 44))] I [(1, .ref (s.heap.size + 0)), (0, .ref b)] [] 31) : ∀ (d n : Nat), d + n = 44 → ∀ I : zI, zX p l e room_1 s m #[Value.ref b] below meth c (lw_Z below #[Value.ref b] s) D (s.heap.size) cA 25 1 44 [.inr (.inl (0, 44))] I [(2, .int (zi n)), (1, .ref (s.heap.size + 0)), (0, .ref b)] [] 7 := by
  intro d
  induction d with
  | zero =>
    intro n hn I
    refine zr_iload_n C dyL_law_7 rfl 0 rfl ?_
    refine zr_bipush C dyL_law_8 zc_b_44 ?_
    refine zr_icmp_ge C dyL_law_10 (tgt := 31) (by decide) (fun _ => ?_) (fun hc => ?_)
    · refine zr_sub (lv2 := [(1, .ref (s.heap.size + 0)), (0, .ref b)]) [1, 2] rfl ?_
      exact kk I
    · exact absurd (show (44 : Int32) ≤ zi n by rw [show n = 44 by omega]; decide) hc
  | succ d ih =>
    intro n hn I
    refine zr_iload_n C dyL_law_7 rfl 0 rfl ?_
    refine zr_bipush C dyL_law_8 zc_b_44 ?_
    refine zr_icmp_ge C dyL_law_10 (tgt := 31) (by decide) (fun _ => ?_) (fun hc => ?_)
    · refine zr_sub (lv2 := [(1, .ref (s.heap.size + 0)), (0, .ref b)]) [1, 2] rfl ?_
      exact kk I
    · refine zr_iload_n C dyL_law_13 rfl 0 rfl ?_
      refine zr_aload_n C dyL_law_14 rfl 2 rfl ?_
      refine zr_slen C hX hbl hbA dyL_law_15 ?_
      refine zr_icmp_ge C dyL_law_16 (tgt := 31) (by decide) (fun _ => ?_) (fun hc2 => ?_)
      · refine zr_sub (lv2 := [(1, .ref (s.heap.size + 0)), (0, .ref b)]) [1, 2] rfl ?_
        exact kk I
      · have hnL : n < L := by
          rcases Nat.lt_or_ge n L with u | u
          · exact u
          · exact absurd (show zi L ≤ zi n from (zi_le (by omega) (by omega)).mpr u) hc2
        have tn : (zi n).toNatClampNeg = n := zi_tn (by omega)
        have n0 : ¬ zi n < 0 := Int32.not_lt.mpr ((zi_le (a := 0) (by decide) (by omega)).mpr (Nat.zero_le _))
        refine zr_aload_n C dyL_law_19 rfl 1 rfl ?_
        refine zr_iload_n C dyL_law_20 rfl 0 rfl ?_
        refine zr_aload_n C dyL_law_21 rfl 2 rfl ?_
        refine zr_iload_n C dyL_law_22 rfl 0 rfl ?_
        refine zr_sld C hX hbl hbA (by unfold vp_in; rw [tn]; rintro (u | u); exact n0 u; omega) dyL_law_23 ?_
        refine zr_iast C (k := 0) (n := 44) rfl (by unfold vp_in; rw [tn]; rintro (u | u); exact n0 u; omega) dyL_law_24 ?_
        refine zr_iinc C (lv2 := [(2, .int (zi (n + 1))), (1, .ref (s.heap.size + 0)), (0, .ref b)]) dyL_law_25 0 rfl (by rw [show Int32.ofInt 1 = zi 1 by decide, zi_add]) (Nat.le_of_ble_eq_true rfl) rfl ?_
        refine zr_goto C dyL_law_28 (tgt := 7) (by decide) ?_
        exact ih (n + 1) (by omega) _
set_option maxHeartbeats 4000000 in
theorem zl_start {p : Program} {l : Launch} {e : Env} {s : State} {m : MethodId} {below : List Frame} {meth : Method} {c : Code} {D : va_G} {cA : Nat → ClassId} {ad : Nat → Nat} {b L : Nat} {xs : Nat → Int32} (C : zCx p s m #[Value.ref b] meth c cL_law 25 RL ret D (s.heap.size) cA ad) (C1 : zCx p s m #[Value.ref b] meth c cL_law 25 RL ret D (s.heap.size + 1) cA ad) (hX : va_X b L xs s s.heap) (hbl : b < s.heap.size) (hL : L ≤ 260) (h : w_law44) : zX p l e room_1 s m #[Value.ref b] below meth c (lw_Z below #[Value.ref b] s) D (s.heap.size) cA 25 0 0 [] z00 [(0, .ref b)] [] 0 := by
  have hz : zZ z00 0 := fun a _ => ⟨fun _ => rfl, fun _ => rfl⟩
  refine zr_bipush C dyL_law_0 zc_b_44 ?_
  refine za_newa C (N := 44) zk_ac_int (by decide) rfl (Nat.le_of_ble_eq_true rfl) (hz.up (Nat.zero_le _)) (Nat.le_of_ble_eq_true rfl) (Nat.le_of_ble_eq_true rfl) dyL_law_2 ?_
  refine zr_astore_n C dyL_law_4 rfl (Nat.le_of_ble_eq_true rfl) (lv2 := [(1, .ref (s.heap.size + 0)), (0, .ref b)]) rfl ?_
  refine zr_iconst C dyL_law_5 zc_i_0 ?_
  refine zr_istore_n C dyL_law_6 rfl (Nat.le_of_ble_eq_true rfl) (lv2 := [(2, .int (zi 0)), (1, .ref (s.heap.size + 0)), (0, .ref b)]) rfl ?_
  exact zl_fill C hX hbl (Nat.not_le.mpr hbl) hL (fun I => zr_over _ (zl_desk C1 h)) 44 0 rfl _
theorem zlw_in {w : Cond} (h : w ∈ zTb) : w ∈ lw_tbl := (List.mem_filter.mp h).1
theorem zlw_ao : Cond.arrayOver (.object "RegrowDesk$Moment") ∈ lw_tbl := List.mem_of_getElem? (i := 86) (by decide +kernel)
theorem zlw_oa : Cond.arrayOver (.array .int) ∈ lw_tbl := List.mem_of_getElem? (i := 1188) (by decide +kernel)
theorem zlw_ls_LEADS : Cond.laysStatic "RegrowDesk" "LEADS" "[I" ∈ lw_tbl := List.mem_of_getElem? (i := 889) (by decide +kernel)
theorem zlw_ls_STATE_RULE : Cond.laysStatic "RegrowDesk" "STATE_RULE" "[I" ∈ lw_tbl := List.mem_of_getElem? (i := 906) (by decide +kernel)
theorem zlw_ls_RULE_SYMBOL : Cond.laysStatic "RegrowDesk" "RULE_SYMBOL" "[I" ∈ lw_tbl := List.mem_of_getElem? (i := 540) (by decide +kernel)
theorem zlw_ls_FOLLOWERS : Cond.laysStatic "RegrowDesk" "FOLLOWERS" "[I" ∈ lw_tbl := List.mem_of_getElem? (i := 1046) (by decide +kernel)
theorem zlw_ls_RULE_LENGTH : Cond.laysStatic "RegrowDesk" "RULE_LENGTH" "[I" ∈ lw_tbl := List.mem_of_getElem? (i := 643) (by decide +kernel)
theorem zlw_a_LEADS : Cond.arrayOf (Term.static "RegrowDesk" "LEADS" "[I") .int ∈ flatC (Cond.and given_1 narrow_1) := List.mem_of_getElem? (i := 33) (by decide +kernel)
theorem zlw_l_LEADS : Cond.eq (Term.length (Term.static "RegrowDesk" "LEADS" "[I")) (Term.int 357) ∈ flatC (Cond.and given_1 narrow_1) := List.mem_of_getElem? (i := 34) (by decide +kernel)
set_option maxRecDepth 100000 in
theorem zlw_f_LEADS : ((flatC (Cond.and given_1 narrow_1)).drop 35).take 357 = (List.range 357).map (fun j => Cond.eq (Term.elem (Term.static "RegrowDesk" "LEADS" "[I") (Term.int (Int32.ofNat j))) (Term.int (zst_LEADS.getD j 0))) := by decide +kernel
theorem zlw_e_LEADS (j : Nat) (hj : j < 357) : Cond.eq (Term.elem (Term.static "RegrowDesk" "LEADS" "[I") (Term.int (Int32.ofNat j))) (Term.int (zst_LEADS.getD j 0)) ∈ flatC (Cond.and given_1 narrow_1) := List.mem_of_mem_drop (List.mem_of_mem_take (zlw_f_LEADS ▸ List.mem_map.mpr ⟨j, List.mem_range.mpr hj, rfl⟩))
set_option maxRecDepth 100000 in
theorem zlw_LEADS {args : Array Value} {s : State} (hs : ∀ c ∈ flatC (Cond.and given_1 narrow_1), c.before args s = true) (ht : ∀ w ∈ lw_tbl, w.before args s = true) : ∃ t : Nat, va_Z "RegrowDesk" "LEADS" "[I" (.ref t) (fun a => s.heap.size ≤ a) s s.heap ∧ va_T .int t zst_LEADS.length (fun j => .int (zst_LEADS.getD j 0)) (fun a => s.heap.size ≤ a) s s.heap := by
  obtain ⟨t, h1, h2⟩ := va_Tof (tm := (Term.static "RegrowDesk" "LEADS" "[I")) (ty := .int) (N := 357) (f := fun j => .int (zst_LEADS.getD j 0)) (A := fun a => s.heap.size ≤ a) (by decide) (hs _ zlw_a_LEADS) (va_eqt (hs _ zlw_l_LEADS)) (fun j hj => va_eqt (hs _ (zlw_e_LEADS j hj))) (fun a h => Nat.not_le.mpr h)
  exact ⟨t, va_Zof (ht _ zlw_ls_LEADS) (ht _ (zlw_in zk_in_11)) h1 (fun a h => Nat.not_le.mpr h), h2⟩
theorem zlw_a_STATE_RULE : Cond.arrayOf (Term.static "RegrowDesk" "STATE_RULE" "[I") .int ∈ flatC (Cond.and given_1 narrow_1) := List.mem_of_getElem? (i := 393) (by decide +kernel)
theorem zlw_l_STATE_RULE : Cond.eq (Term.length (Term.static "RegrowDesk" "STATE_RULE" "[I")) (Term.int 21) ∈ flatC (Cond.and given_1 narrow_1) := List.mem_of_getElem? (i := 394) (by decide +kernel)
set_option maxRecDepth 100000 in
theorem zlw_f_STATE_RULE : ((flatC (Cond.and given_1 narrow_1)).drop 395).take 21 = (List.range 21).map (fun j => Cond.eq (Term.elem (Term.static "RegrowDesk" "STATE_RULE" "[I") (Term.int (Int32.ofNat j))) (Term.int (zst_STATE_RULE.getD j 0))) := by decide +kernel
theorem zlw_e_STATE_RULE (j : Nat) (hj : j < 21) : Cond.eq (Term.elem (Term.static "RegrowDesk" "STATE_RULE" "[I") (Term.int (Int32.ofNat j))) (Term.int (zst_STATE_RULE.getD j 0)) ∈ flatC (Cond.and given_1 narrow_1) := List.mem_of_mem_drop (List.mem_of_mem_take (zlw_f_STATE_RULE ▸ List.mem_map.mpr ⟨j, List.mem_range.mpr hj, rfl⟩))
set_option maxRecDepth 100000 in
theorem zlw_STATE_RULE {args : Array Value} {s : State} (hs : ∀ c ∈ flatC (Cond.and given_1 narrow_1), c.before args s = true) (ht : ∀ w ∈ lw_tbl, w.before args s = true) : ∃ t : Nat, va_Z "RegrowDesk" "STATE_RULE" "[I" (.ref t) (fun a => s.heap.size ≤ a) s s.heap ∧ va_T .int t zst_STATE_RULE.length (fun j => .int (zst_STATE_RULE.getD j 0)) (fun a => s.heap.size ≤ a) s s.heap := by
  obtain ⟨t, h1, h2⟩ := va_Tof (tm := (Term.static "RegrowDesk" "STATE_RULE" "[I")) (ty := .int) (N := 21) (f := fun j => .int (zst_STATE_RULE.getD j 0)) (A := fun a => s.heap.size ≤ a) (by decide) (hs _ zlw_a_STATE_RULE) (va_eqt (hs _ zlw_l_STATE_RULE)) (fun j hj => va_eqt (hs _ (zlw_e_STATE_RULE j hj))) (fun a h => Nat.not_le.mpr h)
  exact ⟨t, va_Zof (ht _ zlw_ls_STATE_RULE) (ht _ (zlw_in zk_in_11)) h1 (fun a h => Nat.not_le.mpr h), h2⟩
theorem zlw_a_RULE_SYMBOL : Cond.arrayOf (Term.static "RegrowDesk" "RULE_SYMBOL" "[I") .int ∈ flatC (Cond.and given_1 narrow_1) := List.mem_of_getElem? (i := 5) (by decide +kernel)
theorem zlw_l_RULE_SYMBOL : Cond.eq (Term.length (Term.static "RegrowDesk" "RULE_SYMBOL" "[I")) (Term.int 11) ∈ flatC (Cond.and given_1 narrow_1) := List.mem_of_getElem? (i := 6) (by decide +kernel)
set_option maxRecDepth 100000 in
theorem zlw_f_RULE_SYMBOL : ((flatC (Cond.and given_1 narrow_1)).drop 7).take 11 = (List.range 11).map (fun j => Cond.eq (Term.elem (Term.static "RegrowDesk" "RULE_SYMBOL" "[I") (Term.int (Int32.ofNat j))) (Term.int (zst_RULE_SYMBOL.getD j 0))) := by decide +kernel
theorem zlw_e_RULE_SYMBOL (j : Nat) (hj : j < 11) : Cond.eq (Term.elem (Term.static "RegrowDesk" "RULE_SYMBOL" "[I") (Term.int (Int32.ofNat j))) (Term.int (zst_RULE_SYMBOL.getD j 0)) ∈ flatC (Cond.and given_1 narrow_1) := List.mem_of_mem_drop (List.mem_of_mem_take (zlw_f_RULE_SYMBOL ▸ List.mem_map.mpr ⟨j, List.mem_range.mpr hj, rfl⟩))
set_option maxRecDepth 100000 in
theorem zlw_RULE_SYMBOL {args : Array Value} {s : State} (hs : ∀ c ∈ flatC (Cond.and given_1 narrow_1), c.before args s = true) (ht : ∀ w ∈ lw_tbl, w.before args s = true) : ∃ t : Nat, va_Z "RegrowDesk" "RULE_SYMBOL" "[I" (.ref t) (fun a => s.heap.size ≤ a) s s.heap ∧ va_T .int t zst_RULE_SYMBOL.length (fun j => .int (zst_RULE_SYMBOL.getD j 0)) (fun a => s.heap.size ≤ a) s s.heap := by
  obtain ⟨t, h1, h2⟩ := va_Tof (tm := (Term.static "RegrowDesk" "RULE_SYMBOL" "[I")) (ty := .int) (N := 11) (f := fun j => .int (zst_RULE_SYMBOL.getD j 0)) (A := fun a => s.heap.size ≤ a) (by decide) (hs _ zlw_a_RULE_SYMBOL) (va_eqt (hs _ zlw_l_RULE_SYMBOL)) (fun j hj => va_eqt (hs _ (zlw_e_RULE_SYMBOL j hj))) (fun a h => Nat.not_le.mpr h)
  exact ⟨t, va_Zof (ht _ zlw_ls_RULE_SYMBOL) (ht _ (zlw_in zk_in_11)) h1 (fun a h => Nat.not_le.mpr h), h2⟩
theorem zlw_a_FOLLOWERS : Cond.arrayOf (Term.static "RegrowDesk" "FOLLOWERS" "[I") .int ∈ flatC (Cond.and given_1 narrow_1) := List.mem_of_getElem? (i := 417) (by decide +kernel)
theorem zlw_l_FOLLOWERS : Cond.eq (Term.length (Term.static "RegrowDesk" "FOLLOWERS" "[I")) (Term.int 13) ∈ flatC (Cond.and given_1 narrow_1) := List.mem_of_getElem? (i := 418) (by decide +kernel)
set_option maxRecDepth 100000 in
theorem zlw_f_FOLLOWERS : ((flatC (Cond.and given_1 narrow_1)).drop 419).take 13 = (List.range 13).map (fun j => Cond.eq (Term.elem (Term.static "RegrowDesk" "FOLLOWERS" "[I") (Term.int (Int32.ofNat j))) (Term.int (zst_FOLLOWERS.getD j 0))) := by decide +kernel
theorem zlw_e_FOLLOWERS (j : Nat) (hj : j < 13) : Cond.eq (Term.elem (Term.static "RegrowDesk" "FOLLOWERS" "[I") (Term.int (Int32.ofNat j))) (Term.int (zst_FOLLOWERS.getD j 0)) ∈ flatC (Cond.and given_1 narrow_1) := List.mem_of_mem_drop (List.mem_of_mem_take (zlw_f_FOLLOWERS ▸ List.mem_map.mpr ⟨j, List.mem_range.mpr hj, rfl⟩))
set_option maxRecDepth 100000 in
theorem zlw_FOLLOWERS {args : Array Value} {s : State} (hs : ∀ c ∈ flatC (Cond.and given_1 narrow_1), c.before args s = true) (ht : ∀ w ∈ lw_tbl, w.before args s = true) : ∃ t : Nat, va_Z "RegrowDesk" "FOLLOWERS" "[I" (.ref t) (fun a => s.heap.size ≤ a) s s.heap ∧ va_T .int t zst_FOLLOWERS.length (fun j => .int (zst_FOLLOWERS.getD j 0)) (fun a => s.heap.size ≤ a) s s.heap := by
  obtain ⟨t, h1, h2⟩ := va_Tof (tm := (Term.static "RegrowDesk" "FOLLOWERS" "[I")) (ty := .int) (N := 13) (f := fun j => .int (zst_FOLLOWERS.getD j 0)) (A := fun a => s.heap.size ≤ a) (by decide) (hs _ zlw_a_FOLLOWERS) (va_eqt (hs _ zlw_l_FOLLOWERS)) (fun j hj => va_eqt (hs _ (zlw_e_FOLLOWERS j hj))) (fun a h => Nat.not_le.mpr h)
  exact ⟨t, va_Zof (ht _ zlw_ls_FOLLOWERS) (ht _ (zlw_in zk_in_11)) h1 (fun a h => Nat.not_le.mpr h), h2⟩
theorem zlw_a_RULE_LENGTH : Cond.arrayOf (Term.static "RegrowDesk" "RULE_LENGTH" "[I") .int ∈ flatC (Cond.and given_1 narrow_1) := List.mem_of_getElem? (i := 19) (by decide +kernel)
theorem zlw_l_RULE_LENGTH : Cond.eq (Term.length (Term.static "RegrowDesk" "RULE_LENGTH" "[I")) (Term.int 11) ∈ flatC (Cond.and given_1 narrow_1) := List.mem_of_getElem? (i := 20) (by decide +kernel)
set_option maxRecDepth 100000 in
theorem zlw_f_RULE_LENGTH : ((flatC (Cond.and given_1 narrow_1)).drop 21).take 11 = (List.range 11).map (fun j => Cond.eq (Term.elem (Term.static "RegrowDesk" "RULE_LENGTH" "[I") (Term.int (Int32.ofNat j))) (Term.int (zst_RULE_LENGTH.getD j 0))) := by decide +kernel
theorem zlw_e_RULE_LENGTH (j : Nat) (hj : j < 11) : Cond.eq (Term.elem (Term.static "RegrowDesk" "RULE_LENGTH" "[I") (Term.int (Int32.ofNat j))) (Term.int (zst_RULE_LENGTH.getD j 0)) ∈ flatC (Cond.and given_1 narrow_1) := List.mem_of_mem_drop (List.mem_of_mem_take (zlw_f_RULE_LENGTH ▸ List.mem_map.mpr ⟨j, List.mem_range.mpr hj, rfl⟩))
set_option maxRecDepth 100000 in
theorem zlw_RULE_LENGTH {args : Array Value} {s : State} (hs : ∀ c ∈ flatC (Cond.and given_1 narrow_1), c.before args s = true) (ht : ∀ w ∈ lw_tbl, w.before args s = true) : ∃ t : Nat, va_Z "RegrowDesk" "RULE_LENGTH" "[I" (.ref t) (fun a => s.heap.size ≤ a) s s.heap ∧ va_T .int t zst_RULE_LENGTH.length (fun j => .int (zst_RULE_LENGTH.getD j 0)) (fun a => s.heap.size ≤ a) s s.heap := by
  obtain ⟨t, h1, h2⟩ := va_Tof (tm := (Term.static "RegrowDesk" "RULE_LENGTH" "[I")) (ty := .int) (N := 11) (f := fun j => .int (zst_RULE_LENGTH.getD j 0)) (A := fun a => s.heap.size ≤ a) (by decide) (hs _ zlw_a_RULE_LENGTH) (va_eqt (hs _ zlw_l_RULE_LENGTH)) (fun j hj => va_eqt (hs _ (zlw_e_RULE_LENGTH j hj))) (fun a h => Nat.not_le.mpr h)
  exact ⟨t, va_Zof (ht _ zlw_ls_RULE_LENGTH) (ht _ (zlw_in zk_in_11)) h1 (fun a h => Nat.not_le.mpr h), h2⟩
theorem zl_all {p : Program} {e : Env} {s : State} {m : MethodId} {below : List Frame} {meth : Method} {c : Code} (l : Launch) {b L : Nat} {xs : Nat → Int32} (hL : L ≤ 260) (C0 : lw_At p s m meth c b L xs) (h : w_law44) : W p l e room_1 s m #[Value.ref b] below meth c s.heap [] 0 0 (lw_Z below #[Value.ref b] s) (entryFrame m ([Value.ref b] : List Value).toArray 25) := by
  obtain ⟨hx, hb, hr, hml, hown, ht, hX, hbl, hlocks, hgv⟩ := C0
  have hs := flat_of_before _ hgv
  have hW : ∀ w ∈ zTb, w.before #[Value.ref b] s = true := fun w hw => ht w (zlw_in hw)
  obtain ⟨t0, z0⟩ := zlw_LEADS hs ht
  obtain ⟨t1, z1⟩ := zlw_STATE_RULE hs ht
  obtain ⟨t2, z2⟩ := zlw_RULE_SYMBOL hs ht
  obtain ⟨t3, z3⟩ := zlw_FOLLOWERS hs ht
  obtain ⟨t4, z4⟩ := zlw_RULE_LENGTH hs ht
  have hkn : ∀ k : Nat, ∃ q : ClassId × (Nat → Nat), ∀ r : vw_C, classes[k]? = some r → u_Kn s r.1 r.2.1 r.2.2 q.1 q.2 := by
    intro k
    match k with
    | 0 =>
      obtain ⟨cC, iS, hk⟩ := u_known hW zin_0 (hW _ zk_ia_0)
      exact ⟨(cC, iS), fun r hr => by cases hr; exact hk⟩
    | 1 =>
      obtain ⟨cC, iS, hk⟩ := u_known hW zin_1 (hW _ zk_ia_1)
      exact ⟨(cC, iS), fun r hr => by cases hr; exact hk⟩
    | 2 =>
      obtain ⟨cC, iS, hk⟩ := u_known hW zin_2 (hW _ zk_ia_2)
      exact ⟨(cC, iS), fun r hr => by cases hr; exact hk⟩
    | 3 =>
      obtain ⟨cC, iS, hk⟩ := u_known hW zin_3 (hW _ zk_ia_3)
      exact ⟨(cC, iS), fun r hr => by cases hr; exact hk⟩
    | 4 =>
      obtain ⟨cC, iS, hk⟩ := u_known hW zin_4 (hW _ zk_ia_4)
      exact ⟨(cC, iS), fun r hr => by cases hr; exact hk⟩
    | 5 =>
      obtain ⟨cC, iS, hk⟩ := u_known hW zin_5 (hW _ zk_ia_5)
      exact ⟨(cC, iS), fun r hr => by cases hr; exact hk⟩
    | 6 =>
      obtain ⟨cC, iS, hk⟩ := u_known hW zin_6 (hW _ zk_ia_6)
      exact ⟨(cC, iS), fun r hr => by cases hr; exact hk⟩
    | 7 =>
      obtain ⟨cC, iS, hk⟩ := u_known hW zin_7 (hW _ zk_ia_7)
      exact ⟨(cC, iS), fun r hr => by cases hr; exact hk⟩
    | 8 =>
      obtain ⟨cC, iS, hk⟩ := u_known hW zin_8 (hW _ zk_ia_8)
      exact ⟨(cC, iS), fun r hr => by cases hr; exact hk⟩
    | 9 =>
      obtain ⟨cC, iS, hk⟩ := u_known hW zin_9 (hW _ zk_ia_9)
      exact ⟨(cC, iS), fun r hr => by cases hr; exact hk⟩
    | 10 =>
      obtain ⟨cC, iS, hk⟩ := u_known hW zin_10 (hW _ zk_ia_10)
      exact ⟨(cC, iS), fun r hr => by cases hr; exact hk⟩
    | 11 =>
      obtain ⟨cC, iS, hk⟩ := u_known hW zin_11 (hW _ zk_ia_11)
      exact ⟨(cC, iS), fun r hr => by cases hr; exact hk⟩
    | k + 12 => exact ⟨(0, fun _ => 0), fun r hr => by cases hr⟩
  obtain ⟨f, hf⟩ := Classical.axiomOfChoice hkn
  obtain ⟨cI, kI, oI, i1, i2, i3⟩ := Cond.arrayClass_spec (hW _ zk_ac_int)
  obtain ⟨cC, cJ, kJ, j1, -, j3, j4, j5⟩ := arrayOverA_spec (ht _ zlw_oa)
  obtain ⟨om, cM, kM, m1, -, m3, m4, m5⟩ := Cond.arrayOver_spec (ht _ zlw_ao)
  have hC : ∀ B, B = s.heap.size ∨ B = s.heap.size + 1 → zCx p s m #[Value.ref b] meth c cL_law 25 RL ret ((fun k => (f k).1, fun k => (f k).2)) B (fun i => match i with | 0 => cI | 1 => cJ | _ => cM) (fun i => match i with | 0 => t0 | 1 => t1 | 2 => t2 | 3 => t3 | 4 => t4 | _ => 0) := by
    intro B hB
    refine ⟨hx, hb, hml, hown, hW, hr, hlocks, ⟨fun k q hq => hf k q hq, fun k q hq => ?_⟩, fun i q hq => ?_, by omega, fun q hq => va_Nw.of rfl (ht _ (zNs_tbl q hq)), va_AO.of (ht _ zlw_ao), zOA.of (ht _ zlw_oa)⟩
    · match k with
      | 0 => cases hq; exact ⟨fun n z => ⟨fun k h => (by cases h), kI, i2, oI, i3⟩, i1⟩
      | 1 => cases hq; exact ⟨fun n z => ⟨fun k h => (by cases h), kJ, j3, cC, j4⟩, j5⟩
      | 2 => cases hq; exact ⟨fun n z => ⟨fun k h => (by cases h), kM, m3, om, m4⟩, kM, om, m3, m4, m1, m5⟩
      | k + 3 => cases hq
    · match i with
      | 0 => cases hq; exact ⟨zz_Z z0.1 (by omega), zz_T z0.2 (by omega)⟩
      | 1 => cases hq; exact ⟨zz_Z z1.1 (by omega), zz_T z1.2 (by omega)⟩
      | 2 => cases hq; exact ⟨zz_Z z2.1 (by omega), zz_T z2.2 (by omega)⟩
      | 3 => cases hq; exact ⟨zz_Z z3.1 (by omega), zz_T z3.2 (by omega)⟩
      | 4 => cases hq; exact ⟨zz_Z z4.1 (by omega), zz_T z4.2 (by omega)⟩
      | i + 5 => cases hq
  have h0 := zl_start (l := l) (e := e) (below := below) (hC _ (Or.inl rfl)) (hC _ (Or.inr rfl)) hX hbl hL h
  have hl := lv_entry ([.ref b]) (n := 25) (Nat.le_of_ble_eq_true rfl)
  rw [lg_entry_eq]
  exact h0 s.heap [] _ (fun k q hq => by cases hq) rfl ⟨va_S.rf, fun u => absurd u (Nat.lt_irrefl _)⟩ hl
