def z00 : zI := (fun _ _ => 0, fun _ _ => 0)
def w_law (L : Nat) (xs : Nat → Int32) : Prop := w_Desk_init z00 (fun I1 => zZ I1 491 ∧ w_M_init I1 (fun I2 => w_law_body L xs I2))
set_option maxHeartbeats 4000000 in
set_option maxRecDepth 20000 in
theorem zl_start {p : Program} {l : Launch} {e : Env} {s : State} {m : MethodId} {below : List Frame} {meth : Method} {c : Code} {D : va_G} {cA : Nat → ClassId} {ad : Nat → Nat} {b L : Nat} {xs : Nat → Int32} (C : zCx p s m #[Value.ref b] meth c cL_law 4 RL ret D s.heap.size cA ad) (hX : va_X b L xs s s.heap) (hbl : b < s.heap.size) (hbA : ¬ s.heap.size ≤ b) (h : w_law L xs) : zX p l e room_1 s m #[Value.ref b] below meth c (lw_Z below #[Value.ref b] s) D s.heap.size cA 4 0 0 [] z00 [(0, .ref b)] [] 0 := by
  have hz : zZ z00 0 := fun a _ => ⟨fun _ => rfl, fun _ => rfl⟩
  refine za_new C (ci := 11) (fs := [some none, none, some none, some none, none, none, none, none, some none, some none, some none, some none, some none, some none, some none, some none, some none, some none, none]) rfl zin_11 tyX11 tyX11_ok zk_cl_L_7 zk_ia_11 zk_in_11 zdf_11 (hz.up (Nat.zero_le _)) (Nat.le_of_ble_eq_true rfl) (Nat.le_of_ble_eq_true rfl) dyL_law_0 ?_
  refine zr_dup C dyL_law_3 rfl ?_
  refine zl_callD C (st := [.ref (s.heap.size + ([] : List zC).length)]) (ci_Desk [] rfl (hz.up (Nat.zero_le _)) h) (zgM zk_cd_yX11_init) zk_ml_L_9 zk_im_yX11_init zk_in_11 rfl rfl rfl zsg_yX11_init ⟨Nat.le_of_ble_eq_true rfl, Nat.le_of_ble_eq_true rfl⟩ rfl rfl (Nat.le_of_ble_eq_true rfl) dyL_law_4 ⟨Nat.le_of_ble_eq_true rfl, Nat.le_of_ble_eq_true rfl⟩ (fun I1 h => ?_)
  obtain ⟨hz1, h⟩ := h
  refine zr_astore_n C dyL_law_7 rfl (Nat.le_of_ble_eq_true rfl) (lv2 := [(1, .ref (s.heap.size + 0)), (0, .ref b)]) rfl ?_
  refine za_new C (ci := 12) (fs := zmO 0) rfl zin_12 tyX12 tyX12_ok zk_cl_L_10 zk_ia_12 zk_in_12 zdf_12 (by rw [zSx_len]; exact hz1) (Nat.le_of_ble_eq_true rfl) (Nat.le_of_ble_eq_true rfl) dyL_law_8 ?_
  rw [zSx_len]
  refine zr_dup C dyL_law_11 rfl ?_
  refine zr_S (S2 := zmS 0) rfl ?_
  refine zl_callD C (st := [.ref (s.heap.size + 491)]) (ci_M hz1 h) (zgM zk_cd_yX12_init) zk_ml_L_12 zk_im_yX12_init zk_in_12 rfl rfl rfl zsg_yX12_init ⟨Nat.le_of_ble_eq_true rfl, Nat.le_of_ble_eq_true rfl⟩ rfl rfl (Nat.le_of_ble_eq_true rfl) dyL_law_12 ⟨Nat.le_of_ble_eq_true rfl, Nat.le_of_ble_eq_true rfl⟩ (fun I2 h => ?_)
  refine zr_astore_n C dyL_law_15 rfl (Nat.le_of_ble_eq_true rfl) (lv2 := [(2, .ref (s.heap.size + 491)), (1, .ref (s.heap.size + 0)), (0, .ref b)]) rfl ?_
  refine zr_sub (lv2 := [(0, .ref b), (1, .ref (s.heap.size + 0)), (2, .ref (s.heap.size + 491))]) [2, 1, 0] rfl ?_
  exact zl_body C hX hbl hbA zOkM_self rfl h
