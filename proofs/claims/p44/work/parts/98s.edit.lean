/-! ===== bytes put in the place of others ===== -/
theorem lastv_any {x : Sg} {d tp : List Int32} (hv : Iv x) (hd : txOk d) : vLast (chg x d tp) 0 + vLast (chg x d tp) 1 + vLast (chg x d tp) 7 = zi (lexL d).length := lastv_all hv hd
theorem s_1218 {x : Sg} {S : List zC} {I : zI} {c0 u0 k kw km p n : Nat} {l : List Int32} {v6 v7 : Int32} {P1422 : Int32 → Int32 → List zC → Nat → Nat → zI → Prop} (hs : Lsv x) (hR : RX I x) (hz : zZ I S.length) (h491 : 491 ≤ S.length) (hT : sgT x = []) (hp : Pb x) (hE : sgE x ≤ 39) (hA : AtL S I kw (moT (sgC x))) (hM : AtL S I km l) (hkm : 491 ≤ km) (hl : l.length ≤ 80) (hb : BtL l) (hpn : p + n ≤ (moT (sgC x)).length) (hS : S.length ≤ 599000) (hc : c0 ≤ 598000) (hu : u0 ≤ 7200000)
    (hP : ∀ x2 is S2 c2 u2 J, Lsv x2 → RX J x2 → sgT x2 = [] → Pb x2 → Turn x x2 is → zZ J S2.length → S.length ≤ S2.length → S2.length ≤ S.length + 520 → c2 ≤ c0 + 520 → u2 ≤ u0 + 8000 → P1422 1 is S2 c2 u2 J) :
    w_law_1218 (zi k) (zi (moT (sgC x)).length) v6 v7 (zi (moR (sgC x))) (zi (sgM x)) kw (moT (sgC x)).length km l.length (zi p) (zi n) P1422 c0 u0 S I := by
  have hv := hs.1
  have hm := hv.2.2.2.1
  obtain ⟨z300, z100⟩ := sz_300 hv
  refine ⟨⟨by omega, by omega⟩, ?_⟩
  refine s_part (f := 0) hA (Nat.zero_le p) (by omega) (by omega) hz (fun S1 J1 n1 a1 => ?_)
  have l1 := n1.len
  refine ⟨⟨by omega, by omega⟩, ?_⟩
  have la : (((moT (sgC x)).drop 0).take (p - 0)).length = p := by rw [List.length_take, List.length_drop]; omega
  refine s_with a1 (n1.at hM) (by omega) n1.2.2.2 (fun S2 J2 n2 a2 => ?_)
  have l2 := n2.len
  refine ⟨⟨by omega, by omega⟩, ?_⟩
  rw [zi_add]
  refine s_part (f := p + n) (n2.at (n1.at hA)) (by omega) (Nat.le_refl _) (by omega) n2.2.2.2 (fun S3 J3 n3 a3 => ?_)
  have l3 := n3.len
  refine ⟨⟨by omega, by omega⟩, ?_⟩
  have lb : (((moT (sgC x)).drop 0).take (p - 0) ++ l).length = p + l.length := by rw [List.length_append, la]
  have lc : (((moT (sgC x)).drop (p + n)).take ((moT (sgC x)).length - (p + n))).length = (moT (sgC x)).length - (p + n) := by rw [List.length_take, List.length_drop]; omega
  refine s_with (n3.at a2) a3 (by omega) n3.2.2.2 (fun S4 J4 n4 a4 => ?_)
  have l4 := n4.len
  have hD : (((moT (sgC x)).drop 0).take (p - 0) ++ l) ++ ((moT (sgC x)).drop (p + n)).take ((moT (sgC x)).length - (p + n)) = (moT (sgC x)).take p ++ (l ++ (moT (sgC x)).drop (p + n)) := by
    rw [List.drop_zero, Nat.sub_zero, List.append_assoc, List.take_of_length_le (l := (moT (sgC x)).drop (p + n)) (by rw [List.length_drop]; exact Nat.le_refl _)]
  rw [hD] at a4 ⊢
  generalize hd0 : (moT (sgC x)).take p ++ (l ++ (moT (sgC x)).drop (p + n)) = d at a4 ⊢
  have hdl : d.length ≤ 380 := by
    rw [← hd0, List.length_append, List.length_append, List.length_take, List.length_drop]
    omega
  have hbd : BtL d := by
    rw [← hd0]
    intro b hb'
    rcases List.mem_append.mp hb' with u | u
    · exact (good_bt hv).1 b (List.mem_of_mem_take u)
    · rcases List.mem_append.mp u with u | u
      · exact hb b u
      · exact (good_bt hv).1 b (List.mem_of_mem_drop u)
  have n14 : Nw S I S4 J4 4 := (((n1.tr n2).tr n3).tr n4)
  refine ⟨⟨by omega, by omega⟩, ?_⟩
  refine s_cutL a4 (by omega) (by omega) n4.2.2.2 (by have := n14.2.1; omega) (fun kc S5 J5 kc9 n5 t5 => ?_)
  have n15 := n14.tr n5
  have l5 := n5.len
  have u5 := n15.2.1
  have hR5 : RX J5 x := n15.rx h491 hv hR
  refine s_tape hs hR5 (n15.at hM) hkm hb (by rw [hT]; show 0 + l.length + 19 ≤ 200; omega) (fun J6 q6 r6 => ?_)
  rw [hT, List.nil_append] at r6
  have hsx : Lsv (l, x.2) := tape_ls hs (by omega) hb
  have hpx : Pb (l, x.2) := hp
  refine s_edit hsx.1 r6 (show sgE x < 512 by omega) (fun J7 q7 r7 => ?_)
  have e7 : editR (l, x.2) (zi p) (zi n) = doC (l, x.2) d true := by
    rw [edit_is (x := (l, x.2)) hsx.1 hpn, ← hd0]
    rfl
  rw [e7] at r7 ⊢
  have q := q6.tr q7
  have hz7 : zZ J7 S5.length := cl_zZ n5.2.2.2 (by omega) q
  have a47 : AtL S5 J7 S3.length d := cl_at (n5.at a4) (by omega) q
  have t57 : TkR S5 J7 kc ((lexL d).map (fun x => x.1)) := ⟨t5.1, t5.2.cl kc9 q⟩
  have kxl : ((lexL d).map (fun x => x.1)).length = (lexL d).length := List.length_map ..
  have hlx : (lexL d).length ≤ 381 := by
    have h := lex_len (l := d)
    have h2 : (toks d).length ≤ d.length := by
      unfold toks
      have := lexF_cnt (t := txF d) (n := d.length) d.length 0
      omega
    omega
  have hrf := refu_is (d := d) hpx (show sgE x ≤ 39 from hE)
  refine ⟨a47.1, ?_⟩
  intro P1301 h1301 P1300 h1300
  by_cases hr : refu (l, x.2) d
  · rw [doC_ref hr] at r7 h1301
    have go : P1300 := by
      refine h1300 (h1301 0 ?_)
      intro P1421 h1421
      rw [if_pos rfl]
      intro P1420 _
      rw [if_pos rfl]
      refine k_7 r7 ?_
      have hTap : TapX J7 l := r7.1
      refine s_back hTap (by omega) (fun m hm2 J8 q8 t8 => ?_) (fun w => ?_)
      · obtain ⟨e1, e2⟩ := backN_le (by omega) hm2
        have e3 : l.length = m := (zi_eq (show l.length < 2147483648 by omega) (by omega)).mp e1
        rw [← e3, Nat.sub_self] at t8 ⊢
        rw [if_pos (show zi 0 = 0 from rfl)]
        refine h1421 _ _ _ _ _ ?_
        have t8 : TapX J8 [] := t8
        have r8 : RX J8 ([], x.2) := RX.tp (x := (l, x.2)) hsx.1 r7 q8 t8
        have hx0 : x = ([], x.2) := Prod.ext hT rfl
        rw [← hx0] at r8
        exact hP x (-1) _ _ _ _ hs r8 hT hp (Or.inr (Or.inl ⟨rfl, rfl⟩)) (cl_zZ hz7 (by omega) (q8.mono (fun a j u => by unfold Qtx at u; unfold Qcl; omega))) (by omega) (by omega) (by omega) (by omega)
      · unfold backN at w
        have w : (if zi l.length < 0 then (none : Option Nat) else if zi l.length < zi l.length then none else some (Int32.toNatClampNeg (zi l.length))) = none := w
        rw [if_neg (zi_pos (show l.length < 2147483648 by omega)), if_neg (show ¬ zi l.length < zi l.length from fun q => Nat.lt_irrefl _ ((zi_lt (a := l.length) (b := l.length) (by omega) (by omega)).mp q))] at w
        cases w
    have hr2 := hrf.mp hr
    by_cases u1 : 300 < d.length
    · rw [if_pos (show (300 : Int32) < zi d.length from (zi_lt (a := 300) (by decide) (by omega)).mpr u1)]
      exact go
    rw [if_neg (show ¬ (300 : Int32) < zi d.length from fun w => u1 ((zi_lt (a := 300) (by decide) (by omega)).mp w))]
    refine ⟨t57.1, ?_⟩
    rw [kxl]
    by_cases u2 : 100 < (lexL d).length
    · rw [if_pos (show (100 : Int32) < zi (lexL d).length from (zi_lt (a := 100) (by decide) (by omega)).mpr u2)]
      exact go
    rw [if_neg (show ¬ (100 : Int32) < zi (lexL d).length from fun w => u2 ((zi_lt (a := 100) (by decide) (by omega)).mp w))]
    have hM3 : 3000 ≤ sgM x := by
      rcases hr2 with w | w | w
      · exact absurd w u1
      · exact w
      · exact absurd w u2
    rw [if_pos (show (3000 : Int32) ≤ zi (sgM x) from (zi_le (a := 3000) (by decide) (by omega)).mpr hM3)]
    exact go
  · have hr2 : ¬ (300 < d.length ∨ 3000 ≤ sgM x ∨ 100 < (lexL d).length) := fun w => hr (hrf.mpr w)
    have hok : txOk d := ⟨by omega, hbd.at, by omega⟩
    obtain ⟨f1, f2, f3, f4, f5⟩ := edit_full hsx.1 hsx.2.1 (show sgE x ≤ 39 from hE) hbd hr
    have ls2 := (doC_ls (bt := true) hsx hbd (show sgE x < 512 by omega)).1
    have pb2 := doC_pb (bt := true) hsx.1 hbd (show sgE x < 512 by omega) hpx
    have tn2 := doc_turn (x := x) (y := (l, x.2)) (bt := true) rfl hsx.1 hbd
    have lst : vLast (doC (l, x.2) d true).2 0 + vLast (doC (l, x.2) d true).2 1 + vLast (doC (l, x.2) d true).2 7 = zi (lexL d).length := by
      rw [doC_do hr]
      exact lastv_any hsx.1 hok
    rw [if_neg (show ¬ (300 : Int32) < zi d.length from fun w => by have := (zi_lt (a := 300) (by decide) (by omega)).mp w; omega)]
    refine ⟨t57.1, ?_⟩
    rw [kxl] at h1301 ⊢
    rw [if_neg (show ¬ (100 : Int32) < zi (lexL d).length from fun w => by have := (zi_lt (a := 100) (by decide) (by omega)).mp w; omega), if_neg (show ¬ (3000 : Int32) ≤ zi (sgM x) from fun w => by have := (zi_le (a := 3000) (by decide) (by omega)).mp w; omega)]
    refine h1301 1 ?_
    intro P1421 h1421
    rw [if_neg (show ¬ (1 : Int32) = 0 by decide)]
    refine ⟨⟨by omega, by omega⟩, ?_⟩
    rw [← kxl]
    refine s_kinds t57 (by omega) (by omega) hz7 (fun S6 J8 n6 a6 => ?_)
    have l6 := n6.len
    have u6 := n6.2.1
    have r8 : RX J8 (doC (l, x.2) d true).2 := n6.rx (by omega) ls2.1 r7
    refine s_wrong a6 (fun y hy => ?_) (by omega) ?_
    · obtain ⟨z, hz2, rfl⟩ := List.mem_map.mp hy
      exact (lex_ok hbd.at z hz2).1.1
    intro P1326 h1326
    have body : ∀ t : Int32, (doC (l, x.2) d true).1 = t → P1326 t := fun t et => by
      refine h1326 t ?_
      intro P1393 _
      rw [if_pos et]
      refine k_0 r8 ?_
      refine ⟨(n6.at a47).1, ?_⟩
      rw [f2, if_pos rfl]
      refine t_last r8 (t_last r8 (t_last r8 ?_))
      refine ⟨zA2_up t57.1 n6.1, ?_⟩
      rw [kxl, if_pos lst]
      intro P1389 h1389
      have done : P1389 := h1389 (h1421 _ _ _ _ _ (hP _ _ _ _ _ _ ls2 r8 f3 pb2 tn2 n6.2.2.2 (by omega) (by omega) (by omega) (by omega)))
      by_cases i0 : (doC (l, x.2) d true).1 = 0
      · rw [if_pos i0]
        exact done
      · rw [if_neg i0]
        have i1 : (doC (l, x.2) d true).1 = 1 := by
          rw [f1] at i0 ⊢
          split
          · next h => rw [if_pos h] at i0; exact absurd rfl i0
          · rfl
        obtain ⟨g1, g2⟩ := f5 i1
        refine k_4 r8 ?_
        rw [if_pos (show zi (moR (sgC (doC (l, x.2) d true).2)) = zi (moR (sgC x)) by rw [g1]; rfl)]
        refine k_5 r8 ?_
        rw [if_pos (show zi (sgM (doC (l, x.2) d true).2) = zi (sgM x) by rw [g2]; rfl)]
        exact done
    by_cases hw : wrG ((lexL d).map (fun x => x.1)) (0, 0, 0) 0 < 0
    · rw [if_neg (show ¬ 0 ≤ wrG ((lexL d).map (fun x => x.1)) (0, 0, 0) 0 from Int32.not_le.mpr hw)]
      exact body 0 (by rw [f1, if_pos hw])
    · rw [if_pos (Int32.not_lt.mp hw)]
      exact body 1 (by rw [f1, if_neg hw])
theorem s_1127 {x : Sg} {S : List zC} {I : zI} {c0 u0 k kw km : Nat} {l : List Int32} {v6 v7 : Int32} {P1422 : Int32 → Int32 → List zC → Nat → Nat → zI → Prop} (hs : Lsv x) (hR : RX I x) (hz : zZ I S.length) (h491 : 491 ≤ S.length) (hk : k < 44) (hT : sgT x = []) (hp : Pb x) (hE : sgE x ≤ 39) (hA : AtL S I kw (moT (sgC x))) (hM : AtL S I km l) (hkm : 491 ≤ km) (hl : l.length ≤ 80) (hb : BtL l) (hS : S.length ≤ 599000) (hc : c0 ≤ 598000) (hu : u0 ≤ 7200000)
    (hP : ∀ x2 is S2 c2 u2 J, Lsv x2 → RX J x2 → sgT x2 = [] → Pb x2 → Turn x x2 is → zZ J S2.length → S.length ≤ S2.length → S2.length ≤ S.length + 520 → c2 ≤ c0 + 520 → u2 ≤ u0 + 8000 → P1422 1 is S2 c2 u2 J) :
    w_law_1127 (zi k) (zi (moT (sgC x)).length) v6 v7 (zi (moR (sgC x))) (zi (sgM x)) kw (moT (sgC x)).length km l.length P1422 c0 u0 S I := by
  have hv := hs.1
  obtain ⟨z300, z100⟩ := sz_300 hv
  have h44 : vp_in (zi k) 44 := (zin_iff (by omega)).mpr hk
  have l1 : 1 ≤ (lexL (moT (sgC x))).length := by rw [lex_len]; omega
  refine ⟨h44, fun v528 => ⟨by rw [zi_succ]; exact zi_ne (b := 0) (by omega) (by decide) (by omega), fun v17 e17 => ⟨h44, fun v530 => ?_⟩⟩⟩
  rw [zi_succ] at e17
  obtain ⟨p, hp2, ep⟩ := rem_zi (v := v528 >>> ((5 : Int32) &&& (31 : Int32))) (c := 511) (n := (moT (sgC x)).length + 1) (by decide) (by omega) (by omega)
  have e17 : v17 = zi p := e17.trans ep
  subst e17
  intro P1175 h1175
  have go : ∀ w : Nat, w ≤ 15 → P1175 (zi w) := fun w hw => h1175 (zi w) (fun v18 e18 => by
    have hn : ∃ n, p + n ≤ (moT (sgC x)).length ∧ v18 = zi n := by
      rw [zi_sub (show p ≤ (moT (sgC x)).length by omega)] at e18
      by_cases u : w < (moT (sgC x)).length - p
      · rw [if_pos (show zi w < zi ((moT (sgC x)).length - p) from (zi_lt (by omega) (by omega)).mpr u)] at e18
        exact ⟨w, by omega, e18⟩
      · rw [if_neg (show ¬ zi w < zi ((moT (sgC x)).length - p) from fun q => u ((zi_lt (by omega) (by omega)).mp q))] at e18
        exact ⟨(moT (sgC x)).length - p, by omega, e18⟩
    obtain ⟨n, hpn, en⟩ := hn
    subst en
    refine ⟨h44, fun v533 => ?_⟩
    intro P1218 h1218
    split
    · refine ⟨h44, fun v601 => k_1 hR ⟨zi_ne (b := 0) (by omega) (by decide) (by omega), ?_⟩⟩
      obtain ⟨o, ho, eo⟩ := rem_zi (v := v601 >>> ((5 : Int32) &&& (31 : Int32))) (c := 255) (n := (lexL (moT (sgC x))).length) (by decide) l1 (by omega)
      rw [show ((v601 >>> ((5 : Int32) &&& (31 : Int32))) &&& (255 : Int32)) - ((v601 >>> ((5 : Int32) &&& (31 : Int32))) &&& (255 : Int32)) / zi (lexL (moT (sgC x))).length * zi (lexL (moT (sgC x))).length = zi o from eo]
      refine t_token hv hR ?_
      rw [(vToken_at hv ho).2.1]
      have hin := (tkT_in hv ho).1
      exact h1218 _ 0 (s_1218 (n := 0) hs hR hz h491 hT hp hE hA hM hkm hl hb (by omega) hS hc hu hP)
    · exact h1218 _ _ (s_1218 hs hR hz h491 hT hp hE hA hM hkm hl hb hpn hS hc hu hP))
  split
  · refine ⟨h44, fun v605 => ?_⟩
    obtain ⟨w, hw, ew⟩ := and_zi (x := v605 >>> ((10 : Int32) &&& (31 : Int32))) (c := 15) (by decide)
    rw [show (v605 >>> ((10 : Int32) &&& (31 : Int32))) &&& (15 : Int32) = zi w from ew]
    exact go w hw
  · exact go 0 (by omega)
theorem s_1090 {x : Sg} {S : List zC} {I : zI} {c0 u0 k kw : Nat} {v6 v7 : Int32} {P1422 : Int32 → Int32 → List zC → Nat → Nat → zI → Prop} (hs : Lsv x) (hR : RX I x) (hz : zZ I S.length) (h491 : 491 ≤ S.length) (hk : k < 44) (hT : sgT x = []) (hp : Pb x) (hE : sgE x ≤ 39) (hA : AtL S I kw (moT (sgC x))) (hS : S.length ≤ 598000) (hc : c0 ≤ 597000) (hu : u0 ≤ 7190000)
    (hP : ∀ x2 is S2 c2 u2 J, Nxt x S c0 u0 x2 is S2 c2 u2 J → P1422 1 is S2 c2 u2 J) : w_law_1090 (zi k) (zi (moT (sgC x)).length) v6 v7 (zi (moR (sgC x))) (zi (sgM x)) kw (moT (sgC x)).length P1422 c0 u0 S I := by
  have hv := hs.1
  have h44 : vp_in (zi k) 44 := (zin_iff (by omega)).mpr hk
  refine ⟨h44, fun v515 => ⟨h44, fun v516 => ⟨⟨by omega, by omega⟩, ?_⟩⟩⟩
  obtain ⟨w, hw, ew⟩ := and_zi (x := v516 >>> ((4 : Int32) &&& (31 : Int32))) (c := 3) (by decide)
  rw [show (v516 >>> ((4 : Int32) &&& (31 : Int32))) &&& (3 : Int32) = zi w from ew, show (1 : Int32) + zi w = zi (1 + w) from zi_add 1 w]
  refine s_drawn (by omega) hz (fun km l S2 J2 hkm n2 a2 hl hb => ?_)
  have h2 := n2.len
  have u2 := n2.2.1
  have hR2 := n2.rx h491 hv hR
  refine ⟨a2.1, ?_⟩
  intro P1127 h1127
  rw [if_pos (show zi l.length ≤ 80 from (zi_le (b := 80) (by omega) (by decide)).mpr (by omega))]
  refine h1127 _ _ _ _ _ _ ?_
  refine s_1127 hs hR2 n2.2.2.2 (by omega) hk hT hp hE (n2.at hA) a2 (by omega) (by omega) hb (by omega) (by omega) (by omega) (fun x2 is S3 c3 u3 J3 y1 y2 y3 y4 y5 y6 y7 y8 y9 y10 => ?_)
  exact hP x2 is S3 c3 u3 J3 ⟨y1, y2, y3, y4, y5, y6, by omega, by omega, by omega, by omega⟩
