/-! ===== print: the walk ===== -/
def EnV (N : Nat → Nd) (R : Nat) (w : List Nat) : Prop := ∀ e ∈ w, e < 1000 ∨ ∃ c p d, e = 1000 + c ∧ InP N R c p d
theorem EnV.pos {m R n : Nat} {N : Nat → Nd} {og : Nat → Nat} {I : zI} (V : Vw I m R n N og) {e : Nat} {w : List Nat} (h : EnV N R (e :: w)) : 1 ≤ bP N e ∧ 1 ≤ bM N e := by
  rcases h e (List.mem_cons_self ..) with u | ⟨c, p, d, u, hI⟩
  · have := b_by (N := N) u
    omega
  · have := sz_pos V.2.1 (V.inp hI).1
    rw [u, bP_nd, bM_nd]
    omega
theorem EnV.len {m R n : Nat} {N : Nat → Nd} {og : Nat → Nat} {I : zI} (V : Vw I m R n N og) : ∀ {w : List Nat}, EnV N R w → w.length ≤ sP N w
  | [], _ => Nat.zero_le _
  | e :: w, h => by
    have h1 := (EnV.pos V h).1
    have h2 := EnV.len V (fun x hx => h x (List.mem_cons_of_mem _ hx))
    rw [List.length_cons, sP_cons]
    omega
theorem EnV.cons {R e : Nat} {N : Nat → Nd} {w : List Nat} (h : EnV N R w) (he : e < 1000 ∨ ∃ c p d, e = 1000 + c ∧ InP N R c p d) : EnV N R (e :: w) := fun x hx => by
  rcases List.mem_cons.mp hx with rfl | hx
  · exact he
  · exact h x hx
theorem op_tok {m c : Nat} {N : Nat → Nd} (hN : NdOk m N) (hc : c < m) (h : 5 ≤ ndM (N c)) : ndT (N c) = 1 := by
  rcases hN c hc with ⟨-, -, -, e, -⟩ | ⟨r, s, hr, -, e, -⟩
  · exact e
  · exfalso
    have := (sy_fin r hr).2
    change syN r < 5 at this
    unfold ndM at h
    rw [e, if_neg (by omega)] at h
    change 5 ≤ syN r at h
    omega
theorem ge1000 {e : Nat} (he : e < 100000) : (1000 : Int32) ≤ zi e ↔ 1000 ≤ e := zi_le (a := 1000) (by decide) (by omega)
theorem s_prints {c0 p0 d0 m R n : Nat} {N : Nat → Nd} {og : Nat → Nat} {I : zI} {K : zI → Prop} (V : Vw I m R n N og) (G : GdW I n) (hI0 : InP N R c0 p0 d0) (hK : ∀ J k, eqQ Qpp I J → k ≤ 792 → J.1 491 80 = zi k → K J) : w_M_prints (zi c0) I K := by
  obtain ⟨l1, l2, l3, l4, l5, l6, l7⟩ := V.len
  have hm := V.2.2.1
  have hN := V.2.1
  have vk : ∀ J, eqQ Qpp I J → Vw J m R n N og ∧ GdW J n := fun J q => ⟨V.kp (fun a j u => q.1 a j (by unfold Qpp; omega)) (fun j => q.2 511 j (by unfold Qpp; omega)), G.kp (fun a j u => q.1 a j (by unfold Qpp; omega))⟩
  unfold w_M_prints
  intro I1 e1
  have q1 : eqQ Qpp I I1 := by rw [e1]; exact eqQ.rf.zu (Or.inr (Or.inr ⟨rfl, rfl⟩))
  rw [show (1000 : Int32) + zi c0 = zi (1000 + c0) by rw [show (1000 : Int32) = zi 1000 from rfl, zi_add]]
  refine r_pushes (w := []) (by decide) trivial (fun J q q80 sp => ?_)
  intro P16 h16
  have main : ∀ (f : Nat) (w : List Nat) (k : Nat) (J : zI), sM N w ≤ f → EnV N R w → sP N w ≤ 347 → k + sB N w ≤ 792 → StkP J w → J.1 491 80 = zi k → eqQ Qpp I J → P16 (zi w.length) J := by
    intro f
    induction f with
    | zero =>
      intro w k J hf hw hp hb hS h80 hq
      cases w with
      | nil =>
        refine h16 _ _ ?_
        rw [if_pos (show zi ([] : List Nat).length ≤ 0 by decide)]
        exact hK J k hq (by omega) h80
      | cons e w =>
        have := (EnV.pos V hw).2
        rw [sM_cons] at hf
        omega
    | succ f ih =>
      intro w k J hf hw hp hb hS h80 hq
      cases w with
      | nil =>
        refine h16 _ _ ?_
        rw [if_pos (show zi ([] : List Nat).length ≤ 0 by decide)]
        exact hK J k hq (by omega) h80
      | cons e w =>
        obtain ⟨V1, G1⟩ := vk J hq
        have hl := EnV.len V hw
        rw [List.length_cons] at hl
        have hw' : EnV N R w := fun x hx => hw x (List.mem_cons_of_mem _ hx)
        rw [sM_cons] at hf
        rw [sP_cons] at hp hl
        rw [sB_cons] at hb
        refine h16 _ _ ?_
        rw [List.length_cons, if_neg (show ¬ zi (w.length + 1) ≤ 0 from fun u => by have := (zi_le (b := 0) (by omega) (by decide)).mp u; omega)]
        intro v6 ev6
        rw [← Int32.sub_eq_add_neg, show zi (w.length + 1) - 1 = zi w.length from zi_sub (b := 1) (by omega)] at ev6
        rw [ev6]
        refine ⟨(zin_iff (by omega)).mpr (by omega), fun v7 ev7 => ?_⟩
        rw [zi_tn (show w.length < 2147483648 by omega), hS.1] at ev7
        rw [ev7]
        rcases hw e (List.mem_cons_self ..) with u | ⟨c, p, d, u, hI⟩
        · have := b_by (N := N) u
          rw [if_neg (fun v => by have := (ge1000 (by omega)).mp v; omega)]
          refine r_says (k := k) (by omega) h80 (fun J2 q2 e80 e3 => ?_)
          exact ih w (k + 1) J2 (by omega) hw' (by omega) (by omega) (hS.2.kp (fun j _ => e3 j)) e80 (hq.tr q2)
        · obtain ⟨i1, -⟩ := V.inp hI
          rw [u, bM_nd] at hf
          rw [u, bP_nd] at hp hl
          rw [u, bB_nd] at hb
          have szp := sz_pos hN i1
          rw [u, if_pos ((ge1000 (by omega)).mpr (by omega))]
          intro v4 ev4
          rw [show zi (1000 + c) - 1000 = zi c by rw [show zi (1000 + c) - 1000 = zi (1000 + c - 1000) from zi_sub (b := 1000) (by omega), Nat.add_sub_cancel_left]] at ev4
          rw [ev4]
          have hin : vp_in (zi c) 3700 := (zin_iff (by omega)).mpr (by omega)
          refine ⟨hin, fun v5 ev5 => ?_⟩
          rw [zi_tn (show c < 2147483648 by omega), show J.1 509 c = Int32.ofInt (ndR (N c)) from (V1.1.2 c i1).1] at ev5
          rw [ev5]
          have hne := hN c i1
          rcases hne with ⟨r1, r2, r3, r4, r5⟩ | ⟨r, s, r1, r2, r3, r4, r5, r6, r7, r8⟩
          · rw [r1, if_neg (by decide)]
            refine r_saysToken V1 G1 hI r4 (k := k) (by omega) h80 (fun J2 k' q2 hk' e80 e3 => ?_)
            exact ih w k' J2 (by omega) hw' (by omega) (by omega) (hS.2.kp (fun j _ => e3 j)) e80 (hq.tr q2)
          · rw [r3, zi_int r, if_pos (zi_ge (by omega))]
            have hsz := sz_eq hN i1
            have hch4 := hN.ch c i1
            have child : ∀ {A : zI} {i z : Nat} {K' : Int32 → Prop}, eqQ Qpp I A → (ndC (N c))[i]? = some z → K' (zi z) → w_M_childOf (zi c) (zi i) A K' := fun {A i z K'} qA hz hk' => s_MchildOf (k := i) (vk A qA).1.1 (by omega) i1 hch4 hz hk'
            have k1000 : ∀ z : Nat, (1000 : Int32) + zi z = zi (1000 + z) := fun z => by rw [show (1000 : Int32) = zi 1000 from rfl, zi_add]
            have eqr : ∀ k : Nat, k < 100 → (zi r = zi k ↔ r = k) := fun k hk => zi_eq (by omega) (by omega)
            intro P88 h88
            have op : (r = 4 ∨ r = 6) → P88 := by
              intro hr46
              have hrh : ∃ a b e2 : Nat, ndC (N c) = [a, b, e2] ∧ 5 ≤ ndM (N b) := by
                have hr3 : ∃ x y z : Nat, rhS r = [x, y, z] ∧ 5 ≤ y := by
                  rcases hr46 with v | v
                  · exact ⟨2, 9, 3, by rw [v]; rfl, by decide⟩
                  · exact ⟨3, 10, 4, by rw [v]; rfl, by decide⟩
                obtain ⟨x, y, z, hx, hy⟩ := hr3
                rw [hx] at r6
                cases hC : ndC (N c) with
                | nil => rw [hC] at r6; cases r6
                | cons a l =>
                  cases l with
                  | nil => rw [hC] at r6; cases r6
                  | cons b l =>
                    cases l with
                    | nil => rw [hC] at r6; cases r6
                    | cons e2 l =>
                      cases l with
                      | cons g l => rw [hC] at r6; cases r6
                      | nil =>
                        rw [hC] at r6
                        cases r6
                        exact ⟨a, b, e2, rfl, hy⟩
              obtain ⟨a, b, e2, hC, hb5⟩ := hrh
              have hbm : b < m := by
                have := r7 b (by rw [hC]; exact List.mem_cons_of_mem _ (List.mem_cons_self ..))
                omega
              have hbT := op_tok hN hbm hb5
              have hbs := sz_pos hN hbm
              have eT : ndT (N c) = ndT (N a) + (ndT (N b) + ndT (N e2)) := by
                rw [r8, hC, tkS_cons, tkS_cons, tkS_cons]
                rfl
              have eS : sz N c = 1 + (sz N a + (sz N b + sz N e2)) := by
                rw [hsz, hC, szS_cons, szS_cons, szS_cons]
                rfl
              obtain ⟨pa, da, ha⟩ := V.ch hI (show a ∈ ndC (N c) by rw [hC]; exact List.mem_cons_self ..)
              obtain ⟨pe, de, he⟩ := V.ch hI (show e2 ∈ ndC (N c) by rw [hC]; exact List.mem_cons_of_mem _ (List.mem_cons_of_mem _ (List.mem_cons_self ..)))
              refine h88 ?_
              refine r_pushes (e := 41) (by omega) hS.2 (fun A1 qA1 a80 sA1 => ?_)
              have q1 := hq.tr qA1
              refine child (i := 2) q1 (by rw [hC]; rfl) ?_
              rw [k1000]
              refine r_pushes (by rw [List.length_cons]; omega) sA1 (fun A2 qA2 b80 sA2 => ?_)
              have q2 := q1.tr qA2
              intro P128 h128
              have both : ∀ t : Nat, t < 1000 → P128 (zi t) := by
                intro t ht
                refine h128 _ ?_
                refine r_pushes (by rw [List.length_cons, List.length_cons]; omega) sA2 (fun A3 qA3 c80 sA3 => ?_)
                have q3 := q2.tr qA3
                refine child (i := 0) q3 (by rw [hC]; rfl) ?_
                rw [k1000]
                refine r_pushes (by rw [List.length_cons, List.length_cons, List.length_cons]; omega) sA3 (fun A4 qA4 d80 sA4 => ?_)
                have q4 := q3.tr qA4
                refine r_pushes (e := 40) (by rw [List.length_cons, List.length_cons, List.length_cons, List.length_cons]; omega) sA4 (fun A5 qA5 e80 sA5 => ?_)
                have b1 := b_by (N := N) ht
                have b40 := b_by (N := N) (e := 40) (by decide)
                have b41 := b_by (N := N) (e := 41) (by decide)
                refine ih _ k A5 ?_ (((((hw'.cons (Or.inl (by decide))).cons (Or.inr ⟨e2, pe, de, rfl, he⟩)).cons (Or.inl ht)).cons (Or.inr ⟨a, pa, da, rfl, ha⟩)).cons (Or.inl (by decide))) ?_ ?_ sA5 (by rw [e80, d80, c80, b80, a80]; exact h80) (q4.tr qA5)
                · rw [sM_cons, sM_cons, sM_cons, sM_cons, sM_cons, bM_nd, bM_nd]
                  omega
                · rw [sP_cons, sP_cons, sP_cons, sP_cons, sP_cons, bP_nd, bP_nd]
                  omega
                · rw [sB_cons, sB_cons, sB_cons, sB_cons, sB_cons, bB_nd, bB_nd]
                  omega
              split
              · exact both 43 (by decide)
              · exact both 42 (by decide)
            by_cases u4 : r = 4
            · rw [if_pos (show zi r = 4 from (eqr 4 (by decide)).mpr u4)]
              exact op (Or.inl u4)
            rw [if_neg (show ¬ zi r = 4 from fun v => u4 ((eqr 4 (by decide)).mp v))]
            by_cases u6 : r = 6
            · rw [if_pos (show zi r = 6 from (eqr 6 (by decide)).mpr u6)]
              exact op (Or.inr u6)
            rw [if_neg (show ¬ zi r = 6 from fun v => u6 ((eqr 6 (by decide)).mp v))]
            have mem_le : ∀ z, z ∈ ndC (N c) → ndT (N z) ≤ ndT (N c) ∧ sz N z + 1 ≤ sz N c := by
              intro z hz
              have h1 := tkS_mem (N := N) hz
              rw [← r8] at h1
              refine ⟨h1, ?_⟩
              obtain ⟨L1, L2, hL⟩ := List.append_of_mem hz
              rw [hsz, hL]
              unfold szS
              rw [List.map_append, List.map_cons, List.sum_append, List.sum_cons]
              omega
            by_cases u10 : r = 10
            · rw [if_pos (show zi r = 10 from (eqr 10 (by decide)).mpr u10)]
              obtain ⟨z, z1, -, z2⟩ := hN.child (r := 10) (k := 1) (y := 2) i1 (by rw [r3, u10]) rfl
              have hz := List.mem_of_getElem? z1
              obtain ⟨pz, dz, hIz⟩ := V.ch hI hz
              obtain ⟨m1, m2⟩ := mem_le z hz
              refine child (i := 1) hq z1 ?_
              rw [k1000]
              refine r_pushes (by omega) hS.2 (fun A1 qA1 a80 sA1 => ?_)
              refine ih _ k A1 ?_ (hw'.cons (Or.inr ⟨z, pz, dz, rfl, hIz⟩)) ?_ ?_ sA1 (by rw [a80]; exact h80) (hq.tr qA1)
              · rw [sM_cons, bM_nd]
                omega
              · rw [sP_cons, bP_nd]
                omega
              · rw [sB_cons, bB_nd]
                omega
            · rw [if_neg (show ¬ zi r = 10 from fun v => u10 ((eqr 10 (by decide)).mp v))]
              refine ⟨hin, fun v6 ev6 => ?_⟩
              rw [zi_tn (show c < 2147483648 by omega), (V1.chs i1).1] at ev6
              intro P198 h198
              have inner : ∀ (j : Nat) (A : zI), j ≤ (ndC (N c)).length → eqQ Qpp I A → A.1 491 80 = zi k → StkP A (((ndC (N c)).drop j).map (fun c => 1000 + c) ++ w) → P198 (zi (((ndC (N c)).drop j).map (fun c => 1000 + c) ++ w).length) (zi j - 1) A := by
                intro j
                induction j with
                | zero =>
                  intro A hj qA a80 sA
                  refine h198 _ _ _ ?_
                  rw [if_pos (show zi 0 - 1 < 0 by decide)]
                  rw [List.drop_zero] at sA ⊢
                  obtain ⟨s1, s2, s3⟩ := s_ch (N := N) (w := w) (l := ndC (N c))
                  refine ih _ k A ?_ (fun x hx => ?_) ?_ ?_ sA a80 qA
                  · rw [s3, ← r8]
                    omega
                  · rcases List.mem_append.mp hx with hx | hx
                    · obtain ⟨z, hz, rfl⟩ := List.mem_map.mp hx
                      obtain ⟨pz, dz, hIz⟩ := V.ch hI hz
                      exact Or.inr ⟨z, pz, dz, rfl, hIz⟩
                    · exact hw' x hx
                  · rw [s2, ← r8]
                    omega
                  · rw [s1, ← r8]
                    omega
                | succ j ih2 =>
                  intro A hj qA a80 sA
                  refine h198 _ _ _ ?_
                  rw [show zi (j + 1) - 1 = zi j from zi_sub (b := 1) (by omega), if_neg (zi_pos (by omega))]
                  have hz : (ndC (N c))[j]? = some ((ndC (N c))[j]'(by omega)) := List.getElem?_eq_getElem (by omega)
                  generalize (ndC (N c))[j]'(by omega) = z at hz
                  refine child (i := j) qA hz ?_
                  rw [k1000]
                  have hlen : (((ndC (N c)).drop (j + 1)).map (fun c => 1000 + c) ++ w).length < 700 := by
                    rw [List.length_append, List.length_map, List.length_drop]
                    omega
                  refine r_pushes hlen sA (fun A1 qA1 b80 sA1 => ?_)
                  intro v ev
                  rw [ev, ← Int32.sub_eq_add_neg]
                  have hd : (ndC (N c)).drop j = z :: (ndC (N c)).drop (j + 1) := by
                    rw [List.drop_eq_getElem_cons (by omega : j < (ndC (N c)).length)]
                    have := (List.getElem?_eq_some_iff.mp hz).2
                    rw [this]
                  have := ih2 A1 (by omega) (qA.tr qA1) (by rw [b80]; exact a80) (by rw [hd]; exact sA1)
                  rw [hd] at this
                  exact this
              have := inner (ndC (N c)).length J (Nat.le_refl _) hq h80 (by rw [List.drop_length]; exact hS.2)
              rw [List.drop_length] at this
              rw [ev6]
              exact this
  obtain ⟨z1, -⟩ := V.inp hI0
  have hT := V.2.2.2.2.2.2.2 c0 z1
  have t9 : ndT (N c0) ≤ 99 ∧ sz N c0 ≤ 248 := by
    obtain ⟨f, f1, f2, f3⟩ := hI0
    have a1 := sz_inR hN l7 f1
    rw [f2] at a1
    obtain ⟨-, -, o, o1, -⟩ := fl_in hN R l7 _ _ _ _ _ _ f1
    rw [V.2.2.2.1.tk hN, f2] at o1
    omega
  refine main _ [1000 + c0] 0 J (Nat.le_refl _) (fun x hx => ?_) ?_ ?_ sp ?_ (q1.tr q)
  · rw [List.mem_singleton.mp hx]
    exact Or.inr ⟨c0, p0, d0, rfl, hI0⟩
  · rw [sP_cons, bP_nd]
    show _ + 0 ≤ 347
    omega
  · rw [sB_cons, bB_nd]
    show 0 + (_ + 0) ≤ 792
    omega
  · rw [q80, e1, zu_self]
    rfl
