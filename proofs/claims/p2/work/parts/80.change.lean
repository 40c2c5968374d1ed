/-! ===== a change keeps what holds of the state ===== -/
theorem TreeI.cg {m m' R n : Nat} {N N' : Nat → Nd} {og : Nat → Nat} (h : NdOk m N) (t : TreeI m N R n og) (hm : m ≤ m') (e : ∀ k, k < m → N' k = N k) : TreeI m' N' R n og := by
  obtain ⟨t1, t2, t3, t4, t5, t6, t7, t8⟩ := t
  have hy : yl N' R = yl N R := yl_cg h (fun c hc => by rw [e c hc]; exact NdE.rf) t1
  refine ⟨by omega, by rw [e R t1]; exact t2, by rw [hy]; exact t3, t4, fun i hi => ?_, fun z hz => ?_, t7, t8⟩
  · obtain ⟨a, b⟩ := t5 i hi
    exact ⟨by omega, by rw [e _ a]; exact b⟩
  · rw [hy] at hz
    rw [e z (by have := (yl_mem h R t1 z hz).1; omega)]
    exact t6 z hz
theorem MoOk.cg {m m' : Nat} {N N' : Nat → Nd} {x : Mo} (h : NdOk m N) (o : MoOk m N x) (hm : m ≤ m') (e : ∀ k, k < m → N' k = N k) : MoOk m' N' x := by
  obtain ⟨o1, o2, o3, o4, o5⟩ := o
  refine ⟨o1, o2, o3, o4.cg h hm e, fun i y hy => ?_⟩
  have hi := (List.getElem?_eq_some_iff.mp hy).1
  rw [e _ (o4.2.2.2.2.1 i hi).1]
  exact o5 i y hy
theorem rnL_mem {N : Nat → Nd} {F : List Fl} : ∀ (d p : Nat), ∀ r ∈ rnL N F d p, ∃ x ∈ F, x.1 = r ∧ ndM (N r) = 1
  | 0, _, r, hr => by cases hr
  | d + 1, p, r, hr => by
    cases hx : F[p]? with
    | none =>
      rw [rnL_no (List.getElem?_eq_none_iff.mp hx)] at hr
      cases hr
    | some x =>
      rw [rnL_at hx] at hr
      by_cases u : ndM (N x.1) = 1
      · rw [if_pos u] at hr
        rcases List.mem_cons.mp hr with rfl | hr
        · exact ⟨x, List.mem_of_getElem? hx, rfl, u⟩
        · exact rnL_mem d _ r hr
      · rw [if_neg u] at hr
        exact rnL_mem d _ r hr
theorem runs_ok {m R n : Nat} {og : Nat → Nat} {N : Nat → Nd} (hN : NdOk m N) (hu : UqE m N) (t : TreeI m N R n og) : (∀ r ∈ runsOf N R, r < m) ∧ (runsOf N R).length ≤ 99 := by
  have fg := t.flG hN hu
  refine ⟨fun r hr => ?_, ?_⟩
  · obtain ⟨x, hx, hx1, -⟩ := rnL_mem 400 0 r hr
    obtain ⟨p, hp⟩ := List.mem_iff_getElem?.mp hx
    rw [← hx1]
    exact (fg.1.2 p x hp).1
  · have := rnL_len (F := flR N R) hN 400 0 0 [(R, 0, 1)] (fun y hy => by cases List.mem_singleton.mp hy; exact t.1) (by
      rw [List.drop_zero]
      show fl N R 0 0 0 1 = fl N R 0 0 0 1 ++ []
      rw [List.append_nil])
    rw [tkW_cons] at this
    change (runsOf N R).length ≤ ndT (N R) + 0 at this
    have h2 := t.tk hN
    have h3 := t.2.2.2.2.2.2.2
    omega
theorem layAllR_ok {rs : List Nat} {pl : List (Nat × Nat)} (hrs : ∀ r ∈ rs, r < 3400) (hu : PrU pl) : PrU (layAllR rs pl) ∧ pl.length ≤ (layAllR rs pl).length ∧ (layAllR rs pl).length ≤ pl.length + rs.length := by
  unfold layAllR
  by_cases h0 : rs.length = 0
  · rw [if_pos h0]
    exact ⟨hu, Nat.le_refl _, by omega⟩
  · rw [if_neg h0]
    obtain ⟨a1, a2, a3, a4⟩ := layR_ok hrs 9 0 rs.length pl (by omega) hu
    exact ⟨a1, a2, by omega⟩
/-- all about naming and growing, at once -/
theorem reg_ok {x : Sg} {d : List Int32} (hv : Iv x) (hd : txOk d) : ∃ (m1 : Nat) (g : Nat → Nat) (N1 : Nat → Nd) (k : Nat) (y : Gs), reg x d = ((m1, g, N1), k, y) ∧
    namF (txF d) (lexL d) (kAhead (txF (moG (sgC x))) (lexL (moG (sgC x))) (txF d) (lexL d)) (kBehind (txF (moG (sgC x))) (lexL (moG (sgC x))) (txF d) (lexL d)) (lexL (moG (sgC x))).length (moO (sgC x)) (sgE x + 1) (lexL d).length 0 (sgM x) (fun _ => 0) (sgN x) = (m1, g, N1) ∧
    gRun (flR (sgN x) (moR (sgC x))) (kAhead (txF (moG (sgC x))) (lexL (moG (sgC x))) (txF d) (lexL d)) (kBehind (txF (moG (sgC x))) (lexL (moG (sgC x))) (txF d) (lexL d)) (lexL d).length (lexL (moG (sgC x))).length g (sgE x + 1) 2000 0 (0, m1, N1, [(0, 0)], 0) = (k, y) ∧
    (GE (flR (sgN x) (moR (sgC x))) (kAhead (txF (moG (sgC x))) (lexL (moG (sgC x))) (txF d) (lexL d)) (kBehind (txF (moG (sgC x))) (lexL (moG (sgC x))) (txF d) (lexL d)) (lexL d).length (lexL (moG (sgC x))).length g (fun i => ((lexL d).getD i (10, 0, 0)).1) ∧
      GI (flR (sgN x) (moR (sgC x))) (lexL d).length (lexL (moG (sgC x))).length g (fun i => ((lexL d).getD i (10, 0, 0)).1) m1 0 m1 N1 [(0, 0)] 0 ∧
      (∀ i, i < (lexL d).length → ∀ j, wasN (kAhead (txF (moG (sgC x))) (lexL (moG (sgC x))) (txF d) (lexL d)) (kBehind (txF (moG (sgC x))) (lexL (moG (sgC x))) (txF d) (lexL d)) (lexL d).length (lexL (moG (sgC x))).length i = some j → g i = moO (sgC x) j) ∧ sgM x ≤ m1 ∧ m1 ≤ sgM x + 100) ∧
    ((∀ k, k < sgM x → y.2.2.1 k = sgN x k) ∧ m1 ≤ y.2.1 ∧ y.2.1 ≤ m1 + 149 ∧ NdOk y.2.1 y.2.2.1 ∧ UqE y.2.1 y.2.2.1 ∧ TkI y.2.2.1 (txF d) (lexL d) g ∧ (∀ c, c < y.2.1 → ndT (y.2.2.1 c) ≤ 100) ∧
      (y.1 + 1 = (lexL d).length → topS y.2.2.2.1 = 1 → ∃ b : Nat × Nat, y.2.2.2.1 = [b, (regR x d, 1)] ∧ TreeI y.2.1 y.2.2.1 (regR x d) (lexL d).length g)) := by
  obtain ⟨-, hN, hu, hm, hT, -, -, hC, -⟩ := hv
  obtain ⟨c1, c2, c3, c4, c5⟩ := hC
  have hl := lex_lxo hd
  have hl' := lex_lxo c2
  rcases hn : namF (txF d) (lexL d) (kAhead (txF (moG (sgC x))) (lexL (moG (sgC x))) (txF d) (lexL d)) (kBehind (txF (moG (sgC x))) (lexL (moG (sgC x))) (txF d) (lexL d)) (lexL (moG (sgC x))).length (moO (sgC x)) (sgE x + 1) (lexL d).length 0 (sgM x) (fun _ => 0) (sgN x) with ⟨m1, g, N1⟩
  rcases hr : gRun (flR (sgN x) (moR (sgC x))) (kAhead (txF (moG (sgC x))) (lexL (moG (sgC x))) (txF d) (lexL d)) (kBehind (txF (moG (sgC x))) (lexL (moG (sgC x))) (txF d) (lexL d)) (lexL d).length (lexL (moG (sgC x))).length g (sgE x + 1) 2000 0 (0, m1, N1, [(0, 0)], 0) with ⟨k, y⟩
  obtain ⟨ge, gi, gj, hog, hnew, hm0, hm1, htk, hinj⟩ := naming_ok hN hu c4 c5 hl hl' hn
  obtain ⟨q1, q2, q3, q4, q5, q6, q7⟩ := grown_ok hN hu c4 c5 hl hl' hn hr
  have hreg : reg x d = ((m1, g, N1), k, y) := by
    unfold reg
    dsimp only
    rw [hn]
    dsimp only
    rw [hr]
  have hk100 := hl.2.2.1
  refine ⟨m1, g, N1, k, y, hreg, rfl, hr, ⟨ge, gi, hog, hm0, by omega⟩, q1, q2, q3, q4, q5, q6, ?_, ?_⟩
  · have := gRun_inv (e := sgE x + 1) ge (P := fun z => GJ (sgM x) (sgN x) g z.1 z.2.1 z.2.2.1 z.2.2.2.1 ∧ ∀ c, c < z.2.1 → ndT (z.2.2.1 c) ≤ 100) (grown_tk hN c4 rfl hog hnew hm0 ge) 2000 0 (0, m1, N1, [(0, 0)], 0) gi ⟨gj, fun c hc => ?_⟩
    · rw [hr] at this
      exact this.2
    · dsimp only at hc ⊢
      by_cases u : c < sgM x
      · rw [gj.2.2.2.2.2 c u]
        exact hT c u
      · obtain ⟨-, -, -, -, -, a6, -⟩ := namF_ok _ _ _ _ _ _ _ _ hn
        obtain ⟨i', -, -, b3⟩ := a6 c (by omega) hc
        rw [b3]
        exact (by decide : 1 ≤ 100)
  · intro h1 h2
    obtain ⟨b, R', e1, e2⟩ := q7 h1 h2
    have hRR : regR x d = R' := by
      unfold regR regY
      rw [hreg]
      dsimp only
      rw [e1]
      rfl
    rw [hRR]
    exact ⟨b, e1, e2⟩
theorem chg_ok {x : Sg} {d tp : List Int32} (hv : Iv x) (hd : txOk d) (hr : ¬ refu x d) (htp : tp.length ≤ 200 ∧ ∀ b ∈ tp, byt b) (he : sgE x < 100000) : Iv (chg x d tp) := by
  obtain ⟨m1, g, N1, k, y, hreg, hn, hrun, ⟨ge, gi, hog, hm0, hm1⟩, q1, q2, q3, q4, q5, q6, q7, q8⟩ := reg_ok hv hd
  obtain ⟨-, hN, hu, hm, hT, ⟨hP1, hP2⟩, -, hC, hA, hZ, hAZ⟩ := hv
  have hY : regY x d = y := by
    unfold regY
    rw [hreg]
  unfold refu at hr
  have hA2 : ∀ z ∈ (sgC x :: sgA x).take 20, MoOk (sgM x) (sgN x) z := fun z hz => by
    rcases List.mem_cons.mp (List.mem_of_mem_take hz) with rfl | hz
    · exact hC
    · exact hA z hz
  have hlen : ((sgC x :: sgA x).take 20).length + ([] : List Mo).length ≤ 20 := by
    rw [List.length_take]
    show min 20 _ + 0 ≤ 20
    omega
  unfold Iv chg newC
  rw [hY]
  by_cases hg : y.1 + 1 = (lexL d).length ∧ topS y.2.2.2.1 = 1
  · rw [if_pos hg, if_pos hg, if_pos hg]
    obtain ⟨b, e1, e2⟩ := q8 hg.1 hg.2
    obtain ⟨r1, r2⟩ := runs_ok q4 q5 e2
    obtain ⟨l1, l2, l3⟩ := layAllR_ok (pl := sgP x) (rs := runsOf y.2.2.1 (regR x d)) (fun r hr => by have := r1 r hr; omega) hP1
    refine ⟨htp, q4, q5, (show y.2.1 ≤ 3250 by omega), q7, ⟨l1, (show (layAllR (runsOf y.2.2.1 (regR x d)) (sgP x)).length ≤ 3999 by omega)⟩, (show sgE x + 1 ≤ 100000 by omega), ⟨hd, hd, fun _ => rfl, ?_, ?_⟩, fun z hz => (hA2 z hz).cg hN (by show sgM x ≤ y.2.1; omega) q1, fun z hz => (by cases hz), hlen⟩
    · show TreeI y.2.1 y.2.2.1 (regR x d) (lexL d).length (reg x d).1.2.1
      rw [hreg]
      exact e2
    · show TkI y.2.2.1 (txF d) (lexL d) (reg x d).1.2.1
      rw [hreg]
      exact q6
  · rw [if_neg hg, if_neg hg, if_neg hg]
    exact ⟨htp, hN, hu, hm, hT, ⟨hP1, hP2⟩, (show sgE x + 1 ≤ 100000 by omega), ⟨hd, hC.2.1, (fun u => by cases u), hC.2.2.2.1, hC.2.2.2.2⟩, hA2, fun z hz => (by cases hz), hlen⟩
