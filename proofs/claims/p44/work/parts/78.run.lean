/-! ===== the print, the class: it returns ===== -/
def Qpn (a j : Nat) : Prop := (a = 97 ∧ (j = 2 ∨ j = 3)) ∨ a = 99 ∨ a = 110
theorem nle_zi' {k n : Nat} (h : k < n ∧ n < 2147483648) : ¬ zi n ≤ zi k := fun u => by
  have := (zi_le h.2 (by omega)).mp u
  omega
/-- the CHILDREN that are printed -/
def ndU (x : Nd) : List Nat := if ndR x = 10 then ((ndC x).drop 1).take 1 else ndC x
theorem ndU_sub {x : Nd} {z : Nat} (h : z ∈ ndU x) : z ∈ ndC x := by
  unfold ndU at h
  by_cases u : ndR x = 10
  · rw [if_pos u] at h
    exact List.mem_of_mem_drop (List.mem_of_mem_take h)
  · rw [if_neg u] at h
    exact h
def prF (N : Nat → Nd) : Nat → Nat → List Int32
  | 0, _ => []
  | d + 1, c => if ndR (N c) < 0 then ndY (N c) else if ndR (N c) = 4 ∨ ndR (N c) = 6 then 40 :: ((ndU (N c)).flatMap (prF N d) ++ [41]) else (ndU (N c)).flatMap (prF N d)
def prt (N : Nat → Nd) (c : Nat) : List Int32 := prF N (c + 1) c
theorem prF_fu {m : Nat} {N : Nat → Nd} (h : NdOk m N) : ∀ (d d' c : Nat), c < m → c < d → c < d' → prF N d' c = prF N d c
  | 0, _, c, _, h1, _ => by omega
  | _ + 1, 0, c, _, _, h2 => by omega
  | d + 1, d' + 1, c, hc, h1, h2 => by
    show (if ndR (N c) < 0 then ndY (N c) else if ndR (N c) = 4 ∨ ndR (N c) = 6 then 40 :: ((ndU (N c)).flatMap (prF N d') ++ [41]) else (ndU (N c)).flatMap (prF N d')) = (if ndR (N c) < 0 then ndY (N c) else if ndR (N c) = 4 ∨ ndR (N c) = 6 then 40 :: ((ndU (N c)).flatMap (prF N d) ++ [41]) else (ndU (N c)).flatMap (prF N d))
    have e : (ndU (N c)).flatMap (prF N d') = (ndU (N c)).flatMap (prF N d) := flatMap_cg (fun x hx => by
      have := h.lt hc (ndU_sub hx)
      exact prF_fu h d d' x (by omega) (by omega) (by omega))
    rw [e]
theorem prt_eq {m c : Nat} {N : Nat → Nd} (h : NdOk m N) (hc : c < m) : prt N c = if ndR (N c) < 0 then ndY (N c) else if ndR (N c) = 4 ∨ ndR (N c) = 6 then 40 :: ((ndU (N c)).flatMap (prt N) ++ [41]) else (ndU (N c)).flatMap (prt N) := by
  show (if ndR (N c) < 0 then ndY (N c) else if ndR (N c) = 4 ∨ ndR (N c) = 6 then 40 :: ((ndU (N c)).flatMap (prF N c) ++ [41]) else (ndU (N c)).flatMap (prF N c)) = _
  have e : (ndU (N c)).flatMap (prF N c) = (ndU (N c)).flatMap (prt N) := flatMap_cg (fun x hx => by
    have := h.lt hc (ndU_sub hx)
    exact (prF_fu h (x + 1) c x (by omega) (Nat.lt_succ_self x) this).trans rfl)
  rw [e]
/-- a node whose symbol is a token's is a token -/
theorem nd_tk5 {m c : Nat} {N : Nat → Nd} (hN : NdOk m N) (hc : c < m) (h : 5 ≤ ndM (N c)) : ndR (N c) < 0 ∧ ndT (N c) = 1 := by
  rcases hN c hc with ⟨e1, -, -, e, -⟩ | ⟨r, s, hr, -, e, -⟩
  · exact ⟨by omega, e⟩
  · exfalso
    have := (sy_fin r hr).2
    unfold ndM at h
    rw [e, if_neg (by omega), Int.toNat_natCast] at h
    omega
/-- a sum's, a product's CHILDREN -/
theorem op_ch {m c : Nat} {N : Nat → Nd} (hN : NdOk m N) (hc : c < m) (h : ndR (N c) = 4 ∨ ndR (N c) = 6) : ∃ a b e : Nat, ndC (N c) = [a, b, e] ∧ ndM (N b) = (if ndR (N c) = 4 then 9 else 10) ∧ b < c := by
  rcases hN c hc with ⟨e1, -⟩ | ⟨r, s, hr, -, e3, -, -, e6, e7, -⟩
  · omega
  · have hx : ∃ x y z : Nat, rhS r = [x, y, z] ∧ y = (if ndR (N c) = 4 then 9 else 10) := by
      rcases h with u | u
      · have : r = 4 := by omega
        exact ⟨2, 9, 3, by rw [this]; rfl, by rw [if_pos u]⟩
      · have : r = 6 := by omega
        exact ⟨3, 10, 4, by rw [this]; rfl, by rw [if_neg (by omega)]⟩
    obtain ⟨x, y, z, hx, hy⟩ := hx
    rw [hx] at e6
    cases hC : ndC (N c) with
    | nil => rw [hC] at e6; cases e6
    | cons a l =>
      cases l with
      | nil => rw [hC] at e6; cases e6
      | cons b l =>
        cases l with
        | nil => rw [hC] at e6; cases e6
        | cons e2 l =>
          cases l with
          | cons g l => rw [hC] at e6; cases e6
          | nil =>
            rw [hC] at e6
            have hb : ndM (N b) = y := (List.cons.inj (List.cons.inj e6).2).1
            exact ⟨a, b, e2, rfl, by rw [hb, hy], e7 b (by rw [hC]; exact List.mem_cons_of_mem _ (List.mem_cons_self ..))⟩
/-- the bytes of the tokens below a node -/
def tkb (N : Nat → Nd) (c : Nat) : Nat := ((yl N c).map (fun z => (ndY (N z)).length)).sum
theorem sum_fm {f : Nat → List Nat} {g : Nat → Nat} : ∀ (l : List Nat), ((l.flatMap f).map g).sum = (l.map (fun c => ((f c).map g).sum)).sum
  | [] => rfl
  | a :: l => by rw [List.flatMap_cons, List.map_append, List.sum_append, List.map_cons, List.sum_cons, sum_fm l]
theorem tkb_ch {m c : Nat} {N : Nat → Nd} (h : NdOk m N) (hc : c < m) (hr : ¬ ndR (N c) < 0) : tkb N c = ((ndC (N c)).map (tkb N)).sum := by
  show ((yl N c).map (fun z => (ndY (N z)).length)).sum = _
  rw [yl_eq h hc, if_neg hr, sum_fm]
  rfl
theorem tkb_tok {m c : Nat} {N : Nat → Nd} (h : NdOk m N) (hc : c < m) (hr : ndR (N c) < 0) : tkb N c = (ndY (N c)).length := by
  unfold tkb
  rw [yl_eq h hc, if_pos hr]
  rfl
theorem sum_dt {f : Nat → Nat} : ∀ (l : List Nat), (((l.drop 1).take 1).map f).sum ≤ (l.map f).sum
  | [] => Nat.le_refl _
  | [_] => Nat.zero_le _
  | a :: b :: l => by
    show f b + 0 ≤ f a + (f b + (l.map f).sum)
    omega
theorem fm_len {N : Nat → Nd} : ∀ {l : List Nat}, (∀ z ∈ l, (prt N z).length ≤ tkb N z + 2 * ndT (N z)) → (l.flatMap (prt N)).length ≤ (l.map (tkb N)).sum + 2 * tkS N l
  | [], _ => Nat.zero_le _
  | a :: l, h => by
    rw [List.flatMap_cons, List.length_append, List.map_cons, List.sum_cons, tkS_cons]
    have h1 := h a (List.mem_cons_self ..)
    have h2 := fm_len (fun z hz => h z (List.mem_cons_of_mem _ hz))
    omega
theorem prt_len {m : Nat} {N : Nat → Nd} (h : NdOk m N) (c : Nat) : c < m → (prt N c).length ≤ tkb N c + 2 * ndT (N c) := by
  induction c using Nat.strongRecOn with
  | ind c ih =>
    intro hc
    rw [prt_eq h hc]
    by_cases hr : ndR (N c) < 0
    · rw [if_pos hr, tkb_tok h hc hr]
      omega
    · have eT : ndT (N c) = tkS N (ndC (N c)) := by
        rcases h c hc with ⟨e1, -⟩ | ⟨r, s, -, -, -, -, -, -, -, e8⟩
        · omega
        · exact e8
      have hl : ∀ z ∈ ndC (N c), (prt N z).length ≤ tkb N z + 2 * ndT (N z) := fun z hz => by
        have := h.lt hc hz
        exact ih z this (by omega)
      rw [if_neg hr, tkb_ch h hc hr, eT]
      by_cases u : ndR (N c) = 4 ∨ ndR (N c) = 6
      · rw [if_pos u]
        obtain ⟨a, b, e, hC, hb, hbc⟩ := op_ch h hc u
        have hbm : b < m := by omega
        obtain ⟨b1, b2⟩ := nd_tk5 h hbm (by rw [hb]; split <;> decide)
        have hU : ndU (N c) = [a, b, e] := by
          unfold ndU
          rw [if_neg (by omega), hC]
        have pb : prt N b = ndY (N b) := by rw [prt_eq h hbm, if_pos b1]
        have tb := tkb_tok h hbm b1
        have ha := hl a (by rw [hC]; exact List.mem_cons_self ..)
        have he := hl e (by rw [hC]; exact List.mem_cons_of_mem _ (List.mem_cons_of_mem _ (List.mem_cons_self ..)))
        rw [hU, hC]
        show ((prt N a ++ (prt N b ++ (prt N e ++ []))) ++ [41]).length + 1 ≤ (tkb N a + (tkb N b + (tkb N e + 0))) + 2 * (ndT (N a) + (ndT (N b) + (ndT (N e) + 0)))
        rw [List.length_append, List.length_append, List.length_append, List.length_append, pb, tb, b2]
        show (prt N a).length + ((ndY (N b)).length + ((prt N e).length + 0)) + 1 + 1 ≤ _
        omega
      · rw [if_neg u]
        have h1 := fm_len (N := N) (l := ndU (N c)) (fun z hz => hl z (ndU_sub hz))
        unfold ndU at h1 ⊢
        by_cases w : ndR (N c) = 10
        · rw [if_pos w] at h1 ⊢
          have h2 := sum_dt (f := tkb N) (ndC (N c))
          have h3 : tkS N (((ndC (N c)).drop 1).take 1) ≤ tkS N (ndC (N c)) := sum_dt (f := fun z => ndT (N z)) (ndC (N c))
          omega
        · rw [if_neg w] at h1 ⊢
          exact h1
/-! ===== bytes unpacked ===== -/
theorem ur_24 (x : Int32) : ((x.toUInt32 >>> (24 : UInt32)).toInt32 &&& 255).toBitVec.toNat = x.toBitVec.toNat / 256 ^ (3 - 0) % 256 := by
  show ((x.toBitVec >>> (24 : Nat)) &&& 255#32).toNat = _
  rw [BitVec.toNat_and, BitVec.toNat_ushiftRight, Nat.shiftRight_eq_div_pow]
  exact Nat.and_two_pow_sub_one_eq_mod _ 8
theorem ur_16 (x : Int32) : ((x.toUInt32 >>> (16 : UInt32)).toInt32 &&& 255).toBitVec.toNat = x.toBitVec.toNat / 256 ^ (3 - 1) % 256 := by
  show ((x.toBitVec >>> (16 : Nat)) &&& 255#32).toNat = _
  rw [BitVec.toNat_and, BitVec.toNat_ushiftRight, Nat.shiftRight_eq_div_pow]
  exact Nat.and_two_pow_sub_one_eq_mod _ 8
theorem ur_8 (x : Int32) : ((x.toUInt32 >>> (8 : UInt32)).toInt32 &&& 255).toBitVec.toNat = x.toBitVec.toNat / 256 ^ (3 - 2) % 256 := by
  show ((x.toBitVec >>> (8 : Nat)) &&& 255#32).toNat = _
  rw [BitVec.toNat_and, BitVec.toNat_ushiftRight, Nat.shiftRight_eq_div_pow]
  exact Nat.and_two_pow_sub_one_eq_mod _ 8
theorem ur_0 (x : Int32) : ((x.toUInt32 >>> (0 : UInt32)).toInt32 &&& 255).toBitVec.toNat = x.toBitVec.toNat / 256 ^ (3 - 3) % 256 := by
  show ((x.toBitVec >>> (0 : Nat)) &&& 255#32).toNat = _
  rw [BitVec.toNat_and, BitVec.toNat_ushiftRight, Nat.shiftRight_eq_div_pow]
  exact Nat.and_two_pow_sub_one_eq_mod _ 8
theorem nat_dg {f : Nat → Nat} {m k : Nat} (hk : k < m) (hm : m ≤ 4) (hf : ∀ j, j < m → f j < 256) : natV 256 f m * 256 ^ (4 - m) / 256 ^ (3 - k) % 256 = f k := by
  have f0 := hf 0 (by omega)
  rcases (by omega : m = 1 ∨ m = 2 ∨ m = 3 ∨ m = 4) with rfl | rfl | rfl | rfl
  · obtain rfl : k = 0 := by omega
    show (256 * 0 + f 0) * 16777216 / 16777216 % 256 = f 0
    omega
  · have f1 := hf 1 (by omega)
    rcases (by omega : k = 0 ∨ k = 1) with rfl | rfl
    · show (256 * (256 * 0 + f 0) + f 1) * 65536 / 16777216 % 256 = f 0
      omega
    · show (256 * (256 * 0 + f 0) + f 1) * 65536 / 65536 % 256 = f 1
      omega
  · have f1 := hf 1 (by omega)
    have f2 := hf 2 (by omega)
    rcases (by omega : k = 0 ∨ k = 1 ∨ k = 2) with rfl | rfl | rfl
    · show (256 * (256 * (256 * 0 + f 0) + f 1) + f 2) * 256 / 16777216 % 256 = f 0
      omega
    · show (256 * (256 * (256 * 0 + f 0) + f 1) + f 2) * 256 / 65536 % 256 = f 1
      omega
    · show (256 * (256 * (256 * 0 + f 0) + f 1) + f 2) * 256 / 256 % 256 = f 2
      omega
  · have f1 := hf 1 (by omega)
    have f2 := hf 2 (by omega)
    have f3 := hf 3 (by omega)
    rcases (by omega : k = 0 ∨ k = 1 ∨ k = 2 ∨ k = 3) with rfl | rfl | rfl | rfl
    · show (256 * (256 * (256 * (256 * 0 + f 0) + f 1) + f 2) + f 3) * 1 / 16777216 % 256 = f 0
      omega
    · show (256 * (256 * (256 * (256 * 0 + f 0) + f 1) + f 2) + f 3) * 1 / 65536 % 256 = f 1
      omega
    · show (256 * (256 * (256 * (256 * 0 + f 0) + f 1) + f 2) + f 3) * 1 / 256 % 256 = f 2
      omega
    · show (256 * (256 * (256 * (256 * 0 + f 0) + f 1) + f 2) + f 3) * 1 / 1 % 256 = f 3
      omega
theorem un_pk {t : Nat → Int32} {s m k : Nat} (hk : k < m) (hm : m ≤ 4) (h : ∀ j, j < m → byt (t (s + j))) {a : Int32} (ha : a = zi k ∨ a = zi (k + 4)) : (((pkR t s m).toUInt32 >>> ((24 - (8 * (a &&& 3))).toUInt32 &&& Int32.toUInt32 31)).toInt32) &&& 255 = t (s + k) := by
  have e := pk_nat m hm h
  have hd := byt_dg (h k hk)
  have r : (t (s + k)).toBitVec.toNat = dg 0 (t (s + k)) := (congrArg (fun v : Int32 => v.toBitVec.toNat) hd.2).trans (zi_bv (by have := hd.1; omega))
  have w := nat_dg (f := fun j => dg 0 (t (s + j))) hk hm (fun j hj => (byt_dg (h j hj)).1)
  refine Int32.toBitVec_inj.mp (BitVec.eq_of_toNat_eq ?_)
  rw [r]
  rcases (by omega : k = 0 ∨ k = 1 ∨ k = 2 ∨ k = 3) with rfl | rfl | rfl | rfl
  · rw [show (24 - (8 * (a &&& 3))).toUInt32 &&& Int32.toUInt32 31 = 24 by rcases ha with rfl | rfl <;> decide, ur_24, e]
    exact w
  · rw [show (24 - (8 * (a &&& 3))).toUInt32 &&& Int32.toUInt32 31 = 16 by rcases ha with rfl | rfl <;> decide, ur_16, e]
    exact w
  · rw [show (24 - (8 * (a &&& 3))).toUInt32 &&& Int32.toUInt32 31 = 8 by rcases ha with rfl | rfl <;> decide, ur_8, e]
    exact w
  · rw [show (24 - (8 * (a &&& 3))).toUInt32 &&& Int32.toUInt32 31 = 0 by rcases ha with rfl | rfl <;> decide, ur_0, e]
    exact w
/-- a token's bytes are bytes, and few -/
def bytY (x : Nd) : Prop := (ndY x).length ≤ 8 ∧ ∀ j, j < (ndY x).length → byt (bsF (ndY x) j)
theorem s_byteOf {m c i : Nat} {N : Nat → Nd} {I : zI} {K : Int32 → Prop} (rep : RepNX I m N) (hm : m ≤ 3400) (hc : c < m) (hr : ndR (N c) < 0) (hy : bytY (N c)) (hi : i < (ndY (N c)).length) (hK : K (bsF (ndY (N c)) i)) : w_Nodes_byteOf (zi c) (zi i) I K := by
  obtain ⟨y1, y2⟩ := hy
  obtain ⟨n1, n2, n3⟩ := (rep.2 c hc).2.2.2.2.2.2 hr
  intro P24 h24
  by_cases i4 : 4 ≤ i
  · rw [if_pos (show (4 : Int32) ≤ zi i from (zi_le (a := 4) (by decide) (by omega)).mpr i4)]
    refine (w_get (by decide)).mpr ?_
    rw [rg_in (by decide) (show c < 3400 by omega), show I.1 (39 + 1) c = pkR (bsF (ndY (N c))) (0 + 4) (min 4 ((ndY (N c)).length - 4)) from n3]
    refine h24 _ ?_
    rw [un_pk (k := i - 4) (by omega) (by omega) (fun j hj => y2 _ (by omega)) (Or.inr (by rw [Nat.sub_add_cancel i4])), show 0 + 4 + (i - 4) = i by omega]
    exact hK
  · rw [if_neg (show ¬ (4 : Int32) ≤ zi i from nle_zi' (n := 4) (by omega))]
    refine (w_get (by decide)).mpr ?_
    rw [rg_in (by decide) (show c < 3400 by omega), show I.1 (37 + 1) c = pkR (bsF (ndY (N c))) 0 (min 4 (ndY (N c)).length) from n2]
    refine h24 _ ?_
    rw [un_pk (k := i) (by omega) (by omega) (fun j hj => y2 _ (by omega)) (Or.inl rfl), Nat.zero_add]
    exact hK
/-! ===== the print, the class: what it writes ===== -/
def Qst (a j : Nat) : Prop := (a = 97 ∧ j = 2) ∨ a = 99
def Qob (b a j : Nat) : Prop := (a = 97 ∧ j = 3) ∨ a = b
def Qpw (b a j : Nat) : Prop := (a = 97 ∧ (j = 2 ∨ j = 3)) ∨ a = 99 ∨ a = b
/-- what waits: a byte below 1000, or a node and 1000 -/
def enc (e : Nat) : Int32 := if 1000 ≤ e then zi (e - 1000) else if e = 40 then -41 else -42
theorem enc_nd {c : Nat} : enc (1000 + c) = zi c := by
  unfold enc
  rw [if_pos (by omega), Nat.add_sub_cancel_left]
def pO (N : Nat → Nd) (e : Nat) : List Int32 := if 1000 ≤ e then prt N (e - 1000) else [zi e]
theorem pO_nd {N : Nat → Nd} {c : Nat} : pO N (1000 + c) = prt N c := by
  unfold pO
  rw [if_pos (by omega), Nat.add_sub_cancel_left]
def StkW (I : zI) : List Nat → Prop
  | [] => True
  | e :: w => I.1 99 w.length = enc e ∧ StkW I w
theorem StkW.kp {I J : zI} : ∀ {w : List Nat}, StkW I w → (∀ j, j < w.length → J.1 99 j = I.1 99 j) → StkW J w
  | [], _, _ => trivial
  | e :: w, h, q => ⟨(q w.length (Nat.lt_succ_self _)).trans h.1, h.2.kp (fun j hj => q j (Nat.lt_succ_of_lt hj))⟩
def OutX (a : Nat) (I : zI) (W : List Int32) : Prop := ∀ (i : Nat) (v : Int32), W[i]? = some v → I.1 a i = v
theorem s_putOff {e : Nat} {w : List Nat} {I : zI} {K : zI → Prop} (h2 : I.1 97 2 = zi w.length) (hl : w.length < 1000) (hS : StkW I w) (hK : ∀ J, eqQ Qst I J → J.1 97 2 = zi (e :: w).length → StkW J (e :: w) → K J) : w_Printer_putOff (enc e) I K := by
  unfold w_Printer_putOff
  rw [h2]
  refine (w_set (by decide)).mpr ?_
  rw [rs_in (by decide) hl]
  intro I2 e2
  have g : (zu I (98 + 1) w.length (enc e)).1 97 2 = zi w.length := by
    rw [zu_oo (by decide)]
    exact h2
  rw [g, zi_succ] at e2
  refine hK I2 ?_ (by rw [e2]; exact zu_self) ⟨?_, hS.kp (fun j hj => ?_)⟩
  · rw [e2]
    exact (eqQ.rf.zu (Or.inr rfl)).zu (Or.inl ⟨rfl, rfl⟩)
  · rw [e2, zu_oo (by decide)]
    exact zu_self
  · rw [e2, zu_oo (by decide), zu_at, if_neg (by omega)]
theorem s_wByte {a2 : Nat} {v : Int32} {W : List Int32} {I : zI} {K : zI → Prop} (hb : a2 = 109 ∨ a2 = 111) (h3 : I.1 97 3 = zi W.length) (hl : W.length < 700) (hO : OutX (a2 + 1) I W) (hK : ∀ J, eqQ (Qob (a2 + 1)) I J → J.1 97 3 = zi (W ++ [v]).length → OutX (a2 + 1) J (W ++ [v]) → K J) : w_Printer_writeByte v a2 700 I K := by
  unfold w_Printer_writeByte
  rw [h3]
  refine (w_set (by decide)).mpr ?_
  rw [rs_in (by decide) hl]
  intro I2 e2
  have g : (zu I (a2 + 1) W.length v).1 97 3 = zi W.length := by
    rw [zu_oo (by omega)]
    exact h3
  rw [g, zi_succ] at e2
  refine hK I2 ?_ (by rw [e2, zu_self, List.length_append]; rfl) (fun i u hi => ?_)
  · rw [e2]
    exact (eqQ.rf.zu (Or.inr rfl)).zu (Or.inl ⟨rfl, rfl⟩)
  · rw [e2, zu_oo (by omega)]
    rcases snoc_at hi with hi | ⟨rfl, rfl⟩
    · have hil := (List.getElem?_eq_some_iff.mp hi).1
      rw [zu_at, if_neg (by omega)]
      exact hO i u hi
    · exact zu_self
theorem s_wToken {a2 m c : Nat} {N : Nat → Nd} {W : List Int32} {I : zI} {K : zI → Prop} (hb : a2 = 109 ∨ a2 = 111) (rep : RepNX I m N) (hN : NdOk m N) (hm : m ≤ 3400) (hc : c < m) (hr : ndR (N c) < 0) (hy : bytY (N c)) (h3 : I.1 97 3 = zi W.length) (hl : (W ++ ndY (N c)).length ≤ 700) (hO : OutX (a2 + 1) I W) (hK : ∀ J, eqQ (Qob (a2 + 1)) I J → J.1 97 3 = zi (W ++ ndY (N c)).length → OutX (a2 + 1) J (W ++ ndY (N c)) → K J) : w_Printer_writeToken (zi c) a2 700 I K := by
  intro P2 h2
  have y8 := hy.1
  rw [List.length_append] at hl
  have rp : ∀ J, eqQ (Qob (a2 + 1)) I J → RepNX J m N := fun J q => rep.kp hN.ch (fun a j u1 u2 _ => q.1 a j (by unfold Qob; omega))
  have main : ∀ (d i : Nat) (J : zI), i + d = (ndY (N c)).length → eqQ (Qob (a2 + 1)) I J → J.1 97 3 = zi (W ++ (ndY (N c)).take i).length → OutX (a2 + 1) J (W ++ (ndY (N c)).take i) → P2 (zi i) J := by
    intro d
    induction d with
    | zero =>
      intro i J hi q j3 jO
      refine h2 _ _ ((w_get (by decide)).mpr ?_)
      rw [rg_in (by decide) (show c < 3400 by omega), show J.1 (35 + 1) c = zi (ndY (N c)).length from (((rp J q).2 c hc).2.2.2.2.2.2 hr).1, if_pos ((zi_le (by omega) (by omega)).mpr (by omega))]
      rw [List.take_of_length_le (by omega)] at j3 jO
      exact hK J q j3 jO
    | succ d ih =>
      intro i J hi q j3 jO
      refine h2 _ _ ((w_get (by decide)).mpr ?_)
      rw [rg_in (by decide) (show c < 3400 by omega), show J.1 (35 + 1) c = zi (ndY (N c)).length from (((rp J q).2 c hc).2.2.2.2.2.2 hr).1, if_neg (nle_zi' (by omega))]
      refine s_byteOf (rp J q) hm hc hr hy (by omega) ?_
      refine s_wByte hb j3 (by rw [List.length_append, List.length_take]; omega) jO (fun A qA a3 aO => ?_)
      intro v ev
      have hg : (ndY (N c))[i]? = some (bsF (ndY (N c)) i) := by
        unfold bsF
        rw [List.getD_eq_getElem?_getD, List.getElem?_eq_getElem (by omega)]
        rfl
      have ht : W ++ (ndY (N c)).take i ++ [bsF (ndY (N c)) i] = W ++ (ndY (N c)).take (i + 1) := by
        rw [List.take_add_one, hg, List.append_assoc]
        rfl
      rw [ht] at a3 aO
      rw [ev, zi_succ]
      exact ih (i + 1) A (by omega) (q.tr qA) a3 aO
  exact main (ndY (N c)).length 0 I (by omega) eqQ.rf (by rw [List.take_zero, List.append_nil]; exact h3) (by rw [List.take_zero, List.append_nil]; exact hO)
/-- what is laid there in place of a node -/
def opn (N : Nat → Nd) (c : Nat) (w : List Nat) : List Nat := if ndR (N c) = 4 ∨ ndR (N c) = 6 then 40 :: ((ndU (N c)).map (fun z => 1000 + z) ++ 41 :: w) else (ndU (N c)).map (fun z => 1000 + z) ++ w
theorem s_openUp {m c : Nat} {N : Nat → Nd} {w : List Nat} {I : zI} {K : zI → Prop} (rep : RepNX I m N) (hN : NdOk m N) (hm : m ≤ 3400) (hc : c < m) (hr : ¬ ndR (N c) < 0) (h2 : I.1 97 2 = zi w.length) (hl : w.length + 7 < 1000) (hS : StkW I w) (hK : ∀ J, eqQ Qst I J → J.1 97 2 = zi (opn N c w).length → StkW J (opn N c w) → K J) : w_Printer_openUp (zi c) I K := by
  unfold w_Printer_openUp
  refine (w_get (by decide)).mpr ?_
  have hc4 := hN.ch c hc
  rcases hN c hc with ⟨e1, -⟩ | ⟨r, s, hr11, -, e3, -, -, e6, -⟩
  · omega
  have rp : ∀ J, eqQ Qst I J → RepNX J m N := fun J q => rep.kp hN.ch (fun a j u1 u2 _ => q.1 a j (by unfold Qst; omega))
  have eqr : ∀ k : Nat, k < 100 → (zi r = zi k ↔ r = k) := fun k hk => zi_eq (by omega) (by omega)
  rw [rg_in (by decide) (show c < 3400 by omega), show I.1 (25 + 1) c = Int32.ofInt (ndR (N c)) from (rep.2 c hc).1, e3, zi_int r]
  intro P28 h28
  by_cases u10 : r = 10
  · -- only what is within
    have hU : ndU (N c) = ((ndC (N c)).drop 1).take 1 := by
      unfold ndU
      rw [if_pos (by omega)]
    have hlen : 3 = (ndC (N c)).length := by
      have h1 := congrArg List.length e6
      rw [List.length_map, u10] at h1
      exact h1.symm
    have hz : (ndC (N c))[1]? = some ((ndC (N c))[1]'(by omega)) := List.getElem?_eq_getElem (by omega)
    generalize hze : (ndC (N c))[1]'(by omega) = z at hz
    have hd : ((ndC (N c)).drop 1).take 1 = [z] := by
      rw [List.drop_eq_getElem_cons (by omega : 1 < (ndC (N c)).length), hze]
      rfl
    intro P23 _
    rw [if_neg (show ¬ zi r = 4 from fun v => by have := (eqr 4 (by decide)).mp v; omega), if_neg (show ¬ zi r = 6 from fun v => by have := (eqr 6 (by decide)).mp v; omega)]
    refine h28 0 ?_
    rw [if_pos (show zi r = 10 from (eqr 10 (by decide)).mpr u10)]
    refine s_childOf (k := 1) rep hm hc hc4 hz ?_
    rw [← enc_nd (c := z)]
    refine s_putOff h2 (by omega) hS (fun A qA a2 aS => ?_)
    have ho : opn N c w = (1000 + z) :: w := by
      unfold opn
      rw [if_neg (by omega), hU, hd]
      rfl
    rw [ho] at hK
    exact hK A qA a2 aS
  · have hU : ndU (N c) = ndC (N c) := by
      unfold ndU
      rw [if_neg (by omega)]
    -- all CHILDREN, the last one first
    have kids : ∀ (t : Int32) (w0 : List Nat) (P59 : zI → Prop), (∀ (I_3 : zI), (w_Nodes_childrenOf (zi c) I_3 (fun r_4 => ∀ v4_5, v4_5 = (r_4 - 1) → ∀ (P71 : Int32 → zI → Prop), (∀ (v4_6 : Int32) (I_7 : zI), ((if v4_6 < 0 then (if t = 0 then K I_7 else (w_Printer_putOff (-41) I_7 (fun I_8 => K I_8))) else (w_Nodes_childOf (zi c) v4_6 I_7 (fun r_10 => w_Printer_putOff r_10 I_7 (fun I_11 => ∀ v4_12, v4_12 = (v4_6 + (-1)) → P71 v4_12 I_11))))) → P71 v4_6 I_7) → P71 v4_5 I_3)) → P59 I_3) → (∀ B, eqQ Qst I B → B.1 97 2 = zi ((ndC (N c)).map (fun z => 1000 + z) ++ w0).length → StkW B ((ndC (N c)).map (fun z => 1000 + z) ++ w0) → (if t = 0 then K B else (w_Printer_putOff (-41) B (fun I_8 => K I_8)))) → w0.length + 5 < 1000 → ∀ A, eqQ Qst I A → A.1 97 2 = zi w0.length → StkW A w0 → P59 A := by
      intro t w0 P59 h59 hend hl0 A qA a2 aS
      refine h59 A (s_childrenOf (rp A qA) hN hm hc ?_)
      intro v4 ev4 P71 h71
      have inner : ∀ (k : Nat) (B : zI), k ≤ (ndC (N c)).length → eqQ Qst I B → B.1 97 2 = zi (((ndC (N c)).drop k).map (fun z => 1000 + z) ++ w0).length → StkW B (((ndC (N c)).drop k).map (fun z => 1000 + z) ++ w0) → P71 (zi k - 1) B := by
        intro k
        induction k with
        | zero =>
          intro B hk qB b2 bS
          refine h71 _ _ ?_
          rw [if_pos (show zi 0 - 1 < 0 by decide)]
          rw [List.drop_zero] at b2 bS
          exact hend B qB b2 bS
        | succ k ihk =>
          intro B hk qB b2 bS
          refine h71 _ _ ?_
          rw [show zi (k + 1) - 1 = zi k from zi_sub (b := 1) (by omega), if_neg (zi_pos (by omega))]
          have hz : (ndC (N c))[k]? = some ((ndC (N c))[k]'(by omega)) := List.getElem?_eq_getElem (by omega)
          have hd : (ndC (N c)).drop k = (ndC (N c))[k]'(by omega) :: (ndC (N c)).drop (k + 1) := List.drop_eq_getElem_cons (by omega)
          generalize (ndC (N c))[k]'(by omega) = z at hz hd
          refine s_childOf (rp B qB) hm hc hc4 hz ?_
          have hlen : (((ndC (N c)).drop (k + 1)).map (fun z => 1000 + z) ++ w0).length < 1000 := by
            rw [List.length_append, List.length_map, List.length_drop]
            omega
          rw [← enc_nd (c := z)]
          refine s_putOff b2 hlen bS (fun D qD d2 dS => ?_)
          intro v ev
          rw [ev, ← Int32.sub_eq_add_neg]
          have := ihk D (by omega) (qB.tr qD) (by rw [hd]; exact d2) (by rw [hd]; exact dS)
          exact this
      rw [ev4]
      exact inner (ndC (N c)).length A (Nat.le_refl _) qA (by rw [List.drop_length]; exact a2) (by rw [List.drop_length]; exact aS)
    by_cases u46 : r = 4 ∨ r = 6
    · have ho : opn N c w = 40 :: ((ndC (N c)).map (fun z => 1000 + z) ++ 41 :: w) := by
        unfold opn
        rw [if_pos (by omega), hU]
      rw [ho] at hK
      have yes : P28 1 := by
        refine h28 1 ?_
        rw [if_neg (show ¬ zi r = 10 from fun v => u10 ((eqr 10 (by decide)).mp v))]
        intro P59 h59
        rw [if_neg (show ¬ (1 : Int32) = 0 by decide)]
        refine s_putOff (e := 41) h2 (by omega) hS (fun A qA a2 aS => ?_)
        refine kids 1 (41 :: w) P59 h59 (fun B qB b2 bS => ?_) (by rw [List.length_cons]; omega) A qA a2 aS
        rw [if_neg (show ¬ (1 : Int32) = 0 by decide)]
        refine s_putOff (e := 40) b2 (by rw [List.length_append, List.length_map, List.length_cons]; omega) bS (fun D qD d2 dS => ?_)
        exact hK D (qB.tr qD) d2 dS
      intro P23 h23
      rcases u46 with u | u
      · rw [if_pos (show zi r = 4 from (eqr 4 (by decide)).mpr u)]
        exact h23 yes
      · rw [if_neg (show ¬ zi r = 4 from fun v => by have := (eqr 4 (by decide)).mp v; omega), if_pos (show zi r = 6 from (eqr 6 (by decide)).mpr u)]
        exact h23 yes
    · have ho : opn N c w = (ndC (N c)).map (fun z => 1000 + z) ++ w := by
        unfold opn
        rw [if_neg (by omega), hU]
      rw [ho] at hK
      intro P23 _
      rw [if_neg (show ¬ zi r = 4 from fun v => u46 (Or.inl ((eqr 4 (by decide)).mp v))), if_neg (show ¬ zi r = 6 from fun v => u46 (Or.inr ((eqr 6 (by decide)).mp v)))]
      refine h28 0 ?_
      rw [if_neg (show ¬ zi r = 10 from fun v => u10 ((eqr 10 (by decide)).mp v))]
      intro P59 h59
      rw [if_pos (show (0 : Int32) = 0 from rfl)]
      refine kids 0 w P59 h59 (fun B qB b2 bS => ?_) (by omega) I eqQ.rf h2 hS
      rw [if_pos (show (0 : Int32) = 0 from rfl)]
      exact hK B qB b2 bS
def mT (N : Nat → Nd) (e : Nat) : Nat := if 1000 ≤ e then 3 * sz N (e - 1000) else 1
theorem mT_nd {N : Nat → Nd} {c : Nat} : mT N (1000 + c) = 3 * sz N c := by
  unfold mT
  rw [if_pos (by omega), Nat.add_sub_cancel_left]
def sT (N : Nat → Nd) (w : List Nat) : Nat := (w.map (mT N)).sum
theorem sT_cons {N : Nat → Nd} {e : Nat} {w : List Nat} : sT N (e :: w) = mT N e + sT N w := by
  unfold sT
  rw [List.map_cons, List.sum_cons]
theorem sT_ch {N : Nat → Nd} {w : List Nat} : ∀ {l : List Nat}, sT N (l.map (fun z => 1000 + z) ++ w) = 3 * szS N l + sT N w
  | [] => by
    show sT N w = 3 * 0 + sT N w
    omega
  | c :: l => by
    rw [List.map_cons, List.cons_append, sT_cons, sT_ch, mT_nd, szS_cons]
    omega
def outW (N : Nat → Nd) (w : List Nat) : List Int32 := w.flatMap (pO N)
theorem outW_cons {N : Nat → Nd} {e : Nat} {w : List Nat} : outW N (e :: w) = pO N e ++ outW N w := by
  unfold outW
  rw [List.flatMap_cons]
theorem outW_ch {N : Nat → Nd} {w : List Nat} : ∀ {l : List Nat}, outW N (l.map (fun z => 1000 + z) ++ w) = l.flatMap (prt N) ++ outW N w
  | [] => rfl
  | c :: l => by rw [List.map_cons, List.cons_append, outW_cons, outW_ch, pO_nd, List.flatMap_cons, List.append_assoc]
def EnW (m : Nat) (N : Nat → Nd) (w : List Nat) : Prop := ∀ e ∈ w, e = 40 ∨ e = 41 ∨ ∃ c, e = 1000 + c ∧ c < m ∧ ∀ z ∈ yl N c, bytY (N z)
theorem EnW.pos {m e : Nat} {N : Nat → Nd} {w : List Nat} (hN : NdOk m N) (h : EnW m N (e :: w)) : 1 ≤ mT N e := by
  rcases h e (List.mem_cons_self ..) with rfl | rfl | ⟨c, rfl, hc, -⟩
  · exact Nat.le_refl _
  · exact Nat.le_refl _
  · have := sz_pos hN hc
    rw [mT_nd]
    omega
theorem EnW.len {m : Nat} {N : Nat → Nd} (hN : NdOk m N) : ∀ {w : List Nat}, EnW m N w → w.length ≤ sT N w
  | [], _ => Nat.zero_le _
  | e :: w, h => by
    have h1 := EnW.pos hN h
    have h2 := EnW.len hN (w := w) (fun x hx => h x (List.mem_cons_of_mem _ hx))
    rw [List.length_cons, sT_cons]
    omega
/-- a node opened up: it is printed as it was, takes fewer steps -/
theorem opn_ok {m c : Nat} {N : Nat → Nd} {w : List Nat} (hN : NdOk m N) (hc : c < m) (hr : ¬ ndR (N c) < 0) (hy : ∀ z ∈ yl N c, bytY (N z)) (hw : EnW m N w) : outW N (opn N c w) = prt N c ++ outW N w ∧ sT N (opn N c w) + 1 ≤ 3 * sz N c + sT N w ∧ EnW m N (opn N c w) := by
  have hs : szS N (ndU (N c)) ≤ szS N (ndC (N c)) := by
    unfold ndU
    by_cases u : ndR (N c) = 10
    · rw [if_pos u]
      exact sum_dt (f := sz N) (ndC (N c))
    · rw [if_neg u]
      exact Nat.le_refl _
  have hsz := sz_eq hN hc
  have ch : ∀ z ∈ ndU (N c), z < m ∧ ∀ y ∈ yl N z, bytY (N y) := fun z hz => by
    have hzC := ndU_sub hz
    have := hN.lt hc hzC
    refine ⟨by omega, fun y hy' => hy y ?_⟩
    rw [yl_eq hN hc, if_neg hr]
    exact List.mem_flatMap.mpr ⟨z, hzC, hy'⟩
  have enk : ∀ w0 : List Nat, EnW m N w0 → EnW m N ((ndU (N c)).map (fun z => 1000 + z) ++ w0) := fun w0 h0 x hx => by
    rcases List.mem_append.mp hx with hx | hx
    · obtain ⟨z, hz, rfl⟩ := List.mem_map.mp hx
      obtain ⟨c1, c2⟩ := ch z hz
      exact Or.inr (Or.inr ⟨z, rfl, c1, c2⟩)
    · exact h0 x hx
  rw [prt_eq hN hc, if_neg hr]
  unfold opn
  by_cases u : ndR (N c) = 4 ∨ ndR (N c) = 6
  · rw [if_pos u, if_pos u]
    refine ⟨?_, ?_, fun x hx => ?_⟩
    · rw [outW_cons, outW_ch, outW_cons, List.cons_append, List.append_assoc]
      rfl
    · rw [sT_cons, sT_ch, sT_cons, show mT N 40 = 1 from rfl, show mT N 41 = 1 from rfl]
      omega
    · rcases List.mem_cons.mp hx with rfl | hx
      · exact Or.inl rfl
      · refine enk (41 :: w) (fun y hy' => ?_) x hx
        rcases List.mem_cons.mp hy' with rfl | hy'
        · exact Or.inr (Or.inl rfl)
        · exact hw y hy'
  · rw [if_neg u, if_neg u]
    refine ⟨outW_ch, ?_, enk w hw⟩
    rw [sT_ch]
    omega
theorem s_write {a2 m c0 : Nat} {N : Nat → Nd} {I : zI} {K : Int32 → zI → Prop} (hb : a2 = 109 ∨ a2 = 111) (rep : RepNX I m N) (hN : NdOk m N) (hm : m ≤ 3400) (hc : c0 < m) (hsz : sz N c0 ≤ 300) (hlen : (prt N c0).length ≤ 700) (hy : ∀ z ∈ yl N c0, bytY (N z)) (hK : ∀ J, eqQ (Qpw (a2 + 1)) I J → OutX (a2 + 1) J (prt N c0) → K (zi (prt N c0).length) J) : w_Printer_write (zi c0) a2 700 I K := by
  intro I1 e1 I2 e2
  have q2 : eqQ (Qpw (a2 + 1)) I I2 := by
    rw [e2, e1]
    exact (eqQ.rf.zu (Or.inl ⟨rfl, Or.inr rfl⟩)).zu (Or.inl ⟨rfl, Or.inl rfl⟩)
  have qs : ∀ {A B : zI}, eqQ Qst A B → eqQ (Qpw (a2 + 1)) A B := fun q => q.mono (fun a j h => by unfold Qst at h; unfold Qpw; omega)
  have qo : ∀ {A B : zI}, eqQ (Qob (a2 + 1)) A B → eqQ (Qpw (a2 + 1)) A B := fun q => q.mono (fun a j h => by unfold Qob at h; unfold Qpw; omega)
  have rp : ∀ J, eqQ (Qpw (a2 + 1)) I J → RepNX J m N := fun J q => rep.kp hN.ch (fun a j u1 u2 _ => q.1 a j (by unfold Qpw; omega))
  rw [← enc_nd (c := c0)]
  refine s_putOff (e := 1000 + c0) (w := []) (by rw [e2]; exact zu_self) (by decide) trivial (fun I3 q3 g2 gS => ?_)
  intro P17 h17
  have main : ∀ (f : Nat) (w : List Nat) (W : List Int32) (t : Nat) (J : zI), sT N w ≤ f → t + sT N w ≤ 900 → EnW m N w → W ++ outW N w = prt N c0 → J.1 97 2 = zi w.length → J.1 97 3 = zi W.length → StkW J w → OutX (a2 + 1) J W → eqQ (Qpw (a2 + 1)) I J → P17 (zi t) J := by
    intro f
    have nil : ∀ (W : List Int32) (t : Nat) (J : zI), t ≤ 900 → W ++ outW N [] = prt N c0 → J.1 97 2 = zi ([] : List Nat).length → J.1 97 3 = zi W.length → OutX (a2 + 1) J W → eqQ (Qpw (a2 + 1)) I J → P17 (zi t) J := by
      intro W t J ht ho j2 j3 jO q
      refine h17 _ _ ?_
      intro P105 h105
      have hW : W = prt N c0 := by
        rw [← ho]
        exact (List.append_nil W).symm
      rw [if_neg (show ¬ (10000 : Int32) ≤ zi t from nle_zi' (n := 10000) (by omega)), j2, if_pos (show zi ([] : List Nat).length ≤ 0 by decide)]
      refine h105 ?_
      rw [j3, hW]
      rw [hW] at jO
      exact hK J q jO
    induction f with
    | zero =>
      intro w W t J hf ht hw ho j2 j3 jS jO q
      cases w with
      | nil => exact nil W t J (by omega) ho j2 j3 jO q
      | cons e w =>
        have := EnW.pos hN hw
        rw [sT_cons] at hf
        omega
    | succ f ih =>
      intro w W t J hf ht hw ho j2 j3 jS jO q
      cases w with
      | nil => exact nil W t J (by omega) ho j2 j3 jO q
      | cons e w =>
        have hl := EnW.len hN hw
        have hp := EnW.pos hN hw
        have hw' : EnW m N w := fun x hx => hw x (List.mem_cons_of_mem _ hx)
        rw [sT_cons] at hf ht hl
        rw [List.length_cons] at hl
        rw [outW_cons] at ho
        have hWl : W.length + ((pO N e).length + (outW N w).length) ≤ 700 := by
          have := congrArg List.length ho
          rw [List.length_append, List.length_append] at this
          omega
        refine h17 _ _ ?_
        intro P105 _
        rw [if_neg (show ¬ (10000 : Int32) ≤ zi t from nle_zi' (n := 10000) (by omega)), j2, List.length_cons, if_neg (show ¬ zi (w.length + 1) ≤ 0 from nle_zi' (k := 0) (by omega))]
        intro I6 e6
        rw [show zi (w.length + 1) - 1 = zi w.length from zi_sub (b := 1) (by omega)] at e6
        have s2 : I6.1 97 2 = zi w.length := by rw [e6, zu_self]
        have s3 : I6.1 97 3 = zi W.length := by
          rw [e6, zu_at, if_neg (by omega)]
          exact j3
        have sS : StkW I6 w := jS.2.kp (fun j _ => by rw [e6, zu_oo (by decide)])
        have sO : OutX (a2 + 1) I6 W := fun i v hi => by
          rw [e6, zu_oo (by omega)]
          exact jO i v hi
        have q6 : eqQ (Qpw (a2 + 1)) I I6 := by
          rw [e6]
          exact q.zu (Or.inl ⟨rfl, Or.inl rfl⟩)
        refine (w_get (by decide)).mpr ?_
        rw [s2, rg_in (by decide) (show w.length < 1000 by omega), show I6.1 (98 + 1) w.length = enc e by rw [e6, zu_oo (by decide)]; exact jS.1]
        intro P99 h99
        have nx : ∀ (w' : List Nat) (W' : List Int32) (L : zI), sT N w' + 1 ≤ mT N e + sT N w → EnW m N w' → W' ++ outW N w' = prt N c0 → L.1 97 2 = zi w'.length → L.1 97 3 = zi W'.length → StkW L w' → OutX (a2 + 1) L W' → eqQ (Qpw (a2 + 1)) I L → P99 L := fun w' W' L u1 u2 u3 u4 u5 u6 u7 u8 => h99 L (fun v ev => by
          rw [ev, zi_succ]
          exact ih w' W' (t + 1) L (by omega) (by omega) u2 u3 u4 u5 u6 u7 u8)
        -- a byte
        have byte : ∀ b : Int32, pO N e = [b] → w_Printer_writeByte b a2 700 I6 (fun I_14 => P99 I_14) := by
          intro b hpb
          rw [hpb] at hWl ho
          have hWl' : W.length + (1 + (outW N w).length) ≤ 700 := hWl
          refine s_wByte hb s3 (by omega) sO (fun A qA a3 aO => ?_)
          refine nx w (W ++ [b]) A (by omega) hw' (by rw [List.append_assoc]; exact ho) ?_ a3 (sS.kp (fun j _ => qA.1 99 j (by unfold Qob; omega))) aO (q6.tr (qo qA))
          rw [qA.1 97 2 (by unfold Qob; omega)]
          exact s2
        rcases hw e (List.mem_cons_self ..) with rfl | rfl | ⟨c, rfl, hcm, hcy⟩
        · rw [show enc 40 = -41 from rfl, if_neg (show ¬ (0 : Int32) ≤ -41 by decide), show (-1 : Int32) - (-41) = 40 by decide]
          exact byte 40 rfl
        · rw [show enc 41 = -42 from rfl, if_neg (show ¬ (0 : Int32) ≤ -42 by decide), show (-1 : Int32) - (-42) = 41 by decide]
          exact byte 41 rfl
        · rw [enc_nd, if_pos (zi_ge (by omega))]
          rw [mT_nd] at nx hf ht hl
          rw [pO_nd] at ho hWl
          refine s_isToken (rp I6 q6) hN hm hcm ?_
          by_cases hr : ndR (N c) < 0
          · rw [if_pos hr, if_neg (show ¬ (1 : Int32) = 0 by decide)]
            have hp : prt N c = ndY (N c) := by rw [prt_eq hN hcm, if_pos hr]
            rw [hp] at ho hWl
            have hself : c ∈ yl N c := by
              rw [yl_eq hN hcm, if_pos hr]
              exact List.mem_singleton.mpr rfl
            refine s_wToken hb (rp I6 q6) hN hm hcm hr (hcy c hself) s3 (by rw [List.length_append]; omega) sO (fun A qA a3 aO => ?_)
            have := sz_pos hN hcm
            refine nx w (W ++ ndY (N c)) A (by omega) hw' (by rw [List.append_assoc]; exact ho) ?_ a3 (sS.kp (fun j _ => qA.1 99 j (by unfold Qob; omega))) aO (q6.tr (qo qA))
            rw [qA.1 97 2 (by unfold Qob; omega)]
            exact s2
          · rw [if_neg hr, if_pos (show (0 : Int32) = 0 from rfl)]
            obtain ⟨o1, o2, o3⟩ := opn_ok hN hcm hr hcy hw'
            refine s_openUp (rp I6 q6) hN hm hcm hr s2 (by omega) sS (fun A qA a2' aS => ?_)
            refine nx (opn N c w) W A o2 o3 (by rw [o1]; exact ho) a2' ?_ aS (fun i v hi => ?_) (q6.tr (qs qA))
            · rw [qA.1 97 3 (by unfold Qst; omega)]
              exact s3
            · rw [qA.1 (a2 + 1) i (by unfold Qst; omega)]
              exact sO i v hi
  have z3 : I3.1 97 3 = zi ([] : List Int32).length := by
    rw [q3.1 97 3 (by unfold Qst; omega), e2, zu_at, if_neg (by omega), e1, zu_self]
    rfl
  refine main (sT N [1000 + c0]) [1000 + c0] [] 0 I3 (Nat.le_refl _) ?_ (fun x hx => ?_) ?_ g2 z3 gS (fun i v hi => by cases hi) (q2.tr (qs q3))
  · rw [sT_cons, mT_nd]
    show 0 + (3 * sz N c0 + 0) ≤ 900
    omega
  · cases List.mem_singleton.mp hx
    exact Or.inr (Or.inr ⟨c0, rfl, hc, hy⟩)
  · rw [outW_cons, pO_nd]
    exact List.append_nil _
/-- a node by a RULE has the CHILDREN of its right side -/
theorem NdOk.child {m c r k y : Nat} {N : Nat → Nd} (h : NdOk m N) (hc : c < m) (hr : ndR (N c) = (r : Int)) (hk : (rhS r)[k]? = some y) : ∃ z, (ndC (N c))[k]? = some z ∧ ndM (N z) = y ∧ z < c := by
  rcases h c hc with ⟨e1, -⟩ | ⟨r', s, -, -, e3, -, -, e6, e7, -⟩
  · omega
  · have : r' = r := by omega
    subst this
    rw [← e6, List.getElem?_map] at hk
    cases hz : (ndC (N c))[k]? with
    | none =>
      rw [hz] at hk
      cases hk
    | some z =>
      rw [hz] at hk
      exact ⟨z, rfl, Option.some.inj hk, e7 z (List.mem_of_getElem? hz)⟩
/-- the NAMES' values, in the model -/
def nmV (N : Nat → Nd) (z : Nat) : Int64 := isV (bsF (ndY (N z))) (ndK (N z), 0, (ndY (N z)).length)
/-! ===== an INT's number, the class ===== -/
theorem nat_d0 {N m k : Nat} (hk : m ≤ k) (hk3 : k < 4) (hm : 1 ≤ m) : N * 256 ^ (4 - m) / 256 ^ (3 - k) % 256 = 0 := by
  rcases (by omega : (m = 1 ∧ k = 1) ∨ (m = 1 ∧ k = 2) ∨ (m = 1 ∧ k = 3) ∨ (m = 2 ∧ k = 2) ∨ (m = 2 ∧ k = 3) ∨ (m = 3 ∧ k = 3)) with ⟨rfl, rfl⟩ | ⟨rfl, rfl⟩ | ⟨rfl, rfl⟩ | ⟨rfl, rfl⟩ | ⟨rfl, rfl⟩ | ⟨rfl, rfl⟩
  · show N * 16777216 / 65536 % 256 = 0
    omega
  · show N * 16777216 / 256 % 256 = 0
    omega
  · show N * 16777216 / 1 % 256 = 0
    omega
  · show N * 65536 / 256 % 256 = 0
    omega
  · show N * 65536 / 1 % 256 = 0
    omega
  · show N * 256 / 1 % 256 = 0
    omega
theorem un_no {t : Nat → Int32} {s m k : Nat} (hk : m ≤ k) (hk3 : k < 4) (hm : 1 ≤ m) (h : ∀ j, j < m → byt (t (s + j))) : (((pkR t s m).toUInt32 >>> ((zi (24 - 8 * k)).toUInt32 &&& Int32.toUInt32 31)).toInt32) &&& 255 = 0 := by
  have e := pk_nat m (by omega) h
  have w := nat_d0 (N := natV 256 (fun j => dg 0 (t (s + j))) m) hk hk3 hm
  refine Int32.toBitVec_inj.mp (BitVec.eq_of_toNat_eq ?_)
  rw [show (0 : Int32).toBitVec.toNat = 0 from rfl]
  rcases (by omega : k = 1 ∨ k = 2 ∨ k = 3) with rfl | rfl | rfl
  · rw [show (zi (24 - 8 * 1)).toUInt32 &&& Int32.toUInt32 31 = 16 by decide, ur_16, e]
    exact w
  · rw [show (zi (24 - 8 * 2)).toUInt32 &&& Int32.toUInt32 31 = 8 by decide, ur_8, e]
    exact w
  · rw [show (zi (24 - 8 * 3)).toUInt32 &&& Int32.toUInt32 31 = 0 by decide, ur_0, e]
    exact w
theorem un_yes {t : Nat → Int32} {s m k : Nat} (hk : k < m) (hm : m ≤ 4) (h : ∀ j, j < m → byt (t (s + j))) : (((pkR t s m).toUInt32 >>> ((zi (24 - 8 * k)).toUInt32 &&& Int32.toUInt32 31)).toInt32) &&& 255 = t (s + k) := by
  rw [← un_pk hk hm h (a := zi k) (Or.inl rfl)]
  rcases (by omega : k = 0 ∨ k = 1 ∨ k = 2 ∨ k = 3) with rfl | rfl | rfl | rfl
  · rw [show (24 - (8 * (zi 0 &&& 3)) : Int32) = zi (24 - 8 * 0) by decide]
  · rw [show (24 - (8 * (zi 1 &&& 3)) : Int32) = zi (24 - 8 * 1) by decide]
  · rw [show (24 - (8 * (zi 2 &&& 3)) : Int32) = zi (24 - 8 * 2) by decide]
  · rw [show (24 - (8 * (zi 3 &&& 3)) : Int32) = zi (24 - 8 * 3) by decide]
theorem s_numberOf {t : Nat → Int32} {s m : Nat} {I : zI} {K : Int32 → Prop} (hm1 : 1 ≤ m) (hm : m ≤ 4) (h : ∀ j, j < m → isD (t (s + j)) = true) (hK : K (zi (natV 10 (fun j => dg 48 (t (s + j))) m))) : w_Runner_numberOf (pkR t s m) I K := by
  have hb : ∀ j, j < m → byt (t (s + j)) := fun j hj => by
    obtain ⟨d, d1, d2⟩ := isD_zi (h j hj)
    exact ⟨48 + d, by omega, d2⟩
  intro P5 h5
  have st : ∀ (k : Nat) (v : Int32), k < 4 → P5 (zi (natV 10 (fun j => dg 48 (t (s + j))) (min (k + 1) m))) (zi (24 - 8 * k) + (-8)) → v = zi (natV 10 (fun j => dg 48 (t (s + j))) (min k m)) → P5 v (zi (24 - 8 * k)) := by
    intro k v hk hn hv
    refine h5 _ _ ?_
    rw [if_neg (zi_pos (by omega))]
    intro v3 ev3 P34 h34
    by_cases c : k < m
    · rw [un_yes c hm hb] at ev3
      obtain ⟨d1, d2⟩ := dg_D (h k c)
      rw [Nat.min_eq_left (by omega : k ≤ m)] at hv
      rw [Nat.min_eq_left (by omega : k + 1 ≤ m)] at hn
      rw [ev3, if_neg (show ¬ t (s + k) = 0 from fun u => by
        rw [d2] at u
        have := (zi_eq (b := 0) (by omega) (by decide)).mp u
        omega)]
      refine h34 _ (fun v2 ev2 => ?_)
      rw [ev2]
      have e : (v * 10 + t (s + k)) - 48 = zi (natV 10 (fun j => dg 48 (t (s + j))) (k + 1)) := by
        rw [hv, d2, show (10 : Int32) = zi 10 from rfl, show (48 : Int32) = zi 48 from rfl, zi_mul, zi_add, zi_sub (by omega)]
        show _ = zi (10 * natV 10 (fun j => dg 48 (t (s + j))) k + dg 48 (t (s + k)))
        congr 1
        omega
      rw [e]
      exact hn
    · rw [un_no (by omega) hk hm1 hb] at ev3
      rw [Nat.min_eq_right (by omega : m ≤ k)] at hv
      rw [Nat.min_eq_right (by omega : m ≤ k + 1)] at hn
      rw [ev3, if_pos rfl]
      refine h34 _ (fun v2 ev2 => ?_)
      rw [ev2, hv]
      exact hn
  refine st 0 0 (by decide) ?_ (by rw [Nat.zero_min]; rfl)
  refine st 1 _ (by decide) ?_ rfl
  refine st 2 _ (by decide) ?_ rfl
  refine st 3 _ (by decide) ?_ rfl
  refine h5 _ _ ?_
  rw [if_pos (show zi (24 - 8 * 3) + (-8) < 0 by decide), Nat.min_eq_right (by omega : m ≤ 3 + 1)]
  exact hK
/-! ===== what a node is worth ===== -/
def chN (x : Nd) (k : Nat) : Nat := (ndC x).getD k 0
/-- an INT's number -/
def numY (x : Nd) : Int32 := zi (natV 10 (fun j => dg 48 (bsF (ndY x) j)) (ndY x).length)
/-- en: what each NAME is -/
def evF (N : Nat → Nd) (en : Int64 → Int32) : Nat → Nat → Int32
  | 0, _ => 0
  | d + 1, c => if ndR (N c) = 4 then evF N en d (chN (N c) 0) + evF N en d (chN (N c) 2) else if ndR (N c) = 5 then evF N en d (chN (N c) 0) else if ndR (N c) = 6 then evF N en d (chN (N c) 0) * evF N en d (chN (N c) 2) else if ndR (N c) = 7 then evF N en d (chN (N c) 0) else if ndR (N c) = 8 then en (nmV N (chN (N c) 0)) else if ndR (N c) = 9 then numY (N (chN (N c) 0)) else if ndR (N c) = 10 then evF N en d (chN (N c) 1) else 0
theorem chN_is {m c r k y : Nat} {N : Nat → Nd} (h : NdOk m N) (hc : c < m) (hr : ndR (N c) = (r : Int)) (hk : (rhS r)[k]? = some y) : (ndC (N c))[k]? = some (chN (N c) k) ∧ ndM (N (chN (N c) k)) = y ∧ chN (N c) k < c := by
  obtain ⟨z, z1, z2, z3⟩ := h.child hc hr hk
  have e : chN (N c) k = z := by
    unfold chN
    rw [List.getD_eq_getElem?_getD, z1]
    rfl
  rw [e]
  exact ⟨z1, z2, z3⟩
theorem evF_fu {m : Nat} {N : Nat → Nd} {en : Int64 → Int32} (h : NdOk m N) : ∀ (d d' c : Nat), c < m → c < d → c < d' → evF N en d' c = evF N en d c
  | 0, _, c, _, h1, _ => by omega
  | _ + 1, 0, c, _, _, h2 => by omega
  | d + 1, d' + 1, c, hc, h1, h2 => by
    have cl : ∀ (r k y : Nat), ndR (N c) = (r : Int) → (rhS r)[k]? = some y → evF N en d' (chN (N c) k) = evF N en d (chN (N c) k) := fun r k y hr hk => by
      obtain ⟨-, -, z3⟩ := chN_is h hc hr hk
      exact evF_fu h d d' _ (by omega) (by omega) (by omega)
    show (if ndR (N c) = 4 then evF N en d' (chN (N c) 0) + evF N en d' (chN (N c) 2) else if ndR (N c) = 5 then evF N en d' (chN (N c) 0) else if ndR (N c) = 6 then evF N en d' (chN (N c) 0) * evF N en d' (chN (N c) 2) else if ndR (N c) = 7 then evF N en d' (chN (N c) 0) else if ndR (N c) = 8 then en (nmV N (chN (N c) 0)) else if ndR (N c) = 9 then numY (N (chN (N c) 0)) else if ndR (N c) = 10 then evF N en d' (chN (N c) 1) else 0) = (if ndR (N c) = 4 then evF N en d (chN (N c) 0) + evF N en d (chN (N c) 2) else if ndR (N c) = 5 then evF N en d (chN (N c) 0) else if ndR (N c) = 6 then evF N en d (chN (N c) 0) * evF N en d (chN (N c) 2) else if ndR (N c) = 7 then evF N en d (chN (N c) 0) else if ndR (N c) = 8 then en (nmV N (chN (N c) 0)) else if ndR (N c) = 9 then numY (N (chN (N c) 0)) else if ndR (N c) = 10 then evF N en d (chN (N c) 1) else 0)
    by_cases r4 : ndR (N c) = 4
    · rw [if_pos r4, if_pos r4, cl 4 0 2 r4 rfl, cl 4 2 3 r4 rfl]
    rw [if_neg r4, if_neg r4]
    by_cases r5 : ndR (N c) = 5
    · rw [if_pos r5, if_pos r5, cl 5 0 3 r5 rfl]
    rw [if_neg r5, if_neg r5]
    by_cases r6 : ndR (N c) = 6
    · rw [if_pos r6, if_pos r6, cl 6 0 3 r6 rfl, cl 6 2 4 r6 rfl]
    rw [if_neg r6, if_neg r6]
    by_cases r7 : ndR (N c) = 7
    · rw [if_pos r7, if_pos r7, cl 7 0 4 r7 rfl]
    rw [if_neg r7, if_neg r7]
    by_cases r10 : ndR (N c) = 10
    · rw [cl 10 1 2 r10 rfl]
    · rw [if_neg r10, if_neg r10]
/-- what a node is worth -/
def evN (N : Nat → Nd) (en : Int64 → Int32) (c : Nat) : Int32 := evF N en (c + 1) c
theorem evN_eq {m c : Nat} {N : Nat → Nd} {en : Int64 → Int32} (h : NdOk m N) (hc : c < m) : evN N en c = if ndR (N c) = 4 then evN N en (chN (N c) 0) + evN N en (chN (N c) 2) else if ndR (N c) = 5 then evN N en (chN (N c) 0) else if ndR (N c) = 6 then evN N en (chN (N c) 0) * evN N en (chN (N c) 2) else if ndR (N c) = 7 then evN N en (chN (N c) 0) else if ndR (N c) = 8 then en (nmV N (chN (N c) 0)) else if ndR (N c) = 9 then numY (N (chN (N c) 0)) else if ndR (N c) = 10 then evN N en (chN (N c) 1) else 0 := by
  have cl : ∀ (r k y : Nat), ndR (N c) = (r : Int) → (rhS r)[k]? = some y → evF N en c (chN (N c) k) = evN N en (chN (N c) k) := fun r k y hr hk => by
    obtain ⟨-, -, z3⟩ := chN_is h hc hr hk
    exact evF_fu h _ _ _ (by omega) (Nat.lt_succ_self _) z3
  show (if ndR (N c) = 4 then evF N en c (chN (N c) 0) + evF N en c (chN (N c) 2) else if ndR (N c) = 5 then evF N en c (chN (N c) 0) else if ndR (N c) = 6 then evF N en c (chN (N c) 0) * evF N en c (chN (N c) 2) else if ndR (N c) = 7 then evF N en c (chN (N c) 0) else if ndR (N c) = 8 then en (nmV N (chN (N c) 0)) else if ndR (N c) = 9 then numY (N (chN (N c) 0)) else if ndR (N c) = 10 then evF N en c (chN (N c) 1) else 0) = _
  by_cases r4 : ndR (N c) = 4
  · rw [if_pos r4, if_pos r4, cl 4 0 2 r4 rfl, cl 4 2 3 r4 rfl]
  rw [if_neg r4, if_neg r4]
  by_cases r5 : ndR (N c) = 5
  · rw [if_pos r5, if_pos r5, cl 5 0 3 r5 rfl]
  rw [if_neg r5, if_neg r5]
  by_cases r6 : ndR (N c) = 6
  · rw [if_pos r6, if_pos r6, cl 6 0 3 r6 rfl, cl 6 2 4 r6 rfl]
  rw [if_neg r6, if_neg r6]
  by_cases r7 : ndR (N c) = 7
  · rw [if_pos r7, if_pos r7, cl 7 0 4 r7 rfl]
  rw [if_neg r7, if_neg r7]
  by_cases r10 : ndR (N c) = 10
  · rw [cl 10 1 2 r10 rfl]
  · rw [if_neg r10, if_neg r10]
/-! ===== all is RUN: as a function ===== -/
def up6 {α : Type} (f : Int64 → α) (v : Int64) (a : α) : Int64 → α := fun w => if w = v then a else f w
theorem up6_s {α : Type} {f : Int64 → α} {v : Int64} {a : α} : up6 f v a v = a := if_pos rfl
theorem up6_o {α : Type} {f : Int64 → α} {v w : Int64} {a : α} (h : ¬ w = v) : up6 f v a w = f w := if_neg h
/-- the NAME that a node begins with -/
def nmC (N : Nat → Nd) (c : Nat) : Int64 := nmV N (chN (N c) 0)
/-- of each NAME the place where it was set, if it was not read since; of each token what is known of its NAME -/
abbrev UaZ : Type := (Int64 → Option Nat) × (Nat → Int32)
def nt1 (N : Nat → Nd) (L : Int64 → Int32) (y : Fl) (u : UaZ) : UaZ := if ndR (N y.1) = 8 then (up6 u.1 (nmC N y.1) none, fun i => if i = y.2.2.1.toNat then L (nmC N y.1) else u.2 i) else u
def ntR (N : Nat → Nd) (L : Int64 → Int32) : List Fl → UaZ → UaZ
  | [], u => u
  | y :: l, u => ntR N L l (nt1 N L y u)
/-- what NAMES are, which S set them last, how often they were set, where the idle ones were set -/
abbrev RuZ : Type := (Int64 → Int32) × (Int64 → Int32) × (Int64 → Nat) × List Nat × UaZ
def ruE (u : RuZ) : Int64 → Int32 := u.1
def ruL (u : RuZ) : Int64 → Int32 := u.2.1
def ruT (u : RuZ) : Int64 → Nat := u.2.2.1
def ruD (u : RuZ) : List Nat := u.2.2.2.1
def ruQ (u : RuZ) : UaZ := u.2.2.2.2
def ru0 : RuZ := (fun _ => 0, fun _ => -2, fun _ => 0, [], fun _ => none, fun _ => -2)
def ruN1 (N : Nat → Nd) (l : List Fl) (u : RuZ) : RuZ := (ruE u, ruL u, ruT u, ruD u, ntR N (ruL u) l (ruQ u))
def dnD (D : List Nat) : Option Nat → List Nat
  | some q => D ++ [q]
  | none => D
def ruS1 (N : Nat → Nd) (p s : Nat) (w : Int32) (u : RuZ) : RuZ :=
  (up6 (ruE u) (nmC N s) w, up6 (ruL u) (nmC N s) (zi s), up6 (ruT u) (nmC N s) (ruT u (nmC N s) + 1), dnD (ruD u) ((ruQ u).1 (nmC N s)), up6 (ruQ u).1 (nmC N s) (some p), (ruQ u).2)
def ruS (N : Nat → Nd) (F : List Fl) (p s : Nat) (u : RuZ) : RuZ := ruS1 N p s (evN N (ruE u) (chN (N s) 2)) (ruN1 N ((F.drop (p + 3)).take (sz N (chN (N s) 2))) u)
def ruAt (N : Nat → Nd) (F : List Fl) : Nat → RuZ
  | 0 => ru0
  | p + 1 => match F[p]? with
    | some x => if ndR (N x.1) = 2 then ruS N F p x.1 (ruAt N F p) else ruAt N F p
    | none => ruAt N F p
theorem ruAt_s {N : Nat → Nd} {F : List Fl} {p : Nat} {x : Fl} (h : F[p]? = some x) : ruAt N F (p + 1) = if ndR (N x.1) = 2 then ruS N F p x.1 (ruAt N F p) else ruAt N F p := by
  show (match F[p]? with | some x => if ndR (N x.1) = 2 then ruS N F p x.1 (ruAt N F p) else ruAt N F p | none => ruAt N F p) = _
  rw [h]
def ruN (N : Nat → Nd) (R : Nat) : RuZ := ruAt N (flR N R) (flR N R).length
def uI : Option Nat → Int32
  | some p => zi p
  | none => -2
def mnD : List Nat → Nat
  | [] => 400
  | q :: l => min q (mnD l)
theorem mnD_le : ∀ {l : List Nat}, mnD l ≤ 400
  | [] => Nat.le_refl _
  | q :: l => by
    have := mnD_le (l := l)
    show min q (mnD l) ≤ 400
    omega
theorem mnD_sn {q : Nat} (hq : q ≤ 400) : ∀ {l : List Nat}, mnD (l ++ [q]) = min q (mnD l)
  | [] => rfl
  | a :: l => by
    show min a (mnD (l ++ [q])) = min q (min a (mnD l))
    rw [mnD_sn hq]
    omega
/-- which one of the tokens alike is the first -/
def ixNm (N : Nat → Nd) (v : Int64) : List Nat → Nat
  | [] => 0
  | z :: l => if ndM (N z) = 5 ∧ nmV N z = v then 0 else ixNm N v l + 1
theorem ixN_is {N : Nat → Nd} {v : Int64} : ∀ {l : List Nat} {z : Nat}, z ∈ l → ndM (N z) = 5 → nmV N z = v → ∃ w, l[ixNm N v l]? = some w ∧ ndM (N w) = 5 ∧ nmV N w = v
  | [], _, hz, _, _ => by cases hz
  | a :: l, z, hz, h5, hv => by
    unfold ixNm
    by_cases u : ndM (N a) = 5 ∧ nmV N a = v
    · rw [if_pos u]
      exact ⟨a, rfl, u.1, u.2⟩
    · rw [if_neg u]
      rcases List.mem_cons.mp hz with rfl | hz
      · exact absurd ⟨h5, hv⟩ u
      · obtain ⟨w, w1, w2, w3⟩ := ixN_is hz h5 hv
        exact ⟨w, by rw [List.getElem?_cons_succ]; exact w1, w2, w3⟩
theorem ixN_no {N : Nat → Nd} {v : Int64} : ∀ {l : List Nat} {j w : Nat}, j < ixNm N v l → l[j]? = some w → ¬ (ndM (N w) = 5 ∧ nmV N w = v)
  | [], j, w, hj, _ => by
    change j < 0 at hj
    omega
  | a :: l, j, w, hj, hw => by
    unfold ixNm at hj
    by_cases u : ndM (N a) = 5 ∧ nmV N a = v
    · rw [if_pos u] at hj
      omega
    · rw [if_neg u] at hj
      cases j with
      | zero =>
        cases hw
        exact u
      | succ j =>
        rw [List.getElem?_cons_succ] at hw
        exact ixN_no (by omega) hw
theorem ixN_lt {N : Nat → Nd} {l : List Nat} {z : Nat} (hz : z ∈ l) (h5 : ndM (N z) = 5) : ixNm N (nmV N z) l < l.length := by
  obtain ⟨w, w1, -⟩ := ixN_is hz h5 rfl
  exact (List.getElem?_eq_some_iff.mp w1).1
theorem ixN_inj {N : Nat → Nd} {l : List Nat} {y z : Nat} (hy : y ∈ l) (hy5 : ndM (N y) = 5) (hz : z ∈ l) (hz5 : ndM (N z) = 5) (h : ixNm N (nmV N y) l = ixNm N (nmV N z) l) : nmV N y = nmV N z := by
  obtain ⟨w, w1, -, w3⟩ := ixN_is hy hy5 rfl
  obtain ⟨w', v1, -, v3⟩ := ixN_is hz hz5 rfl
  rw [h, v1] at w1
  cases w1
  rw [← w3, v3]
/-! ===== what is needed of nodes laid flat ===== -/
theorem ru4_fin : ∀ r, r < 11 → (syN r = 2 ∨ syN r = 3 ∨ syN r = 4) → 4 ≤ r := by decide +kernel
theorem ru4 {m c : Nat} {N : Nat → Nd} (hN : NdOk m N) (hc : c < m) (h : ndM (N c) = 2 ∨ ndM (N c) = 3 ∨ ndM (N c) = 4) : 4 ≤ ndR (N c) := by
  rcases hN c hc with ⟨e1, -⟩ | ⟨r, s, hr, -, e3, -⟩
  · unfold ndM at h
    rw [e1, if_pos (by decide)] at h
    omega
  · have hM : ndM (N c) = syN r := by
      unfold ndM
      rw [e3, if_neg (by omega)]
      rfl
    rw [hM] at h
    have := ru4_fin r hr h
    omega
theorem sz_tk {m c : Nat} {N : Nat → Nd} (hN : NdOk m N) (hc : c < m) (h : 5 ≤ ndM (N c)) : sz N c = 1 := by
  have h1 := (nd_tk5 hN hc h).1
  rcases hN c hc with ⟨-, e2, -⟩ | ⟨r, s, hr, -, e3, -⟩
  · rw [sz_eq hN hc, e2]
    rfl
  · omega
theorem szS_t1 {N : Nat → Nd} {l : List Nat} {a : Nat} (h : l[0]? = some a) : szS N (l.take 1) = sz N a := by
  cases l with
  | nil => cases h
  | cons x l =>
    have e : x = a := Option.some.inj h
    rw [e]
    show sz N a + 0 = sz N a
    omega
theorem szS_t2 {N : Nat → Nd} {l : List Nat} {a b : Nat} (h : l[0]? = some a) (h1 : l[1]? = some b) : szS N (l.take 2) = sz N a + sz N b := by
  cases l with
  | nil => cases h
  | cons x l =>
    have e : x = a := Option.some.inj h
    rw [e]
    cases l with
    | nil => cases h1
    | cons y l =>
      have e1 : y = b := Option.some.inj h1
      rw [e1]
      show sz N a + (sz N b + 0) = _
      omega
theorem fl_szin {m c q p t dep i : Nat} {N : Nat → Nd} {x : Fl} (hN : NdOk m N) (hc : c < m) (hx : (fl N c q p t dep)[i]? = some x) : x.1 < m ∧ 1 ≤ sz N x.1 ∧ i + sz N x.1 ≤ sz N c := by
  obtain ⟨b1, -, o, -, -, -, e6⟩ := fl_in hN c hc _ _ _ _ _ _ hx
  have hxm : x.1 < m := by omega
  have hp := sz_pos hN hxm
  refine ⟨hxm, hp, ?_⟩
  have h6 := e6 (sz N x.1 - 1) (by omega)
  have h7 : (fl N x.1 x.2.1 (p + i) (t + o) x.2.2.2.1)[sz N x.1 - 1]? = some ((fl N x.1 x.2.1 (p + i) (t + o) x.2.2.2.1)[sz N x.1 - 1]'(by rw [fl_len hN _ hxm]; omega)) := List.getElem?_eq_getElem _
  rw [h7] at h6
  have h8 := (List.getElem?_eq_some_iff.mp h6).1
  rw [fl_len hN c hc] at h8
  omega
theorem sub_in {m R p q : Nat} {N : Nat → Nd} {x y : Fl} (hN : NdOk m N) (hR : R < m) (hx : (flR N R)[p]? = some x) (hy : (flR N R)[q]? = some y) (h1 : p ≤ q) (h2 : q < p + sz N x.1) : q + sz N y.1 ≤ p + sz N x.1 := by
  obtain ⟨b1, -, o, -, -, -, e6⟩ := fl_in hN R hR _ _ _ _ _ _ hx
  have h6 := e6 (q - p) (by omega)
  rw [show p + (q - p) = q by omega] at h6
  have hy' : (fl N R 0 0 0 1)[q]? = some y := hy
  rw [hy'] at h6
  have := (fl_szin hN (by omega) h6.symm).2.2
  omega
/-- a node's CHILD has its place -/
theorem kidP {m R p k z : Nat} {N : Nat → Nd} {x : Fl} (hN : NdOk m N) (hR : R < m) (hx : (flR N R)[p]? = some x) (hk : (ndC (N x.1))[k]? = some z) : ∃ y, (flR N R)[p + 1 + szS N ((ndC (N x.1)).take k)]? = some y ∧ y.1 = z ∧ p + 1 + szS N ((ndC (N x.1)).take k) + sz N z ≤ p + sz N x.1 := by
  obtain ⟨i', y, e1, e2, e3, -⟩ := fl_ch hN hR hx hk
  obtain ⟨hxm, -⟩ := fl_szin hN hR hx
  rw [e1] at e2
  refine ⟨y, e2, e3, ?_⟩
  have h1 := sz_eq hN hxm
  have h2 := szS_take (N := N) hk
  omega
/-- the token that a node begins with -/
theorem fst_tok {m R p z : Nat} {N : Nat → Nd} {x : Fl} (hN : NdOk m N) (hR : R < m) (hx : (flR N R)[p]? = some x) (hk : (ndC (N x.1))[0]? = some z) (h5 : 5 ≤ ndM (N z)) : ∃ t : Nat, x.2.2.1 = (t : Int) ∧ (yl N R)[t]? = some z := by
  obtain ⟨b1, -, o, o1, o2, o3, -⟩ := fl_in hN R hR _ _ _ _ _ _ hx
  have hxm : x.1 < m := by omega
  have hz := hN.lt hxm (List.mem_of_getElem? hk)
  have hzt := (nd_tk5 hN (by omega) h5).1
  have hyz : yl N z = [z] := by rw [yl_eq hN (by omega), if_pos hzt]
  have hy : yl N x.1 = (ndC (N x.1)).flatMap (yl N) := yl_ch hN hxm hk
  have h0 : (yl N x.1)[0]? = some z := by
    rw [hy]
    cases hC : ndC (N x.1) with
    | nil =>
      rw [hC] at hk
      cases hk
    | cons a l =>
      rw [hC] at hk
      cases hk
      rw [List.flatMap_cons, hyz]
      rfl
  have hl := (List.getElem?_eq_some_iff.mp h0).1
  rw [yl_len hN _ hxm] at hl
  rw [o3, List.getElem?_take, if_pos hl, List.getElem?_drop, Nat.add_zero] at h0
  refine ⟨o, ?_, h0⟩
  rw [o2]
  show (if ndT (N x.1) = 0 then (-2 : Int) else ((0 + o : Nat) : Int)) = _
  rw [if_neg (by omega), Nat.zero_add]
theorem seg_po {m R p : Nat} {N : Nat → Nd} {x : Fl} (hN : NdOk m N) (hR : R < m) (hx : (flR N R)[p]? = some x) : (((flR N R).drop p).take (sz N x.1)).map (fun y => y.1) = po N x.1 := by
  obtain ⟨b1, -, o, -, -, -, e6⟩ := fl_in hN R hR _ _ _ _ _ _ hx
  have hxm : x.1 < m := by omega
  have e : ((flR N R).drop p).take (sz N x.1) = fl N x.1 x.2.1 (0 + p) (0 + o) x.2.2.2.1 := by
    refine List.ext_getElem? (fun j => ?_)
    by_cases u : j < sz N x.1
    · rw [List.getElem?_take, if_pos u, List.getElem?_drop]
      exact e6 j u
    · rw [List.getElem?_take, if_neg u, List.getElem?_eq_none (by rw [fl_len hN _ hxm]; omega)]
  rw [e, fl_map hN _ hxm]
/-- where the E of a statement is -/
theorem st_e {m R p : Nat} {N : Nat → Nd} {x : Fl} (hN : NdOk m N) (hR : R < m) (hx : (flR N R)[p]? = some x) (h2 : ndR (N x.1) = 2) : chN (N x.1) 2 < m ∧ chN (N x.1) 0 < m ∧ ndM (N (chN (N x.1) 2)) = 2 ∧ ndM (N (chN (N x.1) 0)) = 5 ∧ (ndC (N x.1))[2]? = some (chN (N x.1) 2) ∧ (ndC (N x.1))[0]? = some (chN (N x.1) 0) ∧ ∃ f, (flR N R)[p + 3]? = some f ∧ f.1 = chN (N x.1) 2 ∧ p + 3 + sz N (chN (N x.1) 2) ≤ p + sz N x.1 := by
  obtain ⟨hxm, -⟩ := fl_szin hN hR hx
  have h2' : ndR (N x.1) = ((2 : Nat) : Int) := h2
  obtain ⟨a1, a2, a3⟩ := chN_is (k := 0) (y := 5) hN hxm h2' rfl
  obtain ⟨b1, b2, b3⟩ := chN_is (k := 1) (y := 7) hN hxm h2' rfl
  obtain ⟨c1, c2, c3⟩ := chN_is (k := 2) (y := 2) hN hxm h2' rfl
  obtain ⟨f, f1, f2, f3⟩ := kidP hN hR hx c1
  rw [szS_t2 a1 b1, sz_tk hN (show chN (N x.1) 0 < m by omega) (by omega), sz_tk hN (show chN (N x.1) 1 < m by omega) (by omega), show p + 1 + (1 + 1) = p + 3 by omega] at f1 f3
  exact ⟨by omega, by omega, c2, a2, c1, a1, f, f1, f2, f3⟩
theorem rl_eq {m c r : Nat} {N : Nat → Nd} (hN : NdOk m N) (hc : c < m) (hr : r < 100) : Int32.ofInt (ndR (N c)) = zi r ↔ ndR (N c) = (r : Int) := by
  constructor
  · intro w
    rcases hN c hc with ⟨f1, -⟩ | ⟨r0, s', f1, -, f3, -⟩
    · rw [f1] at w
      have h0 : Int32.ofInt (-2) < 0 := by decide
      rw [w] at h0
      exact absurd h0 (zi_pos (by omega))
    · rw [f3, zi_int] at w
      have := (zi_eq (by omega) (by omega)).mp w
      rw [f3]
      omega
  · intro u
    rw [u, zi_int]
/-- what the RUNNER needs of NAMES and INTS -/
def tkZ (x : Nd) : Prop := (ndK x = 0 → 1 ≤ (ndY x).length ∧ (ndY x).length ≤ 8 ∧ ∀ j, j < (ndY x).length → isL (bsF (ndY x) j) = true) ∧ (ndK x = 1 → 1 ≤ (ndY x).length ∧ (ndY x).length ≤ 4 ∧ ∀ j, j < (ndY x).length → isD (bsF (ndY x) j) = true)
/-- what the class has when it RUNS -/
def ClZ (I : zI) (m : Nat) (N : Nat → Nd) (R : Nat) : Prop :=
  RepNX I m N ∧ NdOk m N ∧ m ≤ 3400 ∧ R < m ∧ (flR N R).length ≤ 399 ∧ (yl N R).length ≤ 99 ∧ (∀ (p : Nat) (x : Fl), (flR N R)[p]? = some x → I.1 45 p = zi x.1 ∧ I.1 51 p = Int32.ofInt x.2.2.1 ∧ I.1 55 p = zi (sz N x.1)) ∧ I.1 43 12 = zi (flR N R).length ∧ ∀ z, z ∈ yl N R → tkZ (N z)
theorem ClZ.kp {I J : zI} {m R : Nat} {N : Nat → Nd} (h : ClZ I m N R) (q : eqQ Qrr I J) : ClZ J m N R := by
  obtain ⟨rep, hN, hm, hR, hl, hL, fr, f12, tz⟩ := h
  refine ⟨rep.kp hN.ch (fun a j u1 u2 _ => q.1 a j (by unfold Qrr; omega)), hN, hm, hR, hl, hL, fun p x hx => ?_, by rw [q.1 _ _ (by unfold Qrr; omega)]; exact f12, tz⟩
  rw [q.1 45 p (by unfold Qrr; omega), q.1 51 p (by unfold Qrr; omega), q.1 55 p (by unfold Qrr; omega)]
  exact fr p x hx
def NaX (I : zI) (N : Nat → Nd) (L : List Nat) : Prop := ∀ i z : Nat, L[i]? = some z → ndM (N z) = 5 → I.1 71 i = zi (ixNm N (nmV N z) L)
def EnX (I : zI) (N : Nat → Nd) (L : List Nat) (en : Int64 → Int32) : Prop := ∀ z, z ∈ L → ndM (N z) = 5 → I.1 73 (ixNm N (nmV N z) L) = en (nmV N z)
def TmZ (I : zI) (N : Nat → Nd) (L : List Nat) : Prop := ∀ j, j < 100 → (∀ z, z ∈ L → ndM (N z) = 5 → ixNm N (nmV N z) L ≠ j) → I.1 75 j = 0
def RoX (I : zI) (N : Nat → Nd) (L : List Nat) (u : RuZ) : Prop :=
  EnX I N L (ruE u) ∧ (∀ z, z ∈ L → ndM (N z) = 5 → I.1 75 (ixNm N (nmV N z) L) = zi (ruT u (nmV N z)) ∧ I.1 77 (ixNm N (nmV N z) L) = ruL u (nmV N z) ∧ I.1 79 (ixNm N (nmV N z) L) = uI ((ruQ u).1 (nmV N z))) ∧
  (∀ i, i < 100 → I.1 81 i = (ruQ u).2 i) ∧ I.1 69 12 = zi (ruD u).length ∧ I.1 69 13 = zi (mnD (ruD u)) ∧ (∀ v q, (ruQ u).1 v = some q → q < 400) ∧ TmZ I N L
theorem NaX.kp {I J : zI} {N : Nat → Nd} {L : List Nat} (h : NaX I N L) (e : ∀ j, J.1 71 j = I.1 71 j) : NaX J N L := fun i z hi h5 => (e i).trans (h i z hi h5)
theorem RoX.kp {I J : zI} {N : Nat → Nd} {L : List Nat} {u : RuZ} (h : RoX I N L u) (e : ∀ a j, a = 73 ∨ a = 75 ∨ a = 77 ∨ a = 79 ∨ a = 81 ∨ (a = 69 ∧ (j = 12 ∨ j = 13)) → J.1 a j = I.1 a j) : RoX J N L u := by
  obtain ⟨h1, h2, h3, h4, h5, h6⟩ := h
  refine ⟨fun z hz z5 => (e 73 _ (by omega)).trans (h1 z hz z5), fun z hz z5 => ?_, fun i hi => (e 81 i (by omega)).trans (h3 i hi), (e 69 12 (by omega)).trans h4, (e 69 13 (by omega)).trans h5, h6.1, fun j hj hz => (e 75 j (by omega)).trans (h6.2 j hj hz)⟩
  rw [e 75 _ (by omega), e 77 _ (by omega), e 79 _ (by omega)]
  exact h2 z hz z5
def WoX (I : zI) (N : Nat → Nd) (F : List Fl) (en : Int64 → Int32) (lo hi : Nat) : Prop := ∀ (q : Nat) (x : Fl), lo ≤ q → q < hi → F[q]? = some x → 4 ≤ ndR (N x.1) → I.1 83 q = evN N en x.1
theorem ClZ.ix {I : zI} {m R z : Nat} {N : Nat → Nd} (cl : ClZ I m N R) (hz : z ∈ yl N R) (h5 : ndM (N z) = 5) : ixNm N (nmV N z) (yl N R) < 100 := by
  have := ixN_lt (l := yl N R) hz h5
  have := cl.2.2.2.2.2.1
  omega
/-! ===== what is at a place, the class ===== -/
theorem s_worthAt {m R p : Nat} {N : Nat → Nd} {en : Int64 → Int32} {x : Fl} {I : zI} {K : Int32 → Prop} (cl : ClZ I m N R) (na : NaX I N (yl N R)) (he : EnX I N (yl N R) en) (hx : (flR N R)[p]? = some x) (wo : WoX I N (flR N R) en (p + 1) (p + sz N x.1)) (hK : ∀ v, (4 ≤ ndR (N x.1) → v = evN N en x.1) → K v) : w_Runner_worthAt (zi p) I K := by
  have hix : ∀ z, z ∈ yl N R → ndM (N z) = 5 → ixNm N (nmV N z) (yl N R) < 100 := fun z hz h5 => cl.ix hz h5
  obtain ⟨rep, hN, hm, hR, hl, hL, fr, f12, tz⟩ := cl
  have hpl := (List.getElem?_eq_some_iff.mp hx).1
  obtain ⟨x45, x51, x55⟩ := fr p x hx
  obtain ⟨hxm, hx1, -⟩ := fl_szin hN hR hx
  -- a CHILD: its place, its size
  have kid : ∀ (k r y q : Nat), ndR (N x.1) = (r : Int) → (rhS r)[k]? = some y → q = p + 1 + szS N ((ndC (N x.1)).take k) → ∃ f, (flR N R)[q]? = some f ∧ f.1 = chN (N x.1) k ∧ ndM (N (chN (N x.1) k)) = y ∧ (ndC (N x.1))[k]? = some (chN (N x.1) k) ∧ chN (N x.1) k < m ∧ q < 400 ∧ p + 1 ≤ q ∧ q < p + sz N x.1 := by
    intro k r y q hr hk hq
    obtain ⟨c1, c2, c3⟩ := chN_is hN hxm hr hk
    obtain ⟨f, f1, f2, f3⟩ := kidP hN hR hx c1
    rw [← hq] at f1 f3
    have := (List.getElem?_eq_some_iff.mp f1).1
    have := sz_pos hN (show chN (N x.1) k < m by omega)
    exact ⟨f, f1, f2, c2, c1, by omega, by omega, by omega, by omega⟩
  have val : ∀ (k r y q : Nat), ndR (N x.1) = (r : Int) → (rhS r)[k]? = some y → (y = 2 ∨ y = 3 ∨ y = 4) → q = p + 1 + szS N ((ndC (N x.1)).take k) → rg 400 (I.1 (82 + 1)) (zi q) = evN N en (chN (N x.1) k) := by
    intro k r y q hr hk hy hq
    obtain ⟨f, f1, f2, f3, f4, f5, f6, f7, f8⟩ := kid k r y q hr hk hq
    rw [rg_in (by decide) f6]
    have h4 := ru4 hN f5 (by rw [f3]; exact hy)
    have := wo q f f7 f8 f1 (by rw [f2]; exact h4)
    rw [f2] at this
    exact this
  have k0 : p + 1 = p + 1 + szS N ((ndC (N x.1)).take 0) := by
    rw [List.take_zero]
    rfl
  intro v2 ev2
  rw [zi_succ] at ev2
  subst ev2
  refine (w_get (by decide)).mpr (fun v3 ev3 => (w_get (by decide)).mpr ?_)
  rw [rg_in (by decide) (show p < 400 by omega), show I.1 (44 + 1) p = zi x.1 from x45]
  refine (w_get (by decide)).mpr ?_
  rw [rg_in (by decide) (show x.1 < 3400 by omega), show I.1 (25 + 1) x.1 = Int32.ofInt (ndR (N x.1)) from (rep.2 x.1 hxm).1]
  intro P120 h120
  rcases hN x.1 hxm with ⟨e1, -⟩ | ⟨r, s, hr11, -, e3, -⟩
  · rw [e1, if_neg (show ¬ Int32.ofInt (-2) = 4 by decide), if_neg (show ¬ Int32.ofInt (-2) = 5 by decide), if_neg (show ¬ Int32.ofInt (-2) = 6 by decide), if_neg (show ¬ Int32.ofInt (-2) = 7 by decide), if_neg (show ¬ Int32.ofInt (-2) = 8 by decide), if_neg (show ¬ Int32.ofInt (-2) = 9 by decide), if_neg (show ¬ Int32.ofInt (-2) = 10 by decide)]
    exact hK 0 (fun u => by omega)
  have third : ∀ y0 y1, (rhS r)[0]? = some y0 → (rhS r)[1]? = some y1 → 5 ≤ y1 → ∃ q, v3 = zi q ∧ q = p + 1 + szS N ((ndC (N x.1)).take 2) := by
    intro y0 y1 h0 h1 h5
    obtain ⟨f, f1, f2, -, f4, f5, f6, -⟩ := kid 0 r y0 (p + 1) e3 h0 k0
    obtain ⟨g, -, -, g3, g4, g5, -⟩ := kid 1 r y1 _ e3 h1 rfl
    refine ⟨p + 1 + sz N (chN (N x.1) 0) + 1, ?_, ?_⟩
    · rw [ev3, rg_in (by decide) f6, show I.1 (54 + 1) (p + 1) = zi (sz N f.1) from (fr _ f f1).2.2, f2, zi_add, zi_succ]
    · rw [szS_t2 f4 g4, sz_tk hN g5 (by omega)]
      omega
  have ev := evN_eq (en := en) hN hxm
  rw [e3, zi_int r]
  have nr : ∀ b : Nat, b < 100 → r ≠ b → ¬ zi r = zi b := fun b hb hne w => hne ((zi_eq (by omega) (by omega)).mp w)
  have ni : ∀ b : Nat, r ≠ b → ¬ ndR (N x.1) = (b : Int) := fun b hne => by omega
  by_cases r4 : r = 4
  · subst r4
    obtain ⟨q, q1, q2⟩ := third 2 9 rfl rfl (by decide)
    rw [if_pos (show zi 4 = 4 from rfl)]
    refine (w_get (by decide)).mpr ((w_get (by decide)).mpr ?_)
    rw [val 0 4 2 (p + 1) e3 rfl (Or.inl rfl) k0, q1, val 2 4 3 q e3 rfl (Or.inr (Or.inl rfl)) q2]
    refine hK _ (fun _ => ?_)
    rw [ev, if_pos (show ndR (N x.1) = 4 from e3)]
  rw [if_neg (show ¬ zi r = 4 from nr 4 (by decide) r4)]
  rw [if_neg (show ¬ ndR (N x.1) = 4 from ni 4 r4)] at ev
  by_cases r5 : r = 5
  · subst r5
    rw [if_pos (show zi 5 = 5 from rfl)]
    refine h120 ((w_get (by decide)).mpr ?_)
    rw [val 0 5 3 (p + 1) e3 rfl (Or.inr (Or.inl rfl)) k0]
    refine hK _ (fun _ => ?_)
    rw [ev, if_pos (show ndR (N x.1) = 5 from e3)]
  rw [if_neg (show ¬ zi r = 5 from nr 5 (by decide) r5)]
  rw [if_neg (show ¬ ndR (N x.1) = 5 from ni 5 r5)] at ev
  by_cases r6 : r = 6
  · subst r6
    obtain ⟨q, q1, q2⟩ := third 3 10 rfl rfl (by decide)
    rw [if_pos (show zi 6 = 6 from rfl)]
    refine (w_get (by decide)).mpr ((w_get (by decide)).mpr ?_)
    rw [val 0 6 3 (p + 1) e3 rfl (Or.inr (Or.inl rfl)) k0, q1, val 2 6 4 q e3 rfl (Or.inr (Or.inr rfl)) q2]
    refine hK _ (fun _ => ?_)
    rw [ev, if_pos (show ndR (N x.1) = 6 from e3)]
  rw [if_neg (show ¬ zi r = 6 from nr 6 (by decide) r6)]
  rw [if_neg (show ¬ ndR (N x.1) = 6 from ni 6 r6)] at ev
  by_cases r7 : r = 7
  · subst r7
    rw [if_pos (show zi 7 = 7 from rfl)]
    refine h120 ((w_get (by decide)).mpr ?_)
    rw [val 0 7 4 (p + 1) e3 rfl (Or.inr (Or.inr rfl)) k0]
    refine hK _ (fun _ => ?_)
    rw [ev, if_pos (show ndR (N x.1) = 7 from e3)]
  rw [if_neg (show ¬ zi r = 7 from nr 7 (by decide) r7)]
  rw [if_neg (show ¬ ndR (N x.1) = 7 from ni 7 r7)] at ev
  by_cases r8 : r = 8
  · subst r8
    rw [if_pos (show zi 8 = 8 from rfl)]
    obtain ⟨f, f1, f2, f3, f4, f5, f6, -⟩ := kid 0 8 5 (p + 1) e3 rfl k0
    obtain ⟨t, t1, t2⟩ := fst_tok hN hR hx f4 (by omega)
    have htl := (List.getElem?_eq_some_iff.mp t2).1
    have hmem := List.mem_of_getElem? t2
    refine (w_get (by decide)).mpr ?_
    rw [rg_in (by decide) (show p < 400 by omega), show I.1 (50 + 1) p = zi t by rw [show I.1 (50 + 1) p = Int32.ofInt x.2.2.1 from x51, t1, zi_int]]
    refine (w_get (by decide)).mpr ?_
    rw [rg_in (by decide) (show t < 100 by omega), show I.1 (70 + 1) t = _ from na t _ t2 f3]
    refine (w_get (by decide)).mpr ?_
    rw [rg_in (by decide) (hix _ hmem f3), show I.1 (72 + 1) _ = _ from he _ hmem f3]
    refine hK _ (fun _ => ?_)
    rw [ev, if_pos (show ndR (N x.1) = 8 from e3)]
  rw [if_neg (show ¬ zi r = 8 from nr 8 (by decide) r8)]
  rw [if_neg (show ¬ ndR (N x.1) = 8 from ni 8 r8)] at ev
  by_cases r9 : r = 9
  · subst r9
    rw [if_pos (show zi 9 = 9 from rfl)]
    obtain ⟨f, f1, f2, f3, f4, f5, f6, -⟩ := kid 0 9 6 (p + 1) e3 rfl k0
    obtain ⟨t, t1, t2⟩ := fst_tok hN hR hx f4 (by omega)
    have hmem := List.mem_of_getElem? t2
    have hz := nd_tk5 hN f5 (by omega)
    have hk1 : ndK (N (chN (N x.1) 0)) = 1 := by
      unfold ndM at f3
      rw [if_pos hz.1] at f3
      omega
    obtain ⟨b1, b2, b3⟩ := (tz _ hmem).2 hk1
    refine (w_get (by decide)).mpr ?_
    rw [rg_in (by decide) f6, show I.1 (44 + 1) (p + 1) = zi (chN (N x.1) 0) by rw [show I.1 (44 + 1) (p + 1) = zi f.1 from (fr _ f f1).1, f2]]
    refine (w_get (by decide)).mpr ?_
    rw [rg_in (by decide) (show chN (N x.1) 0 < 3400 by omega), show I.1 (37 + 1) (chN (N x.1) 0) = hdT (bsF (ndY (N (chN (N x.1) 0)))) 0 (ndY (N (chN (N x.1) 0))).length from ((rep.2 _ f5).2.2.2.2.2.2 hz.1).2.1]
    unfold hdT
    rw [Nat.min_eq_right b2]
    refine s_numberOf b1 b2 (fun j hj => by rw [Nat.zero_add]; exact b3 j hj) (hK _ (fun _ => ?_))
    rw [ev, if_pos (show ndR (N x.1) = 9 from e3)]
    unfold numY
    exact congrArg zi (natV_cg _ (fun j _ => by
      show dg 48 _ = dg 48 _
      rw [Nat.zero_add]))
  rw [if_neg (show ¬ zi r = 9 from nr 9 (by decide) r9)]
  rw [if_neg (show ¬ ndR (N x.1) = 9 from ni 9 r9)] at ev
  by_cases r10 : r = 10
  · subst r10
    rw [if_pos (show zi 10 = 10 from rfl)]
    obtain ⟨f, f1, f2, f3, f4, f5, f6, -⟩ := kid 0 10 11 (p + 1) e3 rfl k0
    refine (w_get (by decide)).mpr ?_
    rw [zi_succ, val 1 10 2 (p + 1 + 1) e3 rfl (Or.inl rfl) (by rw [szS_t1 f4, sz_tk hN f5 (by omega)])]
    refine hK _ (fun _ => ?_)
    rw [ev, if_pos (show ndR (N x.1) = 10 from e3)]
  rw [if_neg (show ¬ zi r = 10 from nr 10 (by decide) r10)]
  refine hK 0 (fun u => ?_)
  omega
theorem s_evaluate {m R lo hi : Nat} {N : Nat → Nd} {en : Int64 → Int32} {I : zI} {K : zI → Prop} (cl : ClZ I m N R) (na : NaX I N (yl N R)) (he : EnX I N (yl N R) en) (hlo : lo ≤ hi) (hhi : hi ≤ (flR N R).length) (hc : ∀ (q : Nat) (y : Fl), lo ≤ q → q < hi → (flR N R)[q]? = some y → q + sz N y.1 ≤ hi) (hK : ∀ J, eqQ (fun a _ => a = 83) I J → WoX J N (flR N R) en lo hi → K J) : w_Runner_evaluate (zi lo) (zi hi) I K := by
  have hl := cl.2.2.2.2.1
  intro v3 ev3 P4 h4
  have main : ∀ (d k : Nat) (J : zI), lo + d = k → k ≤ hi → eqQ (fun a _ => a = 83) I J → WoX J N (flR N R) en k hi → P4 (zi k - 1) J := by
    intro d
    induction d with
    | zero =>
      intro k J hk hk2 q wo
      refine h4 _ _ ?_
      rw [if_pos (show zi k - 1 < zi lo by
        rw [show lo = k by omega]
        by_cases u : k = 0
        · rw [u]
          decide
        · rw [show zi k - 1 = zi (k - 1) from zi_sub (b := 1) (by omega)]
          exact (zi_lt (by omega) (by omega)).mpr (by omega))]
      rw [show k = lo by omega] at wo
      exact hK J q wo
    | succ d ih =>
      intro k J hk hk2 q wo
      have hx : (flR N R)[k - 1]? = some ((flR N R)[k - 1]'(by omega)) := List.getElem?_eq_getElem (by omega)
      generalize (flR N R)[k - 1]'(by omega) = x at hx
      have qr : eqQ Qrr I J := q.mono (fun a j h => by unfold Qrr; omega)
      have cx := hc (k - 1) x (by omega) (by omega) hx
      refine h4 _ _ ?_
      rw [show zi k - 1 = zi (k - 1) from zi_sub (b := 1) (by omega), if_neg (fun u => by have := (zi_lt (by omega) (by omega)).mp u; omega)]
      refine s_worthAt (cl.kp qr) (na.kp (fun j => q.1 71 j (by omega))) (fun z hz h5 => (q.1 73 _ (by omega)).trans (he z hz h5)) hx (fun r y h1 h2 => wo r y (by omega) (by omega)) (fun w hw => (w_set (by decide)).mpr (fun v' ev => ?_))
      rw [rs_in (by decide) (show k - 1 < 400 by omega)]
      rw [ev, show zi (k - 1) + (-1) = zi (k - 1) - 1 from (Int32.sub_eq_add_neg ..).symm]
      refine ih (k - 1) _ (by omega) (by omega) (q.zu rfl) (fun r y h1 h2 hy h4' => ?_)
      rw [zu_at]
      by_cases u : r = k - 1
      · rw [if_pos ⟨rfl, u⟩]
        rw [u, hx] at hy
        cases hy
        exact hw h4'
      · rw [if_neg (fun v => u v.2)]
        exact wo r y (by omega) h2 hy h4'
  rw [ev3]
  exact main (hi - lo) hi I (by omega) (Nat.le_refl _) eqQ.rf (fun q y h1 h2 => by omega)
/-! ===== reads and sets, the class ===== -/
def Qno (a j : Nat) : Prop := a = 79 ∨ a = 81
def ruQs (u : RuZ) (w : UaZ) : RuZ := (ruE u, ruL u, ruT u, ruD u, w)
theorem s_noteReads {m R lo hi : Nat} {N : Nat → Nd} {u : RuZ} {I : zI} {K : zI → Prop} (cl : ClZ I m N R) (na : NaX I N (yl N R)) (ro : RoX I N (yl N R) u) (hlo : lo ≤ hi) (hhi : hi ≤ (flR N R).length) (hK : ∀ J, eqQ Qno I J → RoX J N (yl N R) (ruN1 N (((flR N R).drop lo).take (hi - lo)) u) → K J) : w_Runner_noteReads (zi lo) (zi hi) I K := by
  have hix : ∀ z, z ∈ yl N R → ndM (N z) = 5 → ixNm N (nmV N z) (yl N R) < 100 := fun z hz h5 => cl.ix hz h5
  obtain ⟨rep, hN, hm, hR, hl, hL, fr, f12, tz⟩ := cl
  intro P2 h2
  have main : ∀ (d q : Nat) (w : UaZ) (J : zI), q + d = hi → eqQ Qno I J → RoX J N (yl N R) (ruQs u w) → ntR N (ruL u) (((flR N R).drop q).take d) w = ntR N (ruL u) (((flR N R).drop lo).take (hi - lo)) (ruQ u) → P2 (zi q) J := by
    intro d
    induction d with
    | zero =>
      intro q w J hq qJ rJ e
      refine h2 _ _ ?_
      rw [if_pos ((zi_le (by omega) (by omega)).mpr (by omega))]
      refine hK J qJ ?_
      unfold ruN1
      rw [← e, List.take_zero]
      exact rJ
    | succ d ih =>
      intro q w J hq qJ rJ e
      have hx : (flR N R)[q]? = some ((flR N R)[q]'(by omega)) := List.getElem?_eq_getElem (by omega)
      have hdr : (flR N R).drop q = (flR N R)[q]'(by omega) :: (flR N R).drop (q + 1) := List.drop_eq_getElem_cons (by omega)
      generalize (flR N R)[q]'(by omega) = x at hx hdr
      obtain ⟨x45, x51, -⟩ := fr q x hx
      obtain ⟨hxm, -⟩ := fl_szin hN hR hx
      rw [hdr, List.take_succ_cons] at e
      have e' : ntR N (ruL u) (((flR N R).drop (q + 1)).take d) (nt1 N (ruL u) x w) = ntR N (ruL u) (((flR N R).drop lo).take (hi - lo)) (ruQ u) := e
      refine h2 _ _ ?_
      rw [if_neg (fun u => by have := (zi_le (by omega) (by omega)).mp u; omega)]
      refine (w_get (by decide)).mpr ?_
      rw [rg_in (by decide) (show q < 400 by omega), show J.1 (44 + 1) q = zi x.1 by rw [show J.1 (44 + 1) q = I.1 45 q from qJ.1 45 q (by unfold Qno; omega)]; exact x45]
      refine (w_get (by decide)).mpr ?_
      rw [rg_in (by decide) (show x.1 < 3400 by omega), show J.1 (25 + 1) x.1 = Int32.ofInt (ndR (N x.1)) by rw [show J.1 (25 + 1) x.1 = I.1 26 x.1 from qJ.1 26 x.1 (by unfold Qno; omega)]; exact (rep.2 x.1 hxm).1]
      intro P86 h86
      have nx : ∀ L, eqQ Qno I L → RoX L N (yl N R) (ruQs u (nt1 N (ruL u) x w)) → P86 L := fun L hL rL => h86 L (fun v ev => by
        rw [ev, zi_succ]
        exact ih (q + 1) _ L (by omega) hL rL e')
      by_cases u8 : ndR (N x.1) = 8
      · rw [if_pos (show Int32.ofInt (ndR (N x.1)) = 8 by rw [u8]; rfl)]
        obtain ⟨c1, c2, -⟩ := chN_is (k := 0) (y := 5) hN hxm (show ndR (N x.1) = ((8 : Nat) : Int) from u8) rfl
        obtain ⟨t, t1, t2⟩ := fst_tok hN hR hx c1 (by omega)
        have htl := (List.getElem?_eq_some_iff.mp t2).1
        have hmem := List.mem_of_getElem? t2
        have hi9 := hix _ hmem c2
        obtain ⟨r1, r2, r3, r4, r5, r6⟩ := rJ
        refine (w_get (by decide)).mpr ?_
        rw [rg_in (by decide) (show q < 400 by omega), show J.1 (50 + 1) q = zi t by rw [show J.1 (50 + 1) q = I.1 51 q from qJ.1 51 q (by unfold Qno; omega), x51, t1, zi_int]]
        refine (w_get (by decide)).mpr ?_
        rw [rg_in (by decide) (show t < 100 by omega), show J.1 (70 + 1) t = zi (ixNm N (nmV N (chN (N x.1) 0)) (yl N R)) by rw [show J.1 (70 + 1) t = I.1 71 t from qJ.1 71 t (by unfold Qno; omega)]; exact na t _ t2 c2]
        refine (w_get (by decide)).mpr ?_
        rw [rg_in (by decide) hi9, show J.1 (76 + 1) (ixNm N (nmV N (chN (N x.1) 0)) (yl N R)) = ruL u (nmV N (chN (N x.1) 0)) from (r2 _ hmem c2).2.1]
        refine (w_set (by decide)).mpr ((w_set (by decide)).mpr ?_)
        rw [rs_in (by decide) (show t < 100 by omega), rs_in (by decide) hi9]
        refine nx _ ((qJ.zu (Or.inr rfl)).zu (Or.inl rfl)) ?_
        have hn : nt1 N (ruL u) x w = (up6 w.1 (nmC N x.1) none, fun i => if i = x.2.2.1.toNat then ruL u (nmC N x.1) else w.2 i) := if_pos u8
        have hc : nmC N x.1 = nmV N (chN (N x.1) 0) := rfl
        have htn : x.2.2.1.toNat = t := by rw [t1]; rfl
        rw [hn, hc, htn]
        refine ⟨fun z hz z5 => ?_, fun z hz z5 => ?_, fun i hi => ?_, ?_, ?_, fun v q' hq' => ?_, fun j hj hz => by rw [zu_oo (by decide), zu_oo (by decide)]; exact r6.2 j hj hz⟩
        · rw [zu_at, if_neg (by omega), zu_at, if_neg (by omega)]
          exact r1 z hz z5
        · obtain ⟨s1, s2, s3⟩ := r2 z hz z5
          refine ⟨by rw [zu_oo (by decide), zu_oo (by decide)]; exact s1, by rw [zu_oo (by decide), zu_oo (by decide)]; exact s2, ?_⟩
          rw [zu_at]
          show _ = uI (up6 w.1 (nmV N (chN (N x.1) 0)) none (nmV N z))
          by_cases uz : nmV N z = nmV N (chN (N x.1) 0)
          · rw [uz, up6_s, if_pos ⟨rfl, rfl⟩]
            rfl
          · rw [up6_o uz, if_neg (fun v => uz (ixN_inj hz z5 hmem c2 v.2)), zu_at, if_neg (by omega)]
            exact s3
        · rw [zu_at, if_neg (by omega), zu_at]
          show _ = if i = t then ruL u (nmV N (chN (N x.1) 0)) else w.2 i
          by_cases ut : i = t
          · rw [if_pos ⟨rfl, ut⟩, if_pos ut]
          · rw [if_neg (fun v => ut v.2), if_neg ut]
            exact r3 i hi
        · rw [zu_at, if_neg (by omega), zu_at, if_neg (by omega)]
          exact r4
        · rw [zu_at, if_neg (by omega), zu_at, if_neg (by omega)]
          exact r5
        · have hq2 : up6 w.1 (nmV N (chN (N x.1) 0)) none v = some q' := hq'
          unfold up6 at hq2
          by_cases e : v = nmV N (chN (N x.1) 0)
          · rw [if_pos e] at hq2
            cases hq2
          · rw [if_neg e] at hq2
            exact r6.1 v q' hq2
      · rw [if_neg (show ¬ Int32.ofInt _ = 8 from fun v => u8 ((rl_eq (r := 8) hN hxm (by decide)).mp v))]
        refine nx J qJ ?_
        rw [show nt1 N (ruL u) x w = w from if_neg u8]
        exact rJ
  exact main (hi - lo) lo (ruQ u) I (by omega) eqQ.rf ro rfl
def Qsn (a j : Nat) : Prop := a = 73 ∨ a = 75 ∨ a = 77 ∨ a = 79 ∨ (a = 69 ∧ (j = 12 ∨ j = 13))
theorem s_setName {m R p s t z : Nat} {N : Nat → Nd} {u : RuZ} {x : Fl} {w : Int32} {I : zI} {K : zI → Prop} (cl : ClZ I m N R) (na : NaX I N (yl N R)) (hx : (flR N R)[p]? = some x) (hs : x.1 = s) (ht : (yl N R)[t]? = some z) (h5 : ndM (N z) = 5) (hz : chN (N s) 0 = z) (ro : RoX I N (yl N R) u) (hK : ∀ J, eqQ Qsn I J → RoX J N (yl N R) (ruS1 N p s w u) → K J) : w_Runner_setName (zi t) (zi p) w I K := by
  have hmem := List.mem_of_getElem? ht
  have hi9 := cl.ix hmem h5
  obtain ⟨rep, hN, hm, hR, hl, hL, fr, f12, tz⟩ := cl
  have hpl := (List.getElem?_eq_some_iff.mp hx).1
  have htl := (List.getElem?_eq_some_iff.mp ht).1
  obtain ⟨r1, r2, r3, r4, r5, r6⟩ := ro
  obtain ⟨s1, s2, s3⟩ := r2 z hmem h5
  have hv : nmC N s = nmV N z := by
    unfold nmC
    rw [hz]
  refine (w_get (by decide)).mpr ?_
  rw [rg_in (by decide) (show t < 100 by omega), show I.1 (70 + 1) t = zi (ixNm N (nmV N z) (yl N R)) from na t z ht h5]
  refine (w_get (by decide)).mpr ?_
  rw [rg_in (by decide) hi9, show I.1 (78 + 1) (ixNm N (nmV N z) (yl N R)) = uI ((ruQ u).1 (nmV N z)) from s3]
  intro P52 h52
  have nx : ∀ A : zI, (∀ a j, a ≠ 69 → A.1 a j = I.1 a j) → eqQ Qsn I A → A.1 69 12 = zi (dnD (ruD u) ((ruQ u).1 (nmV N z))).length → A.1 69 13 = zi (mnD (dnD (ruD u) ((ruQ u).1 (nmV N z)))) → P52 A := by
    intro A eA qA a12 a13
    refine h52 A ((w_set (by decide)).mpr ?_)
    rw [rs_in (by decide) hi9]
    refine (w_get (by decide)).mpr ?_
    rw [rg_in (by decide) (show p < 400 by omega), show (zu A (78 + 1) (ixNm N (nmV N z) (yl N R)) (zi p)).1 (44 + 1) p = zi s by rw [zu_oo (by decide), eA _ _ (by decide), ← hs]; exact (fr p x hx).1]
    refine (w_set (by decide)).mpr ?_
    rw [rs_in (by decide) hi9]
    refine (w_add (by decide)).mpr ?_
    rw [rs_in (by decide) hi9, rg_in (by decide) hi9, show (zu (zu A (78 + 1) (ixNm N (nmV N z) (yl N R)) (zi p)) (76 + 1) (ixNm N (nmV N z) (yl N R)) (zi s)).1 (74 + 1) (ixNm N (nmV N z) (yl N R)) = zi (ruT u (nmV N z)) by rw [zu_oo (by decide), zu_oo (by decide), eA _ _ (by decide)]; exact s1]
    refine (w_set (by decide)).mpr ?_
    rw [rs_in (by decide) hi9, zi_succ]
    refine hK _ ((((qA.zu (Or.inr (Or.inr (Or.inr (Or.inl rfl))))).zu (Or.inr (Or.inr (Or.inl rfl)))).zu (Or.inr (Or.inl rfl))).zu (Or.inl rfl)) ?_
    unfold ruS1
    rw [hv]
    refine ⟨fun y hy y5 => ?_, fun y hy y5 => ?_, fun i hi => ?_, ?_, ?_, fun v q' hq' => ?_, fun j hj hy => by rw [zu_oo (by decide), zu_at, if_neg (fun v => hy z hmem h5 v.2.symm), zu_oo (by decide), zu_oo (by decide), eA _ _ (by decide)]; exact r6.2 j hj hy⟩
    · rw [zu_at]
      show _ = up6 (ruE u) (nmV N z) w (nmV N y)
      by_cases uy : nmV N y = nmV N z
      · rw [uy, up6_s, if_pos ⟨rfl, rfl⟩]
      · rw [up6_o uy, if_neg (fun v => uy (ixN_inj hy y5 hmem h5 v.2)), zu_oo (by decide), zu_oo (by decide), zu_oo (by decide), eA _ _ (by decide)]
        exact r1 y hy y5
    · obtain ⟨y1, y2, y3⟩ := r2 y hy y5
      refine ⟨?_, ?_, ?_⟩
      · rw [zu_oo (by decide), zu_at]
        show _ = zi (up6 (ruT u) (nmV N z) (ruT u (nmV N z) + 1) (nmV N y))
        by_cases uy : nmV N y = nmV N z
        · rw [uy, up6_s, if_pos ⟨rfl, rfl⟩]
        · rw [up6_o uy, if_neg (fun v => uy (ixN_inj hy y5 hmem h5 v.2)), zu_oo (by decide), zu_oo (by decide), eA _ _ (by decide)]
          exact y1
      · rw [zu_oo (by decide), zu_oo (by decide), zu_at]
        show _ = up6 (ruL u) (nmV N z) (zi s) (nmV N y)
        by_cases uy : nmV N y = nmV N z
        · rw [uy, up6_s, if_pos ⟨rfl, rfl⟩]
        · rw [up6_o uy, if_neg (fun v => uy (ixN_inj hy y5 hmem h5 v.2)), zu_oo (by decide), eA _ _ (by decide)]
          exact y2
      · rw [zu_oo (by decide), zu_oo (by decide), zu_oo (by decide), zu_at]
        show _ = uI (up6 (ruQ u).1 (nmV N z) (some p) (nmV N y))
        by_cases uy : nmV N y = nmV N z
        · rw [uy, up6_s, if_pos ⟨rfl, rfl⟩]
          rfl
        · rw [up6_o uy, if_neg (fun v => uy (ixN_inj hy y5 hmem h5 v.2)), eA _ _ (by decide)]
          exact y3
    · rw [zu_oo (by decide), zu_oo (by decide), zu_oo (by decide), zu_oo (by decide), eA _ _ (by decide)]
      exact r3 i hi
    · rw [zu_oo (by decide), zu_oo (by decide), zu_oo (by decide), zu_oo (by decide)]
      exact a12
    · rw [zu_oo (by decide), zu_oo (by decide), zu_oo (by decide), zu_oo (by decide)]
      exact a13
    · have hq2 : up6 (ruQ u).1 (nmV N z) (some p) v = some q' := hq'
      unfold up6 at hq2
      by_cases e : v = nmV N z
      · rw [if_pos e] at hq2
        cases hq2
        omega
      · rw [if_neg e] at hq2
        exact r6.1 v q' hq2
  cases hU : (ruQ u).1 (nmV N z) with
  | none =>
    rw [hU] at nx
    rw [if_pos (show uI none < 0 by decide)]
    exact nx I (fun _ _ _ => rfl) eqQ.rf r4 r5
  | some q =>
    rw [hU] at nx
    have hq4 := r6.1 _ _ hU
    have hmn := mnD_le (l := ruD u)
    rw [if_neg (show ¬ uI (some q) < 0 from zi_pos (by omega))]
    intro I9 e9
    refine (w_get (by decide)).mpr (fun I11 e11 => ?_)
    rw [rg_in (by decide) hi9, show I9.1 (78 + 1) (ixNm N (nmV N z) (yl N R)) = zi q by rw [e9, zu_oo (by decide), show I.1 (78 + 1) (ixNm N (nmV N z) (yl N R)) = uI ((ruQ u).1 (nmV N z)) from s3, hU]; rfl, show I9.1 69 13 = zi (mnD (ruD u)) by rw [e9, zu_at, if_neg (by decide)]; exact r5] at e11
    have eI : ∀ a j, a ≠ 69 → I11.1 a j = I.1 a j := fun a j u => by rw [e11, zu_oo u, e9, zu_oo u]
    refine nx I11 eI ?_ ?_ ?_
    · rw [e11, e9]
      exact (eqQ.rf.zu (Or.inr (Or.inr (Or.inr (Or.inr ⟨rfl, Or.inl rfl⟩))))).zu (Or.inr (Or.inr (Or.inr (Or.inr ⟨rfl, Or.inr rfl⟩))))
    · rw [e11, zu_at, if_neg (by decide), e9, zu_self, r4, zi_succ]
      show _ = zi (ruD u ++ [q]).length
      rw [List.length_append]
      rfl
    · rw [e11, zu_self]
      show _ = zi (mnD (ruD u ++ [q]))
      rw [mnD_sn (by omega)]
      by_cases ul : q < mnD (ruD u)
      · rw [if_pos ((zi_lt (by omega) (by omega)).mpr ul), Nat.min_eq_left (by omega)]
      · rw [if_neg (fun v => ul ((zi_lt (by omega) (by omega)).mp v)), Nat.min_eq_right (by omega)]
/-! ===== tokens alike, the class ===== -/
theorem nm_alike {N : Nat → Nd} {y z : Nat} (hy : tkZ (N y)) (hz : tkZ (N z)) (ky : ndK (N y) = 0) (kz : ndK (N z) = 0) : nmV N y = nmV N z ↔ ((ndY (N y)).length = (ndY (N z)).length ∧ hdT (bsF (ndY (N y))) 0 (ndY (N y)).length = hdT (bsF (ndY (N z))) 0 (ndY (N z)).length ∧ tlT (bsF (ndY (N y))) 0 (ndY (N y)).length = tlT (bsF (ndY (N z))) 0 (ndY (N z)).length) := by
  obtain ⟨y1, y2, y3⟩ := hy.1 ky
  obtain ⟨z1, z2, z3⟩ := hz.1 kz
  have ok : ∀ (t : Nat → Int32) (k : Nat), 1 ≤ k → k ≤ 8 → (∀ j, j < k → isL (t j) = true) → tkOk t (0, 0, k) := fun t k k1 k8 h => by
    have h' : ∀ j, j < k → isL (t (0 + j)) = true := fun j hj => by rw [Nat.zero_add]; exact h j hj
    refine ⟨show 0 < 12 by decide, k8, fun j hj => ?_, fun _ => ⟨k1, h'⟩, fun u => absurd u (show ¬ 0 = 1 by decide), fun u => absurd u (show ¬ 0 = 10 by decide), fun u => absurd rfl u⟩
    obtain ⟨d, d1, d2, d3⟩ := isL_zi (h' j hj)
    exact ⟨96 + d, by omega, d3⟩
  have oy := ok (bsF (ndY (N y))) _ y1 y2 y3
  have oz := ok (bsF (ndY (N z))) _ z1 z2 z3
  have hl : nmV N y = nmV N z ↔ (ndY (N y)).length = (ndY (N z)).length ∧ ∀ j, j < (ndY (N y)).length → bsF (ndY (N y)) (0 + j) = bsF (ndY (N z)) (0 + j) := by
    unfold nmV isV
    dsimp only
    rw [if_pos ky, if_pos kz]
    exact valL_iff (oy.2.2.2.1 rfl).2 (oz.2.2.2.1 rfl).2 y2 z2
  have ha := tkA_x oy oz
  rw [hl]
  constructor
  · rintro ⟨u1, u2⟩
    obtain ⟨-, w2, w3, w4⟩ := ha.mp ⟨rfl, u1, u2⟩
    exact ⟨w2, w3, w4⟩
  · rintro ⟨w2, w3, w4⟩
    obtain ⟨-, u1, u2⟩ := ha.mpr ⟨rfl, w2, w3, w4⟩
    exact ⟨u1, u2⟩
theorem s_sameBytes {m c e : Nat} {N : Nat → Nd} {I : zI} {K : Int32 → Prop} (rep : RepNX I m N) (hN : NdOk m N) (hm : m ≤ 3400) (hc : c < m) (he : e < m) (c5 : ndM (N c) = 5) (hcR : ndR (N c) < 0) (heR : ndR (N e) < 0) (hcZ : tkZ (N c)) (heZ : ndM (N e) = 5 → tkZ (N e)) (h1 : ndM (N e) = 5 ∧ nmV N e = nmV N c → K 1) (h0 : ¬ (ndM (N e) = 5 ∧ nmV N e = nmV N c) → K 0) : w_Nodes_sameBytes (zi c) (zi e) I K := by
  obtain ⟨-, n2, -, -, -, -, n7⟩ := rep.2 c hc
  obtain ⟨-, e2, -, -, -, -, e7⟩ := rep.2 e he
  obtain ⟨l1, l2, l3⟩ := n7 hcR
  obtain ⟨f1, f2, f3⟩ := e7 heR
  have k0 : ∀ z, ndM (N z) = 5 → ndR (N z) < 0 → ndK (N z) = 0 := fun z hz hr => by
    unfold ndM at hz
    rw [if_pos hr] at hz
    omega
  unfold w_Nodes_sameBytes
  refine (w_get (by decide)).mpr ((w_get (by decide)).mpr ?_)
  rw [rg_in (by decide) (show c < 3400 by omega), rg_in (by decide) (show e < 3400 by omega), show I.1 (27 + 1) c = zi (ndM (N c)) from n2, show I.1 (27 + 1) e = zi (ndM (N e)) from e2]
  by_cases u5 : ndM (N e) = 5
  · rw [if_pos (by rw [c5, u5])]
    have lc := (hcZ.1 (k0 c c5 hcR)).2.1
    have le := ((heZ u5).1 (k0 e u5 heR)).2.1
    have al := nm_alike hcZ (heZ u5) (k0 c c5 hcR) (k0 e u5 heR)
    refine (w_get (by decide)).mpr ((w_get (by decide)).mpr ?_)
    rw [rg_in (by decide) (show c < 3400 by omega), rg_in (by decide) (show e < 3400 by omega), show I.1 (35 + 1) c = _ from l1, show I.1 (35 + 1) e = _ from f1]
    by_cases v1 : (ndY (N c)).length = (ndY (N e)).length
    · rw [if_pos (by rw [v1])]
      refine (w_get (by decide)).mpr ((w_get (by decide)).mpr ?_)
      rw [rg_in (by decide) (show c < 3400 by omega), rg_in (by decide) (show e < 3400 by omega), show I.1 (37 + 1) c = _ from l2, show I.1 (37 + 1) e = _ from f2]
      by_cases v2 : hdT (bsF (ndY (N c))) 0 (ndY (N c)).length = hdT (bsF (ndY (N e))) 0 (ndY (N e)).length
      · rw [if_pos v2]
        refine (w_get (by decide)).mpr ((w_get (by decide)).mpr ?_)
        rw [rg_in (by decide) (show c < 3400 by omega), rg_in (by decide) (show e < 3400 by omega), show I.1 (39 + 1) c = _ from l3, show I.1 (39 + 1) e = _ from f3]
        by_cases v3 : tlT (bsF (ndY (N c))) 0 (ndY (N c)).length = tlT (bsF (ndY (N e))) 0 (ndY (N e)).length
        · rw [if_pos v3]
          exact h1 ⟨u5, (al.mpr ⟨v1, v2, v3⟩).symm⟩
        · rw [if_neg v3]
          exact h0 (fun w => v3 (al.mp w.2.symm).2.2)
      · rw [if_neg v2]
        exact h0 (fun w => v2 (al.mp w.2.symm).2.1)
    · rw [if_neg (fun w => v1 ((zi_eq (by omega) (by omega)).mp w))]
      exact h0 (fun w => v1 (al.mp w.2.symm).1)
  · rw [c5, if_neg (fun w => u5 ((zi_eq (by decide) (by have := hN.sym e he; omega)).mp w).symm)]
    exact h0 (fun w => u5 w.1)
/-- the tokens of a moment: the TREE's, END behind them -/
def TkH (I : zI) (a m n : Nat) (N : Nat → Nd) (og : Nat → Nat) (R : Nat) : Prop := I.1 a 6 = zi n ∧ (∀ j, j < n → I.1 (a + 15) j = zi (og j)) ∧ (∀ j, j < n → og j < m ∧ ndR (N (og j)) < 0) ∧ (∀ j, j + 1 < n → (yl N R)[j]? = some (og j)) ∧ (∀ z j, (yl N R)[j]? = some z → j + 1 < n) ∧ (∀ j, j + 1 = n → ndM (N (og j)) ≠ 5) ∧ n ≤ 100
theorem TkH.kp {I J : zI} {a m n R : Nat} {N : Nat → Nd} {og : Nat → Nat} (h : TkH I a m n N og R) (e : ∀ b j, a ≤ b → b ≤ a + 15 → J.1 b j = I.1 b j) : TkH J a m n N og R :=
  ⟨(e _ _ (Nat.le_refl _) (by omega)).trans h.1, fun j hj => (e _ _ (by omega) (Nat.le_refl _)).trans (h.2.1 j hj), h.2.2⟩
theorem s_findNames {a m n R : Nat} {N : Nat → Nd} {og : Nat → Nat} {I : zI} {K : zI → Prop} (ha : a + 15 < 69 ∨ 87 < a) (cl : ClZ I m N R) (tk : TkH I a m n N og R) (hK : ∀ J, eqQ (fun b _ => b = 71) I J → NaX J N (yl N R) → K J) : w_Runner_findNames a I K := by
  obtain ⟨t1, t2, t3, t4, t5, t6, t7⟩ := tk
  have cl0 := cl
  obtain ⟨rep, hN, hm, hR, hl, hL, fr, f12, tz⟩ := cl
  intro P2 h2
  have main : ∀ (d i : Nat) (J : zI), i + d = n → eqQ (fun b _ => b = 71) I J → (∀ k z : Nat, k < i → (yl N R)[k]? = some z → ndM (N z) = 5 → J.1 71 k = zi (ixNm N (nmV N z) (yl N R))) → P2 (zi i) J := by
    intro d
    induction d with
    | zero =>
      intro i J hi qJ hJ
      refine h2 _ _ ?_
      rw [qJ.1 a 6 (by omega), t1, if_pos ((zi_le (by omega) (by omega)).mpr (by omega))]
      refine hK J qJ (fun k z hk h5 => hJ k z ?_ hk h5)
      have := t5 z k hk
      omega
    | succ d ih =>
      intro i J hi qJ hJ
      have qr : eqQ Qrr I J := qJ.mono (fun b j h => by unfold Qrr; omega)
      have repJ := (cl0.kp qr).1
      obtain ⟨g1, g2⟩ := t3 i (by omega)
      refine h2 _ _ ?_
      rw [qJ.1 a 6 (by omega), t1, if_neg (fun u => by have := (zi_le (by omega) (by omega)).mp u; omega)]
      have gt : ∀ j, j < n → rg 100 (J.1 (a + 14 + 1)) (zi j) = zi (og j) := fun j hj => by
        rw [rg_in (by decide) (show j < 100 by omega), qJ.1 (a + 14 + 1) j (by omega)]
        exact t2 j hj
      refine (w_get (by decide)).mpr ?_
      rw [gt i (by omega)]
      intro P22 h22
      have stop : ∀ (w : Int32) (L : zI), L = zu J (70 + 1) i w → (∀ z, (yl N R)[i]? = some z → ndM (N z) = 5 → w = zi (ixNm N (nmV N z) (yl N R))) → P2 (zi (i + 1)) L := by
        intro w L eL hw
        rw [eL]
        refine ih (i + 1) _ (by omega) (qJ.zu rfl) (fun k z hk hz h5 => ?_)
        rw [zu_at]
        by_cases u : k = i
        · rw [if_pos ⟨rfl, u⟩]
          rw [u] at hz
          exact hw z hz h5
        · rw [if_neg (fun v => u v.2)]
          exact hJ k z (by omega) hz h5
      have put : ∀ w : Int32, (∀ z, (yl N R)[i]? = some z → ndM (N z) = 5 → w = zi (ixNm N (nmV N z) (yl N R))) → w_Row_set 70 100 (zi i) w J (fun I_5 => ∀ v2_6, v2_6 = (zi i + 1) → P2 v2_6 I_5) := fun w hw => by
        refine (w_set (by decide)).mpr (fun v ev => ?_)
        rw [rs_in (by decide) (show i < 100 by omega), ev, zi_succ]
        exact stop w _ rfl hw
      by_cases u5 : ndM (N (og i)) = 5
      · have hin : i + 1 < n := by
          refine Nat.lt_of_le_of_ne (by omega) (fun u => t6 i u u5)
        have hyi := t4 i hin
        have hmem := List.mem_of_getElem? hyi
        obtain ⟨w, w1, w2, w3⟩ := ixN_is hmem u5 rfl
        have hle : ixNm N (nmV N (og i)) (yl N R) ≤ i := by
          refine Nat.le_of_not_lt (fun u => ixN_no u hyi ⟨u5, rfl⟩)
        have hix : ∀ z, (yl N R)[i]? = some z → z = og i := fun z hz => by
          rw [hyi] at hz
          exact (Option.some.inj hz).symm
        have inner : ∀ (e j : Nat), j + e = ixNm N (nmV N (og i)) (yl N R) → P22 (zi j) := by
          intro e
          induction e with
          | zero =>
            intro j hj
            refine h22 _ ?_
            intro P53 h53
            have yes : P53 := h53 (put (zi j) (fun z hz _ => by rw [hix z hz]; exact congrArg zi (by omega)))
            by_cases v : j = i
            · rw [v, if_pos (Int32.le_refl _)]
              exact yes
            · rw [if_neg (fun u => by have := (zi_le (by omega) (by omega)).mp u; omega)]
              refine (w_get (by decide)).mpr ?_
              rw [gt j (by omega)]
              have hj2 : j = ixNm N (nmV N (og i)) (yl N R) := by omega
              have hwj : w = og j := by
                rw [← hj2, t4 j (by omega)] at w1
                exact (Option.some.inj w1).symm
              refine s_sameBytes repJ hN hm g1 (t3 j (by omega)).1 u5 g2 (t3 j (by omega)).2 (tz _ hmem) (fun _ => tz _ (List.mem_of_getElem? (t4 j (by omega)))) (fun _ => ?_) (fun u => ?_)
              · rw [if_neg (by decide)]
                exact yes
              · rw [← hwj] at u
                exact absurd ⟨w2, w3⟩ u
          | succ e ih2 =>
            intro j hj
            refine h22 _ ?_
            intro P53 h53
            rw [if_neg (fun u => by have := (zi_le (by omega) (by omega)).mp u; omega)]
            refine (w_get (by decide)).mpr ?_
            rw [gt j (by omega)]
            refine s_sameBytes repJ hN hm g1 (t3 j (by omega)).1 u5 g2 (t3 j (by omega)).2 (tz _ hmem) (fun _ => tz _ (List.mem_of_getElem? (t4 j (by omega)))) (fun u => ?_) (fun _ => ?_)
            · exact absurd u (ixN_no (show j < ixNm N (nmV N (og i)) (yl N R) by omega) (t4 j (by omega)))
            · rw [if_pos rfl]
              intro v ev
              rw [ev, zi_succ]
              exact ih2 (j + 1) (by omega)
        exact inner _ 0 (Nat.zero_add _)
      · have no : ∀ z, (yl N R)[i]? = some z → ndM (N z) = 5 → False := fun z hz h5 => by
          have := t4 i (t5 z i hz)
          rw [this] at hz
          cases hz
          exact u5 h5
        refine up_loop (P := fun w _ => P22 w) (b := zi i) (inv := fun _ => True) (fun w _ hw _ ih2 => ?_) (fun w _ hw _ => ?_) 0 J trivial
        · refine h22 _ ?_
          intro P53 h53
          have yes : P53 := h53 (put w (fun z hz h5 => absurd (no z hz h5) (fun h => h)))
          rw [if_neg (Int32.not_le.mpr hw)]
          refine (w_get (by decide)).mpr (r_sameBytes ?_ ?_)
          · rw [if_neg (by decide)]
            exact yes
          · rw [if_pos rfl]
            intro v' ev
            rw [ev]
            exact ih2 J trivial
        · refine h22 _ ?_
          intro P53 h53
          rw [if_pos hw]
          exact h53 (put w (fun z hz h5 => absurd (no z hz h5) (fun h => h)))
  exact main n 0 I (Nat.zero_add _) eqQ.rf (fun k z hk => by omega)
/-! ===== a statement RUN, the class ===== -/
def Qrc (a j : Nat) : Prop := (a = 69 ∧ (j = 11 ∨ j = 14)) ∨ (84 ≤ a ∧ a ≤ 87)
def Qrt (a j : Nat) : Prop := a = 69 ∨ (72 ≤ a ∧ a ≤ 87)
/-- the sum of INTS of a TREE laid flat -/
def suA (N : Nat → Nd) (en : Int64 → Int32) (F : List Fl) : Int32 := F.foldl (fun a x => a + (if ndR (N x.1) = 9 then evN N en x.1 else 0)) 0
theorem suA_s {N : Nat → Nd} {en : Int64 → Int32} {F : List Fl} {p : Nat} {x : Fl} (hx : F[p]? = some x) : suA N en (F.take (p + 1)) = suA N en (F.take p) + (if ndR (N x.1) = 9 then evN N en x.1 else 0) := by
  unfold suA
  rw [List.take_add_one, hx, Option.toList_some, List.foldl_append]
  rfl
/-- how many of the first places are more than 0 -/
def cnT (f : Nat → Int32) : Nat → Nat
  | 0 => 0
  | k + 1 => cnT f k + (if f k ≤ 0 then 0 else 1)
def SuX (I : zI) (N : Nat → Nd) (R : Nat) : Prop := I.1 69 15 = suA N (ruE (ruN N R)) (flR N R) ∧ I.1 69 16 = zi (cnT (I.1 75) 100)
theorem SuX.kp {I J : zI} {N : Nat → Nd} {R : Nat} (h : SuX I N R) (e : ∀ a j, 69 ≤ a → a ≤ 83 → J.1 a j = I.1 a j) : SuX J N R := by
  refine ⟨(e 69 15 (by decide) (by decide)).trans h.1, ?_⟩
  rw [e 69 16 (by decide) (by decide), show J.1 75 = I.1 75 from funext (fun j => e 75 j (by decide) (by decide))]
  exact h.2
def EvX (I : zI) (N : Nat → Nd) (R : Nat) : Prop := NaX I N (yl N R) ∧ RoX I N (yl N R) (ruN N R) ∧ WoX I N (flR N R) (ruE (ruN N R)) 0 (flR N R).length ∧ SuX I N R
theorem EvX.kp {I J : zI} {N : Nat → Nd} {R : Nat} (h : EvX I N R) (e : ∀ a j, 69 ≤ a → a ≤ 83 → J.1 a j = I.1 a j) : EvX J N R :=
  ⟨h.1.kp (fun j => e 71 j (by decide) (by decide)), h.2.1.kp (fun a j u => e a j (by omega) (by omega)), fun q x h1 h2 hx h4 => (e 83 q (by decide) (by decide)).trans (h.2.2.1 q x h1 h2 hx h4), h.2.2.2.kp e⟩
def Qsr (a j : Nat) : Prop := a = 69 ∧ (j = 15 ∨ j = 16)
theorem s_sumRn {m R : Nat} {N : Nat → Nd} {en : Int64 → Int32} {I : zI} {K : zI → Prop} (cl : ClZ I m N R) (wo : WoX I N (flR N R) en 0 (flR N R).length) (hK : ∀ J, eqQ Qsr I J → J.1 69 15 = suA N en (flR N R) → J.1 69 16 = zi (cnT (I.1 75) 100) → K J) : w_Runner_sumUp I K := by
  obtain ⟨rep, hN, hm, hR, hl, hL, fr, f12, tz⟩ := cl
  intro I1 e1 P7 h7
  have q1 : eqQ Qsr I I1 := by
    rw [e1]
    exact eqQ.rf.zu ⟨rfl, Or.inl rfl⟩
  have main : ∀ (d p : Nat) (J : zI), p + d = (flR N R).length → eqQ Qsr I J → J.1 69 15 = suA N en ((flR N R).take p) → P7 (zi p) J := by
    intro d
    induction d with
    | zero =>
      intro p J hp hJ h15
      refine h7 _ _ ?_
      rw [hJ.1 43 12 (by unfold Qsr; omega), f12, if_pos ((zi_le (by omega) (by omega)).mpr (by omega))]
      rw [List.take_of_length_le (by omega)] at h15
      intro I4 e4 P88 h88
      have q4 : eqQ Qsr I I4 := by
        rw [e4]
        exact hJ.zu ⟨rfl, Or.inr rfl⟩
      have two : ∀ (d j : Nat) (A : zI), j + d = 100 → eqQ Qsr I A → A.1 69 15 = suA N en (flR N R) → A.1 69 16 = zi (cnT (I.1 75) j) → P88 (zi j) A := by
        intro d
        induction d with
        | zero =>
          intro j A hj hA a15 a16
          have hj' : j = 100 := by omega
          rw [hj'] at a16 ⊢
          refine h88 _ _ ?_
          rw [if_pos (show (100 : Int32) ≤ zi 100 by decide)]
          exact hK A hA a15 a16
        | succ d ih =>
          intro j A hj hA a15 a16
          refine h88 _ _ ?_
          rw [if_neg (show ¬ (100 : Int32) ≤ zi j from fun u => by have := (zi_le (a := 100) (b := j) (by decide) (by omega)).mp u; omega)]
          refine (w_get (by decide)).mpr ?_
          rw [rg_in (by decide) (show j < 100 by omega), show A.1 (74 + 1) j = I.1 75 j from hA.1 75 j (by unfold Qsr; omega)]
          intro P115 h115
          have nx : ∀ t : Int32, zi (cnT (I.1 75) j) + t = zi (cnT (I.1 75) (j + 1)) → P115 t := fun t ht => h115 t (fun I9 e9 v' ev => by
            rw [ev, zi_succ]
            refine ih (j + 1) I9 (by omega) (by rw [e9]; exact hA.zu ⟨rfl, Or.inr rfl⟩) ?_ ?_
            · rw [e9, zu_at, if_neg (by decide)]
              exact a15
            · rw [e9, zu_self, a16]
              exact ht)
          by_cases u : I.1 75 j ≤ 0
          · rw [if_pos u]
            refine nx 0 ?_
            rw [Int32.add_zero]
            show _ = zi (cnT (I.1 75) j + (if I.1 75 j ≤ 0 then 0 else 1))
            rw [if_pos u]
            rfl
          · rw [if_neg u]
            refine nx 1 ?_
            rw [zi_succ]
            show _ = zi (cnT (I.1 75) j + (if I.1 75 j ≤ 0 then 0 else 1))
            rw [if_neg u]
      exact two 100 0 I4 rfl q4 (by rw [e4, zu_at, if_neg (by decide)]; exact h15) (by rw [e4, zu_self]; rfl)
    | succ d ih =>
      intro p J hp hJ h15
      have hx : (flR N R)[p]? = some ((flR N R)[p]'(by omega)) := List.getElem?_eq_getElem (by omega)
      generalize (flR N R)[p]'(by omega) = x at hx
      obtain ⟨hxm, -⟩ := fl_szin hN hR hx
      refine h7 _ _ ?_
      rw [hJ.1 43 12 (by unfold Qsr; omega), f12, if_neg (fun u => by have := (zi_le (by omega) (by omega)).mp u; omega)]
      refine (w_get (by decide)).mpr ?_
      rw [rg_in (by decide) (show p < 400 by omega), show J.1 (44 + 1) p = zi x.1 by rw [show J.1 (44 + 1) p = I.1 45 p from hJ.1 45 p (by unfold Qsr; omega)]; exact (fr p x hx).1]
      refine (w_get (by decide)).mpr ?_
      rw [rg_in (by decide) (show x.1 < 3400 by omega), show J.1 (25 + 1) x.1 = Int32.ofInt (ndR (N x.1)) by rw [show J.1 (25 + 1) x.1 = I.1 26 x.1 from hJ.1 26 x.1 (by unfold Qsr; omega)]; exact (rep.2 x.1 hxm).1]
      intro P49 h49
      have st := suA_s (N := N) (en := en) hx
      have nx : ∀ (t : Int32) (P71 : Int32 → Prop), suA N en ((flR N R).take p) + t = suA N en ((flR N R).take (p + 1)) → (∀ t2 : Int32, (∀ I17, I17 = zu J 69 15 (J.1 69 15 + t2) → ∀ v, v = zi p + 1 → P7 v I17) → P71 t2) → P71 t := fun t P71 ht h71 => h71 t (fun I17 e17 v' ev => by
        rw [ev, zi_succ]
        refine ih (p + 1) I17 (by omega) (by rw [e17]; exact hJ.zu ⟨rfl, Or.inl rfl⟩) ?_
        rw [e17, zu_self, h15]
        exact ht)
      by_cases u9 : ndR (N x.1) = 9
      · rw [if_pos (show Int32.ofInt (ndR (N x.1)) = 9 by rw [u9]; rfl)]
        refine h49 1 (fun P71 h71 => ?_)
        rw [if_neg (show ¬ (1 : Int32) = 0 by decide)]
        refine (w_get (by decide)).mpr ?_
        rw [rg_in (by decide) (show p < 400 by omega), show J.1 (82 + 1) p = evN N en x.1 by rw [show J.1 (82 + 1) p = I.1 83 p from hJ.1 83 p (by unfold Qsr; omega)]; exact wo p x (Nat.zero_le _) (List.getElem?_eq_some_iff.mp hx).1 hx (by omega)]
        exact nx _ P71 (by rw [st, if_pos u9]) h71
      · rw [if_neg (show ¬ Int32.ofInt _ = 9 from fun v => u9 ((rl_eq (r := 9) hN hxm (by decide)).mp v))]
        refine h49 0 (fun P71 h71 => ?_)
        rw [if_pos (show (0 : Int32) = 0 from rfl)]
        exact nx 0 P71 (by rw [st, if_neg u9]) h71
  exact main (flR N R).length 0 I1 (by omega) q1 (by rw [e1, zu_self]; rfl)
abbrev RcZ : Type := Nat → Option (List Int32)
theorem no_someZ {l : List Int32} (h : (none : Option (List Int32)) = some l) : False := by cases h
def rcU (rc : RcZ) (s : Nat) (l : List Int32) : RcZ := fun t => if t = s then some l else rc t
theorem rcU_s {rc : RcZ} {s : Nat} {l : List Int32} : rcU rc s l s = some l := if_pos rfl
theorem rcU_o {rc : RcZ} {s t : Nat} {l : List Int32} (h : t ≠ s) : rcU rc s l t = rc t := if_neg h
/-- what is read, by nodes laid flat -/
def sgV (N : Nat → Nd) (en : Int64 → Int32) : List Fl → List Int32
  | [] => []
  | y :: l => if ndR (N y.1) = 8 then en (nmC N y.1) :: sgV N en l else sgV N en l
/-- by nodes -/
def poV (N : Nat → Nd) (en : Int64 → Int32) : List Nat → List Int32
  | [] => []
  | c :: l => if ndR (N c) = 8 then en (nmC N c) :: poV N en l else poV N en l
def rdV (N : Nat → Nd) (en : Int64 → Int32) (e : Nat) : List Int32 := poV N en (po N e)
theorem sgV_map {N : Nat → Nd} {en : Int64 → Int32} : ∀ {l : List Fl}, sgV N en l = poV N en (l.map (fun y => y.1))
  | [] => rfl
  | y :: l => by
    show (if ndR (N y.1) = 8 then en (nmC N y.1) :: sgV N en l else sgV N en l) = if ndR (N y.1) = 8 then en (nmC N y.1) :: poV N en (l.map (fun y => y.1)) else poV N en (l.map (fun y => y.1))
    rw [sgV_map]
theorem poV_len {N : Nat → Nd} {en en' : Int64 → Int32} : ∀ {l : List Nat}, (poV N en l).length = (poV N en' l).length
  | [] => rfl
  | c :: l => by
    show (if ndR (N c) = 8 then en (nmC N c) :: poV N en l else poV N en l).length = (if ndR (N c) = 8 then en' (nmC N c) :: poV N en' l else poV N en' l).length
    by_cases u : ndR (N c) = 8
    · rw [if_pos u, if_pos u, List.length_cons, List.length_cons, poV_len (en := en) (en' := en')]
    · rw [if_neg u, if_neg u, poV_len (en := en) (en' := en')]
def RcX (I : zI) (n : Nat) (rc : RcZ) : Prop :=
  I.1 69 11 = zi n ∧ n ≤ 25600 ∧ ∃ of : Nat → Nat, (∀ s, s < 3400 → rc s = none → I.1 85 s = 0) ∧ (∀ s l, s < 3400 → rc s = some l → I.1 85 s = zi (of s + 1) ∧ of s + l.length ≤ n ∧ ∀ (k : Nat) (v : Int32), l[k]? = some v → I.1 87 (of s + k) = v) ∧ ∀ s t l l', s < 3400 → t < 3400 → s ≠ t → rc s = some l → rc t = some l' → of s + l.length ≤ of t ∨ of t + l'.length ≤ of s
theorem RcX.kp {I J : zI} {n : Nat} {rc : RcZ} (h : RcX I n rc) (e : ∀ a j, (a = 69 ∧ j = 11) ∨ a = 85 ∨ a = 87 → J.1 a j = I.1 a j) : RcX J n rc := by
  obtain ⟨h1, h2, of, h3, h4, h5⟩ := h
  refine ⟨(e 69 11 (by omega)).trans h1, h2, of, fun s hs hr => (e 85 s (by omega)).trans (h3 s hs hr), fun s l hs hr => ?_, h5⟩
  obtain ⟨a1, a2, a3⟩ := h4 s l hs hr
  exact ⟨(e 85 s (by omega)).trans a1, a2, fun k v hk => (e 87 _ (by omega)).trans (a3 k v hk)⟩
theorem getD_snoc {l : List Int32} {v : Int32} {j : Nat} : (l ++ [v]).getD j 0 = if j = l.length then v else l.getD j 0 := by
  rw [List.getD_eq_getElem?_getD, List.getD_eq_getElem?_getD]
  by_cases u : j = l.length
  · rw [if_pos u, u, List.getElem?_append_right (Nat.le_refl _), Nat.sub_self]
    rfl
  · rw [if_neg u]
    by_cases w : j < l.length
    · rw [List.getElem?_append_left w]
    · rw [List.getElem?_eq_none (by rw [List.length_append]; show l.length + 1 ≤ j; omega), List.getElem?_eq_none (by omega)]
def QrcZ (a j : Nat) : Prop := (a = 69 ∧ j = 11) ∨ (84 ≤ a ∧ a ≤ 87)
theorem s_recordReads {m R lo hi s n : Nat} {N : Nat → Nd} {en : Int64 → Int32} {rc : RcZ} {W : List Int32} {I : zI} {K : Int32 → zI → Prop} (cl : ClZ I m N R) (na : NaX I N (yl N R)) (he : EnX I N (yl N R) en) (hlo : lo ≤ hi) (hhi : hi ≤ (flR N R).length) (hs : s < 3400) (hW : W = sgV N en (((flR N R).drop lo).take (hi - lo))) (rx : RcX I n rc) (hb : n + W.length ≤ 25600) (hlen : ∀ l, rc s = some l → l.length = W.length)
    (hK : ∀ J, eqQ QrcZ I J → RcX J (if rc s = none then n + W.length else n) (rcU rc s W) → K (if rc s = none ∨ rc s = some W then 0 else 1) J) : w_Runner_recordReads (zi s) (zi lo) (zi hi) I K := by
  have hix : ∀ z, z ∈ yl N R → ndM (N z) = 5 → ixNm N (nmV N z) (yl N R) < 100 := fun z hz h5 => cl.ix hz h5
  obtain ⟨rep, hN, hm, hR, hl, hL, fr, f12, tz⟩ := cl
  obtain ⟨x1, x2, of, x3, x4, x5⟩ := rx
  unfold w_Runner_recordReads
  refine (w_get (by decide)).mpr ?_
  rw [rg_in (by decide) hs]
  intro P16 h16
  have rest : ∀ (nw : Bool) (o : Nat), (nw = true → rc s = none ∧ o = n) → (nw = false → ∃ l, rc s = some l ∧ o = of s) → P16 (b01 nw) := by
    intro nw o hn1 hn0
    refine h16 _ ?_
    intro P37 h37
    have ob : o + W.length ≤ 25600 := by
      cases nw with
      | true =>
        have := (hn1 rfl).2
        omega
      | false =>
        obtain ⟨l, l1, l2⟩ := hn0 rfl
        have h1 := (x4 s l hs l1).2.1
        have h2 := hlen l l1
        omega
    have rest2 : ∀ I3, (∀ a j, ¬ (a = 85 ∧ j = s) → I3.1 a j = I.1 a j) → (∀ a j, I3.2 a j = I.2 a j) → I3.1 85 s = zi (o + 1) → P37 I3 := by
      intro I3 o3 o32 g3
      refine h37 I3 ((w_get (by decide)).mpr ?_)
      rw [rg_in (by decide) hs, show I3.1 (84 + 1) s = zi (o + 1) from g3]
      intro v5 ev5
      rw [show zi (o + 1) - 1 = zi o from zi_sub (b := 1) (by omega)] at ev5
      subst ev5
      intro P55 h55
      have main : ∀ (d q : Nat) (D : List Int32) (mm : Bool) (J : zI), q + d = hi → W = D ++ sgV N en (((flR N R).drop q).take d) → (mm = true ↔ nw = false ∧ ∃ j, j < D.length ∧ I.1 87 (o + j) ≠ D.getD j 0) → (∀ a j, ¬ (a = 85 ∧ j = s) → a ≠ 87 → J.1 a j = I.1 a j) → (∀ a j, J.2 a j = I.2 a j) → J.1 85 s = zi (o + 1) → (∀ j, J.1 87 j = if o ≤ j ∧ j < o + D.length then D.getD (j - o) 0 else I.1 87 j) → P55 (zi (o + D.length)) (b01 mm) (zi q) J := by
        intro d
        induction d with
        | zero =>
          intro q D mm J hq hD hmm oJ oJ2 gJ g87
          refine h55 _ _ _ _ ?_
          rw [if_pos ((zi_le (by omega) (by omega)).mpr (by omega))]
          rw [List.take_zero] at hD
          have hWD : W = D := by
            rw [hD]
            exact List.append_nil D
          rw [← hWD] at hmm g87
          intro P170 h170
          have fin : ∀ (t : Int32) (n' : Nat), t = zi n' → n' = (if rc s = none then n + W.length else n) → P170 t := by
            intro t n' et en'
            refine h170 t (fun I11 e11 => ⟨?_, ?_⟩)
            · cases mm
              · exact Or.inl rfl
              · exact Or.inr rfl
            have c11 : ∀ a j, ¬ (a = 69 ∧ j = 11) → I11.1 a j = J.1 a j := fun a j u => by rw [e11, zu_at, if_neg u]
            have val : b01 mm = if rc s = none ∨ rc s = some W then 0 else 1 := by
              cases nw with
              | true =>
                rw [if_pos (Or.inl (hn1 rfl).1)]
                cases mm with
                | false => rfl
                | true => exact absurd (hmm.mp rfl).1 (by decide)
              | false =>
                obtain ⟨l, l1, l2⟩ := hn0 rfl
                have hll := hlen l l1
                have hat : ∀ j, j < W.length → I.1 87 (o + j) = l.getD j 0 := fun j hj => by
                  have hlj : l[j]? = some (l[j]'(by omega)) := List.getElem?_eq_getElem (by omega)
                  rw [l2, (x4 s l hs l1).2.2 j _ hlj, List.getD_eq_getElem?_getD, hlj]
                  rfl
                by_cases u : l = W
                · rw [if_pos (Or.inr (by rw [l1, u]))]
                  cases mm with
                  | false => rfl
                  | true =>
                    obtain ⟨-, j, j1, j2⟩ := hmm.mp rfl
                    rw [hat j j1, u] at j2
                    exact absurd rfl j2
                · rw [if_neg (fun w => by
                    rcases w with w | w
                    · rw [l1] at w
                      cases w
                    · rw [l1] at w
                      exact u (Option.some.inj w))]
                  cases mm with
                  | true => rfl
                  | false =>
                    refine absurd (hmm.mpr ⟨rfl, ?_⟩) (by decide)
                    refine Classical.byContradiction (fun hno => u ?_)
                    refine List.ext_getElem? (fun j => ?_)
                    by_cases hj : j < W.length
                    · have h1 : l[j]? = some (l.getD j 0) := by
                        rw [List.getD_eq_getElem?_getD, List.getElem?_eq_getElem (by omega)]
                        rfl
                      have h2 : W[j]? = some (W.getD j 0) := by
                        rw [List.getD_eq_getElem?_getD, List.getElem?_eq_getElem hj]
                        rfl
                      rw [h1, h2, ← hat j hj]
                      refine congrArg some (Classical.byContradiction (fun hne => hno ⟨j, hj, hne⟩))
                    · rw [List.getElem?_eq_none (by omega), List.getElem?_eq_none (by omega)]
            obtain ⟨of', hof⟩ : ∃ of' : Nat → Nat, ∀ t, of' t = if t = s then o else of t := ⟨fun t => if t = s then o else of t, fun _ => rfl⟩
            rw [val]
            refine hK I11 ⟨fun a j u => ?_, fun a j u => ?_⟩ ⟨?_, ?_, of', fun t ht hr => ?_, fun t l ht hr => ?_, fun t t' l l' ht ht' hne hr hr' => ?_⟩
            · unfold QrcZ at u
              rw [c11 a j (by omega), oJ a j (by omega) (by omega)]
            · rw [e11, zu_2]
              exact oJ2 a j
            · rw [e11, zu_self, et, en']
            · rw [← en']
              split at en' <;> omega
            · by_cases u : t = s
              · rw [u, rcU_s] at hr
                cases hr
              · rw [rcU_o u] at hr
                rw [c11 85 t (by omega), oJ 85 t (by omega) (by omega)]
                exact x3 t ht hr
            · by_cases u : t = s
              · rw [u, rcU_s] at hr
                cases hr
                refine ⟨?_, ?_, fun k v hk => ?_⟩
                · rw [u, hof, if_pos rfl, c11 85 s (by omega)]
                  exact gJ
                · rw [hof, if_pos u]
                  cases nw with
                  | true =>
                    rw [if_pos (hn1 rfl).1, (hn1 rfl).2]
                    exact Nat.le_refl _
                  | false =>
                    obtain ⟨l, l1, l2⟩ := hn0 rfl
                    rw [if_neg (by rw [l1]; exact fun w => by cases w), l2, ← hlen l l1]
                    exact (x4 s l hs l1).2.1
                · have hkl := (List.getElem?_eq_some_iff.mp hk).1
                  rw [hof, if_pos u, c11 87 _ (by omega), g87, if_pos ⟨by omega, by omega⟩, show o + k - o = k by omega, List.getD_eq_getElem?_getD, hk]
                  rfl
              · rw [rcU_o u] at hr
                rw [hof, if_neg u]
                obtain ⟨a1, a2, a3⟩ := x4 t l ht hr
                have hn' : n ≤ (if rc s = none then n + W.length else n) := by split <;> omega
                refine ⟨by rw [c11 85 t (by omega), oJ 85 t (by omega) (by omega)]; exact a1, by omega, fun k v hk => ?_⟩
                have hkl := (List.getElem?_eq_some_iff.mp hk).1
                rw [c11 87 _ (by omega), g87, if_neg (fun w => by
                  cases nw with
                  | true =>
                    have := (hn1 rfl).2
                    omega
                  | false =>
                    obtain ⟨ls, l1, l2⟩ := hn0 rfl
                    have h1 := x5 t s l ls ht hs u hr l1
                    have h2 := hlen ls l1
                    omega)]
                exact a3 k v hk
            · have dj : ∀ t l, t < 3400 → t ≠ s → rc t = some l → of t + l.length ≤ o ∨ o + W.length ≤ of t := fun t l ht u hr => by
                cases nw with
                | true =>
                  have h1 := (hn1 rfl).2
                  have h2 := (x4 t l ht hr).2.1
                  omega
                | false =>
                  obtain ⟨ls, l1, l2⟩ := hn0 rfl
                  have h1 := x5 t s l ls ht hs u hr l1
                  have h2 := hlen ls l1
                  omega
              by_cases u : t = s
              · have u' : t' ≠ s := fun w => hne (by rw [u, w])
                rw [u, rcU_s] at hr
                cases hr
                rw [rcU_o u'] at hr'
                rw [hof t, hof t', if_pos u, if_neg u']
                have := dj t' l' ht' u' hr'
                omega
              · rw [rcU_o u] at hr
                rw [hof t, hof t', if_neg u]
                by_cases u' : t' = s
                · rw [u', rcU_s] at hr'
                  cases hr'
                  rw [if_pos u']
                  exact dj t l ht u hr
                · rw [rcU_o u'] at hr'
                  rw [if_neg u']
                  exact x5 t t' l l' ht ht' hne hr hr'
          cases nw with
          | true =>
            rw [if_neg (show ¬ b01 true = 0 by decide)]
            obtain ⟨w1, w2⟩ := hn1 rfl
            exact fin _ (o + W.length) (by rw [hWD]) (by rw [if_pos w1, w2])
          | false =>
            rw [if_pos (show b01 false = 0 from rfl)]
            obtain ⟨l, l1, l2⟩ := hn0 rfl
            exact fin _ n (by rw [oJ 69 11 (by omega) (by omega)]; exact x1) (by rw [if_neg (by rw [l1]; exact fun w => by cases w)])
        | succ d ih =>
          intro q D mm J hq hD hmm oJ oJ2 gJ g87
          have hx : (flR N R)[q]? = some ((flR N R)[q]'(by omega)) := List.getElem?_eq_getElem (by omega)
          have hdr : (flR N R).drop q = (flR N R)[q]'(by omega) :: (flR N R).drop (q + 1) := List.drop_eq_getElem_cons (by omega)
          generalize (flR N R)[q]'(by omega) = x at hx hdr
          obtain ⟨x45, x51, -⟩ := fr q x hx
          obtain ⟨hxm, -⟩ := fl_szin hN hR hx
          rw [hdr, List.take_succ_cons] at hD
          have hD' : W = D ++ (if ndR (N x.1) = 8 then en (nmC N x.1) :: sgV N en (((flR N R).drop (q + 1)).take d) else sgV N en (((flR N R).drop (q + 1)).take d)) := hD
          refine h55 _ _ _ _ ?_
          rw [if_neg (fun u => by have := (zi_le (by omega) (by omega)).mp u; omega)]
          refine (w_get (by decide)).mpr ?_
          rw [rg_in (by decide) (show q < 400 by omega), show J.1 (44 + 1) q = zi x.1 by rw [oJ (44 + 1) q (by omega) (by omega)]; exact x45]
          refine (w_get (by decide)).mpr ?_
          rw [rg_in (by decide) (show x.1 < 3400 by omega), show J.1 (25 + 1) x.1 = Int32.ofInt (ndR (N x.1)) by rw [oJ (25 + 1) x.1 (by omega) (by omega)]; exact (rep.2 x.1 hxm).1]
          intro P149 h149
          by_cases u8 : ndR (N x.1) = 8
          · rw [if_pos (show Int32.ofInt (ndR (N x.1)) = 8 by rw [u8]; rfl)]
            rw [if_pos u8] at hD'
            obtain ⟨c1, c2, -⟩ := chN_is (k := 0) (y := 5) hN hxm (show ndR (N x.1) = ((8 : Nat) : Int) from u8) rfl
            obtain ⟨t, t1, t2⟩ := fst_tok hN hR hx c1 (by omega)
            have htl := (List.getElem?_eq_some_iff.mp t2).1
            have hmem := List.mem_of_getElem? t2
            have hWl : W.length = D.length + (1 + (sgV N en (((flR N R).drop (q + 1)).take d)).length) := by
              rw [hD', List.length_append, List.length_cons]
              omega
            refine (w_get (by decide)).mpr ?_
            rw [rg_in (by decide) (show q < 400 by omega), show J.1 (50 + 1) q = zi t by rw [oJ (50 + 1) q (by omega) (by omega), show I.1 (50 + 1) q = Int32.ofInt x.2.2.1 from x51, t1, zi_int]]
            refine (w_get (by decide)).mpr ?_
            rw [rg_in (by decide) (show t < 100 by omega), show J.1 (70 + 1) t = zi (ixNm N (nmV N (chN (N x.1) 0)) (yl N R)) by rw [oJ (70 + 1) t (by omega) (by omega)]; exact na t _ t2 c2]
            refine (w_get (by decide)).mpr ?_
            rw [rg_in (by decide) (hix _ hmem c2), show J.1 (72 + 1) (ixNm N (nmV N (chN (N x.1) 0)) (yl N R)) = en (nmC N x.1) by rw [oJ (72 + 1) _ (by omega) (by omega)]; exact he _ hmem c2]
            intro P132 h132
            have put : ∀ ub : Bool, (ub = true ↔ nw = false ∧ I.1 87 (o + D.length) ≠ en (nmC N x.1)) → P132 (b01 ub) := by
              intro ub hub
              refine h132 _ (fun w6 e6 => (w_set (by decide)).mpr (fun w5 e5 => ?_))
              rw [rs_in (by decide) (show o + D.length < 25600 by omega)]
              have e6' : w6 = b01 (mm || ub) := by
                rw [e6]
                cases mm <;> cases ub <;> decide
              rw [e5, zi_succ, e6']
              refine h149 _ _ _ (fun v' ev => ?_)
              rw [ev, zi_succ, show o + D.length + 1 = o + (D ++ [en (nmC N x.1)]).length by rw [List.length_append]; rfl]
              refine ih (q + 1) (D ++ [en (nmC N x.1)]) (mm || ub) _ (by omega) (by rw [hD', List.append_assoc]; rfl) ?_ (fun a j u1 u2 => by rw [zu_oo u2]; exact oJ a j u1 u2) (fun a j => by rw [zu_2]; exact oJ2 a j) (by rw [zu_oo (by decide)]; exact gJ) (fun j => ?_)
              · rw [Bool.or_eq_true, hmm, hub]
                constructor
                · rintro (⟨w1, j, w2, w3⟩ | ⟨w1, w2⟩)
                  · refine ⟨w1, j, by rw [List.length_append]; exact Nat.lt_of_lt_of_le w2 (Nat.le_add_right _ _), ?_⟩
                    rw [getD_snoc, if_neg (by omega)]
                    exact w3
                  · refine ⟨w1, D.length, by rw [List.length_append]; exact Nat.lt_succ_self _, ?_⟩
                    rw [getD_snoc, if_pos rfl]
                    exact w2
                · rintro ⟨w1, j, w2, w3⟩
                  rw [List.length_append] at w2
                  change j < D.length + 1 at w2
                  rw [getD_snoc] at w3
                  by_cases uj : j = D.length
                  · rw [if_pos uj, uj] at w3
                    exact Or.inr ⟨w1, w3⟩
                  · rw [if_neg uj] at w3
                    exact Or.inl ⟨w1, j, by omega, w3⟩
              · rw [zu_at, List.length_append]
                show _ = if o ≤ j ∧ j < o + (D.length + 1) then (D ++ [en (nmC N x.1)]).getD (j - o) 0 else I.1 87 j
                rw [getD_snoc]
                by_cases uj : j = o + D.length
                · rw [if_pos ⟨rfl, uj⟩, if_pos ⟨by omega, by omega⟩, if_pos (by omega)]
                · rw [if_neg (fun w => uj w.2), g87]
                  by_cases uk : o ≤ j ∧ j < o + D.length
                  · rw [if_pos uk, if_pos ⟨uk.1, by omega⟩, if_neg (by omega)]
                  · rw [if_neg uk, if_neg (fun w => uk ⟨w.1, by omega⟩)]
            intro P131 h131
            cases nw with
            | true =>
              rw [if_neg (show ¬ b01 true = 0 by decide)]
              exact h131 (put false ⟨fun w => (by cases w), fun w => absurd w.1 (by decide)⟩)
            | false =>
              rw [if_pos (show b01 false = 0 from rfl)]
              refine (w_get (by decide)).mpr ?_
              rw [rg_in (by decide) (show o + D.length < 25600 by omega), show J.1 (86 + 1) (o + D.length) = I.1 87 (o + D.length) by rw [show J.1 (86 + 1) (o + D.length) = _ from g87 (o + D.length), if_neg (by omega)]]
              by_cases ue : I.1 87 (o + D.length) = en (nmC N x.1)
              · rw [if_pos ue]
                exact h131 (put false ⟨fun w => (by cases w), fun w => absurd ue w.2⟩)
              · rw [if_neg ue]
                exact put true ⟨fun _ => ⟨rfl, ue⟩, fun _ => rfl⟩
          · rw [if_neg (show ¬ Int32.ofInt _ = 8 from fun v => u8 ((rl_eq (r := 8) hN hxm (by decide)).mp v))]
            rw [if_neg u8] at hD'
            refine h149 _ _ _ (fun v' ev => ?_)
            rw [ev, zi_succ]
            exact ih (q + 1) D mm J (by omega) hD' hmm oJ oJ2 gJ g87
      have st := main (hi - lo) lo [] false I3 (by omega) (hW.trans rfl) ⟨fun w => (by cases w), fun w => by
        obtain ⟨-, j, hj, -⟩ := w
        exact absurd hj (Nat.not_lt_zero _)⟩ (fun a j u1 _ => o3 a j u1) o32 g3 (fun j => by
        rw [if_neg (fun w => by
          have h2 : j < o + 0 := w.2
          omega)]
        exact o3 87 j (by omega))
      exact st
    cases nw with
    | true =>
      rw [if_neg (show ¬ b01 true = 0 by decide)]
      refine (w_set (by decide)).mpr ?_
      rw [rs_in (by decide) hs, x1, zi_succ]
      refine rest2 _ (fun a j u => by rw [zu_at, if_neg u]) (fun a j => by rw [zu_2]) ?_
      rw [zu_self, (hn1 rfl).2]
    | false =>
      rw [if_pos (show b01 false = 0 from rfl)]
      obtain ⟨l, l1, l2⟩ := hn0 rfl
      refine rest2 I (fun _ _ _ => rfl) (fun _ _ => rfl) ?_
      rw [l2]
      exact (x4 s l hs l1).1
  cases hr : rc s with
  | none =>
    rw [show I.1 (84 + 1) s = 0 from x3 s hs hr, if_pos rfl]
    exact rest true n (fun _ => ⟨hr, rfl⟩) (fun w => by cases w)
  | some l =>
    have h1 := (x4 s l hs hr).1
    have h2 := (x4 s l hs hr).2.1
    rw [show I.1 (84 + 1) s = zi (of s + 1) from h1, if_neg (fun w => by
      have := (zi_eq (b := 0) (by omega) (by decide)).mp w
      omega)]
    exact rest false (of s) (fun w => by cases w) (fun _ => ⟨l, hr, rfl⟩)
/-! ===== all RUN, with what is recorded, the class ===== -/
def rdl (N : Nat → Nd) (s : Nat) : Nat := (rdV N (fun _ => 0) (chN (N s) 2)).length
theorem rdV_len {N : Nat → Nd} {en : Int64 → Int32} {s : Nat} : (rdV N en (chN (N s) 2)).length = rdl N s := poV_len
def daN (N : Nat → Nd) (e : Nat) (rc : RcZ) (s : Nat) (W : List Int32) : Nat := if ndB (N s) = e ∨ ¬ rc s = some W then 1 else 0
/-- records, how many are done again, how much room the records take -/
abbrev RcA : Type := RcZ × Nat × Nat
def rcS (N : Nat → Nd) (e : Nat) (en : Int64 → Int32) (s : Nat) (u : RcA) : RcA := (rcU u.1 s (rdV N en (chN (N s) 2)), u.2.1 + daN N e u.1 s (rdV N en (chN (N s) 2)), if u.1 s = none then u.2.2 + rdl N s else u.2.2)
theorem rcS_1 {N : Nat → Nd} {e : Nat} {en : Int64 → Int32} {s : Nat} {u : RcA} : (rcS N e en s u).1 = rcU u.1 s (rdV N en (chN (N s) 2)) := rfl
def rcP (N : Nat → Nd) (F : List Fl) (e : Nat) (u0 : RcA) : Nat → RcA
  | 0 => u0
  | p + 1 => match F[p]? with
    | some x => if ndR (N x.1) = 2 ∧ e ≠ 0 then rcS N e (ruE (ruAt N F p)) x.1 (rcP N F e u0 p) else rcP N F e u0 p
    | none => rcP N F e u0 p
theorem rcP_s {N : Nat → Nd} {F : List Fl} {e p : Nat} {u0 : RcA} {x : Fl} (h : F[p]? = some x) : rcP N F e u0 (p + 1) = if ndR (N x.1) = 2 ∧ e ≠ 0 then rcS N e (ruE (ruAt N F p)) x.1 (rcP N F e u0 p) else rcP N F e u0 p := by
  show (match F[p]? with | some x => if ndR (N x.1) = 2 ∧ e ≠ 0 then rcS N e (ruE (ruAt N F p)) x.1 (rcP N F e u0 p) else rcP N F e u0 p | none => rcP N F e u0 p) = _
  rw [h]
theorem rcP_o {N : Nat → Nd} {F : List Fl} {e : Nat} {u0 : RcA} {c : Nat} : ∀ p, p ≤ F.length → (∀ (q : Nat) (x : Fl), q < p → F[q]? = some x → x.1 ≠ c) → (rcP N F e u0 p).1 c = u0.1 c
  | 0, _, _ => rfl
  | p + 1, hp, h => by
    have ih := rcP_o (N := N) (e := e) (u0 := u0) p (by omega) (fun q x hq hx => h q x (by omega) hx)
    have hx : F[p]? = some (F[p]'(by omega)) := List.getElem?_eq_getElem (by omega)
    generalize F[p]'(by omega) = x at hx
    rw [rcP_s hx]
    split
    · rw [rcS_1, rcU_o (fun w => h p x (Nat.lt_succ_self _) hx w.symm)]
      exact ih
    · exact ih
def smR (N : Nat → Nd) : List Nat → Nat
  | [] => 0
  | s :: l => rdl N s + smR N l
theorem smR_app {N : Nat → Nd} : ∀ {l k : List Nat}, smR N (l ++ k) = smR N l + smR N k
  | [], _ => (Nat.zero_add _).symm
  | s :: l, k => by
    show rdl N s + smR N (l ++ k) = rdl N s + smR N l + smR N k
    rw [smR_app]
    omega
theorem rcP_n {N : Nat → Nd} {F : List Fl} {e : Nat} {u0 : RcA} : ∀ p, p ≤ F.length → (rcP N F e u0 p).2.2 ≤ u0.2.2 + smR N (st2 N (F.take p))
  | 0, _ => Nat.le_refl _
  | p + 1, hp => by
    have ih := rcP_n (N := N) (F := F) (e := e) (u0 := u0) p (by omega)
    have hx : F[p]? = some (F[p]'(by omega)) := List.getElem?_eq_getElem (by omega)
    generalize F[p]'(by omega) = x at hx
    have e1 : st2 N (F.take (p + 1)) = st2 N (F.take p) ++ (if ndR (N x.1) = 2 then [x.1] else []) := by
      rw [List.take_add_one, hx, st2_app]
      rfl
    rw [rcP_s hx, e1, smR_app]
    by_cases u : ndR (N x.1) = 2 ∧ e ≠ 0
    · rw [if_pos u, if_pos u.1]
      show (if (rcP N F e u0 p).1 x.1 = none then (rcP N F e u0 p).2.2 + rdl N x.1 else (rcP N F e u0 p).2.2) ≤ u0.2.2 + (smR N (st2 N (F.take p)) + (rdl N x.1 + 0))
      split <;> omega
    · rw [if_neg u]
      omega
theorem smR_le {N : Nat → Nd} {F : List Fl} {p : Nat} {x : Fl} (hx : F[p]? = some x) (h2 : ndR (N x.1) = 2) : smR N (st2 N (F.take p)) + rdl N x.1 ≤ smR N (st2 N F) := by
  have hpl := (List.getElem?_eq_some_iff.mp hx).1
  have hd : F.drop p = x :: F.drop (p + 1) := by
    rw [List.drop_eq_getElem_cons hpl, (List.getElem?_eq_some_iff.mp hx).2]
  have e : F = F.take p ++ (x :: F.drop (p + 1)) := by
    rw [← hd, List.take_append_drop]
  have e2 : st2 N (x :: F.drop (p + 1)) = x.1 :: st2 N (F.drop (p + 1)) := if_pos h2
  have e3 : smR N (st2 N F) = smR N (st2 N (F.take p)) + (rdl N x.1 + smR N (st2 N (F.drop (p + 1)))) := by
    have h1 : st2 N F = st2 N (F.take p) ++ x.1 :: st2 N (F.drop (p + 1)) := by
      rw [← e2, ← st2_app, ← e]
    rw [h1, smR_app]
    rfl
  omega
theorem s_runStatementR {m R p n c n2 c2 : Nat} {N : Nat → Nd} {u : RuZ} {x : Fl} {rc rc2 : RcZ} {a2 : Int32} {I : zI} {K : zI → Prop} (cl : ClZ I m N R) (na : NaX I N (yl N R)) (ro : RoX I N (yl N R) u) (hx : (flR N R)[p]? = some x) (h2 : ndR (N x.1) = 2) (rx : RcX I n rc) (h14 : I.1 69 14 = zi c)
    (hc : (a2 ≤ 0 ∧ rc2 = rc ∧ c2 = c ∧ n2 = n) ∨ ∃ e, a2 = zi e ∧ 1 ≤ e ∧ e < 2147483648 ∧ ndB (N x.1) < 2147483648 ∧ (rc x.1 = none → ndB (N x.1) = e) ∧ (∀ l, rc x.1 = some l → l.length = rdl N x.1) ∧ n + rdl N x.1 ≤ 25600 ∧ rc2 = rcU rc x.1 (rdV N (ruE u) (chN (N x.1) 2)) ∧ n2 = (if rc x.1 = none then n + rdl N x.1 else n) ∧ c2 = c + daN N e rc x.1 (rdV N (ruE u) (chN (N x.1) 2)))
    (hK : ∀ J, eqQ Qrt I J → RoX J N (yl N R) (ruS N (flR N R) p x.1 u) → RcX J n2 rc2 → J.1 69 14 = zi c2 → K J) : w_Runner_runStatement (zi p) a2 I K := by
  have cl0 := cl
  obtain ⟨rep, hN, hm, hR, hl, hL, fr, f12, tz⟩ := cl
  have hpl := (List.getElem?_eq_some_iff.mp hx).1
  obtain ⟨x45, x51, x55⟩ := fr p x hx
  obtain ⟨hxm, -⟩ := fl_szin hN hR hx
  obtain ⟨hem, hzm, c2', a2', c1, a1, f, f1, f2, f3⟩ := st_e hN hR hx h2
  obtain ⟨t, t1, t2⟩ := fst_tok hN hR hx a1 (by omega)
  have hfl := (List.getElem?_eq_some_iff.mp f1).1
  have hfs := (fl_szin hN hR f1).2
  have hseg := seg_po hN hR f1
  rw [f2] at hfs hseg
  have hF : (flR N R).length = sz N R := fl_len hN R hR _ _ _ _
  have he4 := ru4 hN hem (Or.inl c2')
  refine (w_get (by decide)).mpr (fun v4 ev4 => ?_)
  rw [rg_in (by decide) (show p < 400 by omega), show I.1 (44 + 1) p = zi x.1 from x45]
  rw [show (3 : Int32) = zi 3 from rfl, zi_add] at ev4
  subst ev4
  refine (w_get (by decide)).mpr (fun v5 ev5 => ?_)
  rw [rg_in (by decide) (show p + 3 < 400 by omega), show I.1 (54 + 1) (p + 3) = zi (sz N (chN (N x.1) 2)) by rw [show I.1 (54 + 1) (p + 3) = zi (sz N f.1) from (fr _ f f1).2.2, f2], zi_add] at ev5
  subst ev5
  intro P55 h55
  -- what comes behind the records
  have tail : ∀ (M : zI), eqQ Qrc I M → RcX M n2 rc2 → M.1 69 14 = zi c2 → ∀ P91 : zI → Prop, (∀ (I_7 : zI), (w_Runner_noteReads (zi (p + 3)) (zi (p + 3 + sz N (chN (N x.1) 2))) I_7 (fun I_8 => w_Runner_evaluate (zi (p + 3)) (zi (p + 3 + sz N (chN (N x.1) 2))) I_8 (fun I_9 => w_Row_get 50 400 (zi p) I_9 (fun r_10 => w_Row_get 82 400 (zi (p + 3)) I_9 (fun r_11 => w_Runner_setName r_10 (zi p) r_11 I_9 (fun I_12 => K I_12)))))) → P91 I_7) → P91 M := by
    intro M hM rM m14 P91 h91
    have qM : eqQ Qrr I M := hM.mono (fun a j h => by unfold Qrc at h; unfold Qrr; omega)
    have clM := cl0.kp qM
    have naM : NaX M N (yl N R) := na.kp (fun j => hM.1 71 j (by unfold Qrc; omega))
    have roM : RoX M N (yl N R) u := ro.kp (fun a j h => hM.1 a j (by unfold Qrc; omega))
    refine h91 M (s_noteReads clM naM roM (by omega) (by omega) (fun A qA rA => ?_))
    rw [show p + 3 + sz N (chN (N x.1) 2) - (p + 3) = sz N (chN (N x.1) 2) by omega] at rA
    have qA' : eqQ Qrr M A := qA.mono (fun a j h => by unfold Qno at h; unfold Qrr; omega)
    have clA := clM.kp qA'
    have naA : NaX A N (yl N R) := naM.kp (fun j => qA.1 71 j (by unfold Qno; omega))
    refine s_evaluate (en := ruE u) clA naA rA.1 (by omega) (by omega) (fun q y u1 u2 hy => ?_) (fun B qB wB => ?_)
    · have := sub_in hN hR f1 hy u1 (by rw [f2]; omega)
      rw [f2] at this
      exact this
    have qB' : eqQ Qrr A B := qB.mono (fun a j h => by unfold Qrr; omega)
    have clB := clA.kp qB'
    have naB : NaX B N (yl N R) := naA.kp (fun j => qB.1 71 j (by omega))
    have rB := rA.kp (J := B) (fun a j h => qB.1 a j (by omega))
    refine (w_get (by decide)).mpr ?_
    rw [rg_in (by decide) (show p < 400 by omega), show B.1 (50 + 1) p = zi t by rw [show B.1 (50 + 1) p = Int32.ofInt x.2.2.1 from (clB.2.2.2.2.2.2.1 p x hx).2.1, t1, zi_int]]
    refine (w_get (by decide)).mpr ?_
    rw [rg_in (by decide) (show p + 3 < 400 by omega), show B.1 (82 + 1) (p + 3) = evN N (ruE u) (chN (N x.1) 2) by rw [show B.1 (82 + 1) (p + 3) = evN N (ruE u) f.1 from wB (p + 3) f (by omega) (by omega) f1 (by rw [f2]; exact he4), f2]]
    refine s_setName clB naB hx rfl t2 a2' rfl rB (fun C qC rC => hK C ?_ rC ?_ ?_)
    · exact (((hM.mono (fun a j h => by unfold Qrc at h; unfold Qrt; omega)).tr (qA.mono (fun a j h => by unfold Qno at h; unfold Qrt; omega))).tr (qB.mono (fun a j h => by unfold Qrt; omega))).tr (qC.mono (fun a j h => by unfold Qsn at h; unfold Qrt; omega))
    · exact rM.kp (fun a j h => by rw [qC.1 a j (by unfold Qsn; omega), qB.1 a j (by omega), qA.1 a j (by unfold Qno; omega)])
    · rw [qC.1 69 14 (by unfold Qsn; omega), qB.1 69 14 (by omega), qA.1 69 14 (by unfold Qno; omega)]
      exact m14
  rcases hc with ⟨d1, d2, d3, d4⟩ | ⟨e, d1, d2, d3, d4, d5, d6, d7, d8, d9, d10⟩
  · subst d2
    subst d3
    subst d4
    intro P54 h54
    rw [if_pos d1]
    refine h54 I (h55 _ _ ?_)
    intro P91 h91
    rw [if_pos d1]
    exact tail I eqQ.rf rx h14 P91 h91
  · subst d1
    have hW : sgV N (ruE u) (((flR N R).drop (p + 3)).take (p + 3 + sz N (chN (N x.1) 2) - (p + 3))) = rdV N (ruE u) (chN (N x.1) 2) := by
      rw [show p + 3 + sz N (chN (N x.1) 2) - (p + 3) = sz N (chN (N x.1) 2) by omega, sgV_map, hseg]
      rfl
    have hWl : (rdV N (ruE u) (chN (N x.1) 2)).length = rdl N x.1 := rdV_len
    have ne0 : ¬ zi e ≤ 0 := nle_zi' (k := 0) (by omega)
    intro P54 h54
    rw [if_neg ne0]
    refine s_recordReads cl0 na ro.1 (by omega) (by omega) (by omega) hW.symm rx (by omega) (fun l hl' => by rw [hWl]; exact d6 l hl') (fun J qJ rJ => ?_)
    rw [hWl, ← d8, ← d9] at rJ
    have j14 : J.1 69 14 = zi c := by
      rw [qJ.1 69 14 (by unfold QrcZ; omega)]
      exact h14
    have qJ : eqQ Qrc I J := qJ.mono (fun a j h => by unfold QrcZ at h; unfold Qrc; omega)
    have jmb : rg 3400 (J.1 (33 + 1)) (zi x.1) = zi (ndB (N x.1)) := by
      rw [rg_in (by decide) (show x.1 < 3400 by omega), qJ.1 (33 + 1) x.1 (by unfold Qrc; omega)]
      exact (rep.2 x.1 hxm).2.2.2.2.1
    -- counted
    have yes : c2 = c + 1 → ∀ P91 : zI → Prop, (∀ (I_7 : zI), (w_Runner_noteReads (zi (p + 3)) (zi (p + 3 + sz N (chN (N x.1) 2))) I_7 (fun I_8 => w_Runner_evaluate (zi (p + 3)) (zi (p + 3 + sz N (chN (N x.1) 2))) I_8 (fun I_9 => w_Row_get 50 400 (zi p) I_9 (fun r_10 => w_Row_get 82 400 (zi (p + 3)) I_9 (fun r_11 => w_Runner_setName r_10 (zi p) r_11 I_9 (fun I_12 => K I_12)))))) → P91 I_7) → ∀ I_13, I_13 = (zu J 69 14 ((J.1 69 14) + 1)) → P91 I_13 := by
      intro hc1 P91 h91 I13 e13
      refine tail I13 ?_ (rJ.kp (fun a j h => by rw [e13, zu_at, if_neg (by omega)])) ?_ P91 h91
      · rw [e13]
        exact qJ.zu (Or.inl ⟨rfl, Or.inr rfl⟩)
      · rw [e13, zu_self, j14, zi_succ, hc1]
    by_cases k1 : rc x.1 = none ∨ rc x.1 = some (rdV N (ruE u) (chN (N x.1) 2))
    · rw [if_pos k1, if_pos (show (0 : Int32) = 0 from rfl)]
      refine h54 J (h55 _ _ ?_)
      intro P91 h91
      rw [if_neg ne0]
      intro P81 h81
      rw [if_pos (show (0 : Int32) = 0 from rfl)]
      refine (w_get (by decide)).mpr ?_
      rw [jmb]
      by_cases k2 : ndB (N x.1) = e
      · rw [if_pos (by rw [k2])]
        refine h81 (yes ?_ P91 h91)
        rw [d10]
        unfold daN
        rw [if_pos (Or.inl k2)]
      · rw [if_neg (fun w => k2 ((zi_eq d4 d3).mp w))]
        refine tail J qJ rJ ?_ P91 h91
        rw [j14, d10]
        unfold daN
        rw [if_neg (fun w => by
          rcases w with w | w
          · exact k2 w
          · rcases k1 with k1 | k1
            · exact k2 (d5 k1)
            · exact w k1)]
        rfl
    · rw [if_neg k1, if_neg (show ¬ (1 : Int32) = 0 by decide)]
      refine h55 _ _ ?_
      intro P91 h91
      rw [if_neg ne0]
      intro P81 h81
      rw [if_neg (show ¬ (1 : Int32) = 0 by decide)]
      refine h81 (yes ?_ P91 h91)
      rw [d10]
      unfold daN
      rw [if_pos (Or.inr (fun w => k1 (Or.inr w)))]
def Qcr (a j : Nat) : Prop := (a = 69 ∧ 12 ≤ j) ∨ (72 ≤ a ∧ a ≤ 83)
theorem s_clearR {N : Nat → Nd} {L : List Nat} {I : zI} {K : zI → Prop} (hL : ∀ z, z ∈ L → ndM (N z) = 5 → ixNm N (nmV N z) L < 100) (hK : ∀ J, eqQ Qcr I J → RoX J N L ru0 → J.1 69 14 = zi 0 → K J) : w_Runner_clear I K := by
  unfold w_Runner_clear
  refine s_fill (by decide) (fun I1 q1 g1 => s_fill (by decide) (fun I2 q2 g2 => s_fill (by decide) (fun I3 q3 g3 => s_fill (by decide) (fun I4 q4 g4 => s_fill (by decide) (fun I5 q5 g5 => ?_)))))
  intro I6 e6 I7 e7 I8 e8
  have hq : eqQ Qcr I I5 := ((((eqX.q eqQ.rf q1 (fun a j h1 h2 => Or.inr ⟨by omega, by omega⟩)) |> fun h => eqX.q h q2 (fun a j h1 h2 => Or.inr ⟨by omega, by omega⟩)) |> fun h => eqX.q h q3 (fun a j h1 h2 => Or.inr ⟨by omega, by omega⟩)) |> fun h => eqX.q h q4 (fun a j h1 h2 => Or.inr ⟨by omega, by omega⟩)) |> fun h => eqX.q h q5 (fun a j h1 h2 => Or.inr ⟨by omega, by omega⟩)
  have o8 : ∀ a j, a ≠ 69 → I8.1 a j = I5.1 a j := fun a j u => by rw [e8, zu_oo u, e7, zu_oo u, e6, zu_oo u]
  have xx : ∀ {lo hi : Nat} {A B : zI} (q : eqX lo hi A B) (a j : Nat), a < lo ∨ hi ≤ a → B.1 a j = A.1 a j := fun q a j h => congrFun (q a h).1 j
  have v73 : ∀ j, j < 100 → I8.1 73 j = 0 := fun j hj => by
    rw [o8 _ _ (by decide), xx q5 73 j (by omega), xx q4 73 j (by omega), xx q3 73 j (by omega), xx q2 73 j (by omega)]
    exact (g1 j).trans (if_pos hj)
  have v75 : ∀ j, j < 100 → I8.1 75 j = 0 := fun j hj => by
    rw [o8 _ _ (by decide), xx q5 75 j (by omega), xx q4 75 j (by omega), xx q3 75 j (by omega)]
    exact (g2 j).trans (if_pos hj)
  have v77 : ∀ j, j < 100 → I8.1 77 j = -2 := fun j hj => by
    rw [o8 _ _ (by decide), xx q5 77 j (by omega), xx q4 77 j (by omega)]
    exact (g3 j).trans (if_pos hj)
  have v79 : ∀ j, j < 100 → I8.1 79 j = -2 := fun j hj => by
    rw [o8 _ _ (by decide), xx q5 79 j (by omega)]
    exact (g4 j).trans (if_pos hj)
  have v81 : ∀ j, j < 100 → I8.1 81 j = -2 := fun j hj => by
    rw [o8 _ _ (by decide)]
    exact (g5 j).trans (if_pos hj)
  refine hK I8 ?_ ⟨fun z hz h5 => v73 _ (hL z hz h5), fun z hz h5 => ⟨v75 _ (hL z hz h5), v77 _ (hL z hz h5), v79 _ (hL z hz h5)⟩, v81, ?_, ?_, fun v q hq => (by
    change (none : Option Nat) = some q at hq
    cases hq), fun j hj _ => v75 j hj⟩ (by rw [e8, zu_self]; rfl)
  · rw [e8, e7, e6]
    exact ((hq.zu (Or.inl ⟨rfl, by decide⟩)).zu (Or.inl ⟨rfl, by decide⟩)).zu (Or.inl ⟨rfl, by decide⟩)
  · rw [e8, zu_at, if_neg (by decide), e7, zu_at, if_neg (by decide), e6, zu_self]
    rfl
  · rw [e8, zu_at, if_neg (by decide), e7, zu_self]
    rfl
theorem s_runAllR {a m n R n0 ed : Nat} {N : Nat → Nd} {og : Nat → Nat} {rc : RcZ} {I : zI} {K : zI → Prop} (ha : a + 15 < 69 ∨ 87 < a) (cl : ClZ I m N R) (tk : TkH I a m n N og R) (ho : ∀ (p q : Nat) (x y : Fl), (flR N R)[p]? = some x → (flR N R)[q]? = some y → x.1 = y.1 → p = q) (rx : RcX I n0 rc) (hed : ed < 2147483648) (hnB : ∀ c, c < m → ndB (N c) < 2147483648)
    (hrc : ed ≠ 0 → n0 + smR N (setsOf N R) ≤ 25600 ∧ ∀ (p : Nat) (x : Fl), (flR N R)[p]? = some x → ndR (N x.1) = 2 → (rc x.1 = none → ndB (N x.1) = ed) ∧ ∀ l, rc x.1 = some l → l.length = rdl N x.1)
    (hK : ∀ J, eqQ Qrr I J → EvX J N R → RcX J (rcP N (flR N R) ed (rc, 0, n0) (flR N R).length).2.2 (rcP N (flR N R) ed (rc, 0, n0) (flR N R).length).1 → J.1 69 14 = zi (rcP N (flR N R) ed (rc, 0, n0) (flR N R).length).2.1 → K J) : w_Runner_runAll a (zi ed) I K := by
  have rt : ∀ {A B : zI}, eqQ Qrt A B → eqQ Qrr A B := fun q => q.mono (fun a j h => by unfold Qrt at h; unfold Qrr; omega)
  have hl := cl.2.2.2.2.1
  have hF : (flR N R).length = sz N R := fl_len cl.2.1 R cl.2.2.2.1 _ _ _ _
  have f12 := cl.2.2.2.2.2.2.2.1
  refine s_clearR (N := N) (L := yl N R) (fun z hz h5 => cl.ix hz h5) (fun A qA rA a14 => ?_)
  have qA2 : eqQ Qrt I A := qA.mono (fun a j h => by unfold Qcr at h; unfold Qrt; omega)
  have clA := cl.kp (rt qA2)
  refine s_findNames ha clA (tk.kp (fun b j h1 h2 => qA.1 b j (by unfold Qcr; omega))) (fun B qB nB => ?_)
  have qB' : eqQ Qrr I B := (rt qA2).tr (qB.mono (fun a j h => by unfold Qrr; omega))
  have rB : RoX B N (yl N R) ru0 := rA.kp (fun a j h => qB.1 a j (by omega))
  have xB : RcX B n0 rc := rx.kp (fun a j h => by rw [qB.1 a j (by omega), qA.1 a j (by unfold Qcr; omega)])
  have b14 : B.1 69 14 = zi 0 := by
    rw [qB.1 69 14 (by omega)]
    exact a14
  intro P11 h11
  have main : ∀ (d p : Nat) (J : zI), p + d = (flR N R).length → eqQ Qrr I J → NaX J N (yl N R) → RoX J N (yl N R) (ruAt N (flR N R) p) → RcX J (rcP N (flR N R) ed (rc, 0, n0) p).2.2 (rcP N (flR N R) ed (rc, 0, n0) p).1 → J.1 69 14 = zi (rcP N (flR N R) ed (rc, 0, n0) p).2.1 → P11 (zi p) J := by
    intro d
    induction d with
    | zero =>
      intro p J hp hJ nJ rJ xJ j14
      have hp' : p = (flR N R).length := by omega
      refine h11 _ _ ?_
      rw [hJ.1 43 12 (by unfold Qrr; omega), f12, if_pos ((zi_le (by omega) (by omega)).mpr (by omega))]
      rw [hp'] at rJ xJ j14
      refine s_evaluate (lo := 0) (en := ruE (ruN N R)) (cl.kp hJ) nJ rJ.1 (Nat.zero_le _) (Nat.le_refl _) (fun q y _ u2 hy => ?_) (fun C qC wC => ?_)
      · have := (fl_szin cl.2.1 cl.2.2.2.1 hy).2.2
        omega
      · refine s_sumRn (en := ruE (ruN N R)) (cl.kp (hJ.tr (qC.mono (fun a j h => by unfold Qrr; omega)))) wC (fun D qD d15 d16 => hK D ((hJ.tr (qC.mono (fun a j h => by unfold Qrr; omega))).tr (qD.mono (fun a j h => by unfold Qsr at h; unfold Qrr; omega))) ⟨nJ.kp (fun j => by rw [qD.1 71 j (by unfold Qsr; omega), qC.1 71 j (by omega)]), rJ.kp (fun a j h => by rw [qD.1 a j (by unfold Qsr; omega), qC.1 a j (by omega)]), fun q x h1 h2 hx h4 => by rw [qD.1 83 q (by unfold Qsr; omega)]; exact wC q x h1 h2 hx h4, d15, by rw [d16, show D.1 75 = C.1 75 from funext (fun j => qD.1 75 j (by unfold Qsr; omega))]⟩ (xJ.kp (fun a j h => by rw [qD.1 a j (by unfold Qsr; omega), qC.1 a j (by omega)])) (by rw [qD.1 69 14 (by unfold Qsr; omega), qC.1 69 14 (by omega)]; exact j14))
    | succ d ih =>
      intro p J hp hJ nJ rJ xJ j14
      have hx : (flR N R)[p]? = some ((flR N R)[p]'(by omega)) := List.getElem?_eq_getElem (by omega)
      generalize (flR N R)[p]'(by omega) = x at hx
      have clJ := cl.kp hJ
      obtain ⟨hxm, -⟩ := fl_szin cl.2.1 cl.2.2.2.1 hx
      have hm := cl.2.2.1
      refine h11 _ _ ?_
      rw [hJ.1 43 12 (by unfold Qrr; omega), f12, if_neg (fun u => by have := (zi_le (by omega) (by omega)).mp u; omega)]
      refine (w_get (by decide)).mpr ?_
      rw [rg_in (by decide) (show p < 400 by omega), show J.1 (44 + 1) p = zi x.1 from (clJ.2.2.2.2.2.2.1 p x hx).1]
      refine (w_get (by decide)).mpr ?_
      rw [rg_in (by decide) (show x.1 < 3400 by omega), show J.1 (25 + 1) x.1 = Int32.ofInt (ndR (N x.1)) from (clJ.1.2 x.1 hxm).1]
      intro P53 h53
      have nx : ∀ L, eqQ Qrr I L → NaX L N (yl N R) → RoX L N (yl N R) (ruAt N (flR N R) (p + 1)) → RcX L (rcP N (flR N R) ed (rc, 0, n0) (p + 1)).2.2 (rcP N (flR N R) ed (rc, 0, n0) (p + 1)).1 → L.1 69 14 = zi (rcP N (flR N R) ed (rc, 0, n0) (p + 1)).2.1 → P53 L := fun L hL nL rL xL l14 => h53 L (fun v ev => by
        rw [ev, zi_succ]
        exact ih (p + 1) L (by omega) hL nL rL xL l14)
      rw [ruAt_s hx, rcP_s hx] at nx
      by_cases u2 : ndR (N x.1) = 2
      · rw [if_pos (show Int32.ofInt (ndR (N x.1)) = 2 by rw [u2]; rfl)]
        rw [if_pos u2] at nx
        by_cases ue : ed = 0
        · rw [if_neg (fun w => w.2 ue)] at nx
          exact s_runStatementR (rc2 := (rcP N (flR N R) ed (rc, 0, n0) p).1) (c2 := (rcP N (flR N R) ed (rc, 0, n0) p).2.1) (n2 := (rcP N (flR N R) ed (rc, 0, n0) p).2.2) clJ nJ rJ hx u2 xJ j14 (Or.inl ⟨by rw [ue]; exact Int32.le_refl _, rfl, rfl, rfl⟩) (fun C qC rC xC c14 => nx C (hJ.tr (rt qC)) (nJ.kp (fun j => qC.1 71 j (by unfold Qrt; omega))) rC xC c14)
        · rw [if_pos ⟨u2, ue⟩] at nx
          obtain ⟨k1, k2⟩ := hrc ue
          obtain ⟨k3, k4⟩ := k2 p x hx u2
          have ko : (rcP N (flR N R) ed (rc, 0, n0) p).1 x.1 = rc x.1 := rcP_o p (by omega) (fun q y hq hy w => by
            have := ho q p y x hy hx w
            omega)
          have kn := rcP_n (N := N) (F := flR N R) (e := ed) (u0 := (rc, 0, n0)) p (by omega)
          change _ ≤ n0 + _ at kn
          have kl := smR_le hx u2
          change _ ≤ smR N (setsOf N R) at kl
          exact s_runStatementR clJ nJ rJ hx u2 xJ j14 (Or.inr ⟨ed, rfl, by omega, hed, hnB _ hxm, by rw [ko]; exact k3, by rw [ko]; exact k4, by omega, rfl, rfl, rfl⟩) (fun C qC rC xC c14 => nx C (hJ.tr (rt qC)) (nJ.kp (fun j => qC.1 71 j (by unfold Qrt; omega))) rC xC c14)
      · rw [if_neg (show ¬ Int32.ofInt _ = 2 from fun v => u2 ((rl_eq (r := 2) cl.2.1 hxm (by decide)).mp v))]
        rw [if_neg u2, if_neg (fun w => u2 w.1)] at nx
        exact nx J hJ nJ rJ xJ j14
  exact main (flR N R).length 0 B (by omega) qB' nB rB xB b14
/-- the class has the print of a TREE -/
def PnX (I : zI) (N : Nat → Nd) (R : Nat) : Prop := I.1 0 18 = zi (prt N R).length ∧ OutX 110 I (prt N R)
/-- all that the class sees of a TREE -/
def ViX (I : zI) (N : Nat → Nd) (R : Nat) : Prop :=
  I.1 43 13 = zi R ∧ FlX I (flR N R) ∧ (∀ (p : Nat) (x : Fl), (flR N R)[p]? = some x → I.1 53 p = zi x.2.2.2.1 ∧ I.1 55 p = zi x.2.2.2.2) ∧ RnX I (runsOf N R) ∧ PlX I ∧ RmX I N (flR N R) ∧ EvX I N R ∧ PnX I N R
/-- the class looks at a TREE, runs it, prints it -/
def Qla (a j : Nat) : Prop := Qvi a j ∨ Qrr a j ∨ Qpn a j ∨ (a = 0 ∧ j = 18)
/-- the moment that is looked at has the TREE's tokens -/
def WhZ (I : zI) (a n : Nat) (N : Nat → Nd) (R : Nat) (og : Nat → Nat) : Prop := I.1 a 6 = zi n ∧ (∀ j, j < n → I.1 (a + 15) j = zi (og j)) ∧ ndM (N (og (n - 1))) ≠ 5 ∧ ∀ z, z ∈ yl N R → tkZ (N z)
theorem WhZ.tk {I : zI} {a m n R : Nat} {N : Nat → Nd} {og : Nat → Nat} (h : WhZ I a n N R og) (t : TreeI m N R n og) : TkH I a m n N og R := by
  obtain ⟨h1, h2, h3, h4⟩ := h
  obtain ⟨t1, t2, t3, t4, t5, t6, t7, t8⟩ := t
  refine ⟨h1, h2, fun j hj => ⟨(t5 j hj).1, by rw [(t5 j hj).2]; decide⟩, fun j hj => ?_, fun z j hj => ?_, fun j hj => ?_, t8⟩
  · rw [t3, List.getElem?_map, List.getElem?_range (by omega)]
    rfl
  · have := (List.getElem?_eq_some_iff.mp hj).1
    rw [t3, List.length_map, List.length_range] at this
    omega
  · rw [show j = n - 1 by omega]
    exact h3
theorem s_deskLook {m R n a n0 ed : Nat} {rc : RcZ} {og : Nat → Nat} {N : Nat → Nd} {I : zI} {K : zI → Prop} (rep : RepNX I m N) (hN : NdOk m N) (hu : UqE m N) (hm : m ≤ 3400) (t : TreeI m N R n og) (htk : ∀ c, c < m → ndT (N c) ≤ 1000) (hpl : PlX I) (hp7 : (prt N R).length ≤ 700) (hpy : ∀ z ∈ yl N R, bytY (N z)) (ha : a < 24 ∨ 113 ≤ a) (hT : I.1 a 7 = zi R) (hw : WhZ I a n N R og) (rx : RcX I n0 rc) (hed : ed < 2147483648) (hnB : ∀ c, c < m → ndB (N c) < 2147483648) (hrc : ed ≠ 0 → n0 + smR N (setsOf N R) ≤ 25600 ∧ ∀ (p : Nat) (x : Fl), (flR N R)[p]? = some x → ndR (N x.1) = 2 → (rc x.1 = none → ndB (N x.1) = ed) ∧ ∀ l, rc x.1 = some l → l.length = rdl N x.1)
    (hK : ∀ J, eqQ Qla I J → ViX J N R → RcX J (rcP N (flR N R) ed (rc, 0, n0) (flR N R).length).2.2 (rcP N (flR N R) ed (rc, 0, n0) (flR N R).length).1 → J.1 69 14 = zi (rcP N (flR N R) ed (rc, 0, n0) (flR N R).length).2.1 → K J) : w_Desk_lookAt a (zi ed) I K := by
  unfold w_Desk_lookAt
  have fg := t.flG hN hu
  refine s_lookAt rep hN hu hm t htk hpl hT (fun A qA vA => ?_)
  have clA : ClZ A m N R := by
    refine ⟨rep.kp hN.ch (fun b j u1 u2 _ => qA.1 b j (by unfold Qvi; omega)), hN, hm, t.1, ?_, ?_, fun p x hx => ?_, vA.2.1.1, hw.2.2.2⟩
    · have := t.few hN
      have h2 : (flR N R).length = sz N R := fl_len hN R t.1 _ _ _ _
      omega
    · have := t.tk hN
      have := t.2.2.2.2.2.2.2
      rw [yl_len hN R t.1]
      omega
    · obtain ⟨f1, -, -, f4⟩ := vA.2.1.2 p x hx
      exact ⟨f1, f4, by rw [(vA.2.2.1 p x hx).2, (sz_inR hN t.1 hx).1]⟩
  refine s_runAllR (a := a) (by omega) clA ((hw.tk t).kp (fun b j u1 u2 => qA.1 b j (by unfold Qvi; omega))) fg.2.1 (rx.kp (fun b j u => qA.1 b j (by unfold Qvi; omega))) hed hnB hrc (fun B qB eB xB b14 => ?_)
  have hTB : B.1 a 7 = zi R := by
    rw [qB.1 a 7 (by unfold Qrr; omega), qA.1 a 7 (by unfold Qvi; omega)]
    exact hT
  rw [hTB]
  refine s_write (a2 := 109) (Or.inl rfl) (rep.kp hN.ch (fun a j u1 u2 _ => by rw [qB.1 a j (by unfold Qrr; omega)]; exact qA.1 a j (by unfold Qvi; omega))) hN hm t.1 (by have := t.few hN; omega) hp7 hpy (fun C qC oC I5 e5 => ?_)
  have q5 : eqQ Qla I I5 := by
    rw [e5]
    exact (((qA.mono (fun a j h => Or.inl h)).tr (qB.mono (fun a j h => Or.inr (Or.inl h)))).tr (qC.mono (fun a j h => Or.inr (Or.inr (Or.inl (by unfold Qpw at h; unfold Qpn; omega)))))).zu (Or.inr (Or.inr (Or.inr ⟨rfl, rfl⟩)))
  have o : ∀ a j, 43 ≤ a → a ≤ 68 → I5.1 a j = A.1 a j := fun a j h1 h2 => by
    rw [e5, zu_oo (by omega), qC.1 a j (by unfold Qpw; omega), qB.1 a j (by unfold Qrr; omega)]
  obtain ⟨v1, v2, v3, v4, v5, v6⟩ := vA
  refine hK I5 q5 ⟨by rw [o _ _ (by decide) (by decide)]; exact v1, v2.kp (fun a j h1 h2 => o a j (by omega) (by omega)), fun p x hx => by rw [o 53 _ (by decide) (by decide), o 55 _ (by decide) (by decide)]; exact v3 p x hx, ⟨by rw [o _ _ (by decide) (by decide)]; exact v4.1, fun i r hi => by rw [o _ _ (by decide) (by decide)]; exact v4.2 i r hi⟩, fun c hc => ?_, fun r hr => by rw [o 61 r (by decide) (by decide)]; exact v6 r hr, eB.kp (fun a j u1 u2 => by rw [e5, zu_oo (by omega), qC.1 a j (by unfold Qpw; omega)]), ⟨by rw [e5, zu_self], fun i v hi => by rw [e5, zu_oo (by decide)]; exact oC i v hi⟩⟩ ?_ ?_
  · obtain ⟨p, p1, p2⟩ := v5 c hc
    exact ⟨p, p1, by rw [o 47 c (by decide) (by decide)]; exact p2⟩
  · exact xB.kp (fun a j u => by rw [e5, zu_oo (by omega), qC.1 a j (by unfold Qpw; omega)])
  · rw [e5, zu_oo (by decide), qC.1 69 14 (by unfold Qpw; omega)]
    exact b14
