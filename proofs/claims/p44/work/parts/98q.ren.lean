/-! ===== a NAME changed ===== -/
theorem tmV_len {v : Int64} : ∀ {l : List (Int64 × VaZ)}, tmV v l ≤ l.length
  | [] => Nat.le_refl _
  | q :: l => by
    have := tmV_len (v := v) (l := l)
    rw [List.length_cons]
    show (if q.1 = v then 1 else 0) + tmV v l ≤ _
    split <;> omega
theorem stV_99 {x : Sg} (hv : Iv x) : (stVz (sgN x) (moR (sgC x))).length ≤ 99 := by
  have t := hv.tr
  have h := sets_len hv.2.1 t
  rw [sets_s2 hv.2.1 t.1] at h
  unfold stVz
  rw [List.length_map]
  exact h
/-- tokens in their order, within the text -/
def Srt (n : Nat) : Nat → List (Nat × Nat × Nat) → Prop
  | f, [] => f ≤ n
  | f, y :: ys => f ≤ y.2.1 ∧ y.2.1 + y.2.2 ≤ n ∧ (y.1 = 10 ∨ 1 ≤ y.2.2) ∧ Srt n (y.2.1 + y.2.2) ys
theorem Srt.dn {n : Nat} : ∀ {ys : List (Nat × Nat × Nat)} {f g : Nat}, Srt n g ys → f ≤ g → Srt n f ys
  | [], f, g, h, hf => Nat.le_trans hf h
  | y :: ys, f, g, h, hf => ⟨Nat.le_trans hf h.1, h.2⟩
theorem srt_lex {t : Nat → Int32} {n : Nat} : ∀ (f i : Nat), i ≤ n → Srt n i (lexF t n f i ++ [(10, n, 0)])
  | 0, i, h => ⟨h, Nat.le_refl _, Or.inl rfl, Nat.le_refl _⟩
  | f + 1, i, h => by
    rw [lexF]
    by_cases h1 : n ≤ i
    · rw [if_pos h1]
      exact ⟨h, Nat.le_refl _, Or.inl rfl, Nat.le_refl _⟩
    · rw [if_neg h1]
      by_cases hB : isB (t i) = true
      · rw [if_pos hB]
        exact (srt_lex f (i + 1) (by omega)).dn (Nat.le_succ _)
      · rw [if_neg hB]
        have hp := tkP_pos (t := t) (n := n) (i := i) (by omega)
        exact ⟨Nat.le_refl _, hp.2.1, Or.inr hp.1, srt_lex f _ hp.2.1⟩
theorem seg_le {l : List Int32} {a b : Nat} : (seg l a b).length ≤ b - a := by
  unfold seg
  rw [List.length_take]
  exact Nat.min_le_left _ _
theorem ren_3 {tx tape : List Int32} {sel : Nat × Nat × Nat → Bool} (ht : tape.length = 3) (h10 : ∀ y, sel y = true → y.1 ≠ 10) : ∀ (ys : List (Nat × Nat × Nat)) (f : Nat), Srt tx.length f ys → (ren tx tape sel ys f).length + 3 * f ≤ 3 * tx.length
  | [], f, h => by
    have h : f ≤ tx.length := h
    have := seg_le (l := tx) (a := f) (b := tx.length)
    show (seg tx f tx.length).length + 3 * f ≤ _
    omega
  | y :: ys, f, h => by
    obtain ⟨h1, h2, h3, h4⟩ := h
    show (if sel y = true then seg tx f y.2.1 ++ tape ++ ren tx tape sel ys (y.2.1 + y.2.2) else ren tx tape sel ys f).length + 3 * f ≤ _
    by_cases u : sel y = true
    · have ih := ren_3 ht h10 ys _ h4
      have := seg_le (l := tx) (a := f) (b := y.2.1)
      have := h10 y u
      rw [if_pos u, List.length_append, List.length_append, ht]
      omega
    · rw [if_neg u]
      exact ren_3 ht h10 ys f (h4.dn (by omega))
theorem toks_lex {l : List Int32} {i : Nat} (hi : i < (toks l).length) : (lexL l).getD i (10, 0, 0) = (toks l).getD i (10, 0, 0) := by
  rw [lexL_toks, List.getD_eq_getElem?_getD, List.getD_eq_getElem?_getD, List.getElem?_append_left hi]
theorem tkx_ti {l : List Int32} {i : Nat} (hi : i < (toks l).length) : (tkx l)[i]? = some (tkB l ((toks l).getD i (10, 0, 0))) := by
  have hX : tkx l = (toks l).map (tkB l) := rfl
  rw [hX, List.getElem?_map, List.getD_eq_getElem?_getD, List.getElem?_eq_getElem hi]
  rfl
theorem lex_len {l : List Int32} : (lexL l).length = (toks l).length + 1 := by
  rw [lexL_toks, List.length_append]
  rfl
theorem ren_full {x : Sg} (hs : Lsv x) (hp : Pb x) (hE : sgE x ≤ 39) (htp : nmOk (sgT x) = true) (h3 : (sgT x).length = 3) (hb : moB (sgC x) = true) {i : Nat} (hi : i < (toks (moT (sgC x))).length) (hk : ((toks (moT (sgC x))).getD i (10, 0, 0)).1 = 0) :
    renR x (zi i) = doC x (renD x i) true ∧ BtL (renD x i) ∧ (refu x (renD x i) → 90 < (moT (sgC x)).length ∨ 3000 ≤ sgM x) ∧ (¬ refu x (renD x i) → (doC x (renD x i) true).1 = 0 ∧ sgT (doC x (renD x i) true).2 = [] ∧ vToken (doC x (renD x i) true).2 (zi i) 2 = 3 ∧ vFresh (doC x (renD x i) true).2 = vFresh x ∧ (rnR (doC x (renD x i) true).2).length = (rnR x).length ∧
      vSets x (zi i) ≤ vSets (doC x (renD x i) true).2 (zi i) ∧ ((∀ p ∈ tkx (moT (sgC x)), p.1 = 0 → p.2 ≠ sgT x) → vSets (doC x (renD x i) true).2 (zi i) = vSets x (zi i) ∧ vValue (doC x (renD x i) true).2 (zi i) = vValue x (zi i))) := by
  have hv := hs.1
  have hC := hv.2.2.2.2.2.2.2.1
  obtain ⟨z300, z100⟩ := sz_300 hv
  have hl := lex_len (l := moT (sgC x))
  have hB : BtL (renD x i) := ren_bt (good_bt hv).1 hv.1.2 _ _
  have hkd := renD_kd hv hb htp hi hk
  refine ⟨?_, hB, fun hr => ?_, fun hr => ?_⟩
  · unfold renR
    rw [zi_tn (by omega), if_pos ⟨hb, ⟨zi_ge (by omega), (zi_lt (by omega) (by omega)).mpr (by omega)⟩, by rw [toks_lex hi]; exact hk, htp⟩]
  · rw [refu_is hp hE, lex_klen, hkd] at hr
    have hk99 := (good_bt hv).2.2
    have hlen : (renD x i).length ≤ 3 * (moT (sgC x)).length := by
      have := ren_3 (tx := moT (sgC x)) (tape := sgT x) (sel := selN (moT (sgC x)) i) h3 (fun y hy e => by
        unfold selN at hy
        rw [toks_lex hi, alB_tk] at hy
        have := (Prod.mk.inj hy).1
        omega) (lexL (moT (sgC x))) 0 (srt_lex _ 0 (Nat.zero_le _))
      unfold renD
      omega
    omega
  · obtain ⟨f1, f2, f3, f4, f5, f6⟩ := rename_is hv hs.2.1 hs.2.2.2.2 (by omega) hb htp hi hk hB hr
    have ls := (doC_ls (bt := true) hs hB (by omega)).1
    have hC2 := ls.1.2.2.2.2.2.2.2.1
    have hG2 : moG (sgC (doC x (renD x i) true).2) = renD x i := (hC2.2.2.1 f3).symm.trans f2
    have hG : moG (sgC x) = moT (sgC x) := (hC.2.2.1 hb).symm
    have hpx := tkx_ti hi
    have hrx := renD_tkx hv hb htp hi hk
    have hpx2 : (tkx (renD x i))[i]? = some (0, sgT x) := by
      rw [hrx, List.getElem?_map, hpx]
      show some (rhoT _ _ _) = _
      unfold rhoT
      rw [if_pos rfl]
    have hi2 : i < (toks (renD x i)).length := by
      have := (List.getElem?_eq_some_iff.mp hpx2).1
      have hX : tkx (renD x i) = (toks (renD x i)).map (tkB (renD x i)) := rfl
      rw [hX, List.length_map] at this
      exact this
    have v1 := value_is hv (i := i) (p := tkB (moT (sgC x)) ((toks (moT (sgC x))).getD i (10, 0, 0))) (by rw [hG]; exact hpx)
    have v2 := value_is ls.1 (i := i) (p := (0, sgT x)) (by rw [hG2]; exact hpx2)
    have hk' : (tkB (moT (sgC x)) ((toks (moT (sgC x))).getD i (10, 0, 0))).1 = 0 := hk
    rw [if_pos hk', if_pos hk'] at v1
    rw [if_pos rfl, if_pos rfl, f6] at v2
    have b1 : tmV (tvX (tkB (moT (sgC x)) ((toks (moT (sgC x))).getD i (10, 0, 0)))).2.1 (stVz (sgN x) (moR (sgC x))) ≤ 99 := Nat.le_trans tmV_len (stV_99 hv)
    have b2 : tmV (tvX (0, sgT x)).2.1 ((stVz (sgN x) (moR (sgC x))).map (mpQ (thV (tvX (tkB (moT (sgC x)) ((toks (moT (sgC x))).getD i (10, 0, 0)))).2.1 (tvX (0, sgT x)).2.1))) ≤ 99 := by
      refine Nat.le_trans tmV_len ?_
      rw [List.length_map]
      exact stV_99 hv
    refine ⟨f1, (edit_full hv hs.2.1 hE hB hr).2.2.1, ?_, f5, f4, ?_, fun ho => ?_⟩
    · unfold vToken
      rw [f2, lex_len]
      rw [ixI_some (by have := (sz_300 ls.1).2; rw [f2, lex_len] at this; omega) (show i < (toks (renD x i)).length + 1 by omega)]
      dsimp only
      rw [if_neg (show ¬ (2 : Int32) = 0 by decide), if_neg (show ¬ (2 : Int32) = 1 by decide), if_pos rfl]
      have e : tkT (doC x (renD x i) true).2 i = (toks (renD x i)).getD i (10, 0, 0) := by
        unfold tkT
        rw [f2]
        exact toks_lex hi2
      rw [e]
      have h := tkx_ti hi2
      rw [hpx2] at h
      have h2 := congrArg (fun p => p.2.length) (Option.some.inj h)
      have h2 : (sgT x).length = (tkBs (txF (renD x i)) ((toks (renD x i)).getD i (10, 0, 0))).length := h2
      rw [tkBs_len, h3] at h2
      rw [← h2]
      rfl
    · rw [v1.2, v2.2]
      exact (zi_le (by omega) (by omega)).mpr rename_sets
    · have h := rename_val hv hb htp (List.mem_of_getElem? hpx) hk ho
      rw [v1.1, v1.2, v2.1, v2.2, h.1, h.2]
      exact ⟨rfl, rfl⟩
