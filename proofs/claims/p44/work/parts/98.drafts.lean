/-! ===== what may come next, a token at a time: 0 a statement, 1 '=', 2 a value, 3 behind a value; braces; brackets that are open ===== -/
abbrev AuZ : Type := Nat × Nat × Nat
def auN (s : AuZ) (y : Nat) : Option AuZ :=
  if s.1 = 0 then (if y = 0 then some (1, s.2.1, s.2.2) else if y = 8 then some (0, s.2.1 + 1, s.2.2) else if y = 9 ∧ 0 < s.2.1 then some (0, s.2.1 - 1, s.2.2) else none)
  else if s.1 = 1 then (if y = 2 then some (2, s.2.1, s.2.2) else none)
  else if s.1 = 2 then (if y = 6 then some (2, s.2.1, s.2.2 + 1) else if y < 2 then some (3, s.2.1, s.2.2) else none)
  else if y = 4 ∨ y = 5 then some (2, s.2.1, s.2.2)
  else if y = 7 ∧ 0 < s.2.2 then some (3, s.2.1, s.2.2 - 1)
  else if y = 3 ∧ s.2.2 = 0 then some (0, s.2.1, 0) else none
def auL : List Nat → AuZ → Option AuZ
  | [], s => some s
  | y :: l, s => (auN s y).bind (auL l)
def auA : List Nat → AuZ → Bool
  | [], _ => true
  | y :: l, s => if y = 10 then decide (s.1 = 0 ∧ s.2.1 = 0) else (match auN s y with
    | some s' => auA l s'
    | none => false)
def lsBz : Nat → List (Nat × Nat)
  | 0 => [(0, 0), (0, 1)]
  | b + 1 => lsBz b ++ [(0, 4), (0, 6)]
def eT : List Nat → Nat
  | [] => 5
  | _ :: _ => 12
def eE : List Nat → Nat
  | [] => 7
  | _ :: _ => 17
def cxS (q c : Nat) : List (Nat × Nat) := if c = 0 then [] else if c = 1 then [(0, q), (0, 15)] else if c = 2 then [(0, 8), (0, 16)] else [(0, q), (0, 15), (0, 18), (0, 16)]
def bsS (b : Nat) : List Nat → List (Nat × Nat)
  | [] => lsBz b ++ [(0, 3), (0, 5)]
  | c :: cs => bsS b cs ++ cxS (eE cs) c ++ [(0, 12)]
def AuR (st : List (Nat × Nat)) (s : AuZ) : Prop :=
  (s.1 = 0 ∧ s.2.2 = 0 ∧ ((st = [(0, 0)] ∧ s.2.1 = 0) ∨ (∃ b, s.2.1 = b + 1 ∧ st = lsBz b ++ [(0, 4)]) ∨ st = lsBz s.2.1 ++ [(0, 3), (0, 5), (0, 7), (0, 14)] ∨ st = lsBz (s.2.1 + 1) ++ [(0, 13)])) ∨
  (s.1 = 1 ∧ s.2.2 = 0 ∧ st = lsBz s.2.1 ++ [(0, 3)]) ∨
  (s.1 = 2 ∧ ∃ (cs : List Nat) (c : Nat), c < 4 ∧ (∀ z ∈ cs, z < 4) ∧ s.2.2 = cs.length ∧ st = bsS s.2.1 cs ++ cxS (eE cs) c) ∨
  (s.1 = 3 ∧ ∃ (cs : List Nat) (c : Nat), c < 4 ∧ (∀ z ∈ cs, z < 4) ∧ s.2.2 = cs.length ∧ (st = bsS s.2.1 cs ++ cxS (eE cs) c ++ [(0, 10)] ∨ st = bsS s.2.1 cs ++ cxS (eE cs) c ++ [(0, 11)] ∨ st = bsS s.2.1 (c :: cs) ++ [(0, 17), (0, 20)]))
theorem topS_app {pre l : List (Nat × Nat)} {p : Nat × Nat} : topS (pre ++ p :: l) = topS (p :: l) := by
  unfold topS
  rw [List.getD_eq_getElem?_getD, List.getD_eq_getElem?_getD, List.length_append, List.length_cons, List.getElem?_append_right (by omega), show pre.length + (l.length + 1) - 1 - pre.length = l.length + 1 - 1 by omega]
theorem auF0 : ∀ y, y < 12 → ldN 0 (5 + y) = 0 ∧ ldN 2 (5 + y) = 0 ∧ ldN 4 (5 + y) = 0 ∧ ldN 9 (5 + y) = 0 ∧ ldN 10 (5 + y) = 0 ∧ ldN 11 (5 + y) = 0 ∧ ldN 13 (5 + y) = 0 ∧ ldN 14 (5 + y) = 0 ∧ ldN 19 (5 + y) = 0 ∧ ldN 20 (5 + y) = 0 := by decide +kernel
theorem auF8 : ∀ y, y < 12 → y ≠ 5 → ldN 8 (5 + y) = 0 ∧ ldN 18 (5 + y) = 0 := by decide +kernel
theorem auF1 : ∀ y, y < 12 → y ≠ 0 → y ≠ 8 → ldN 1 (5 + y) = 0 ∧ (y ≠ 9 → ldN 6 (5 + y) = 0) := by decide +kernel
theorem auF3 : ∀ y, y < 12 → y ≠ 2 → ldN 3 (5 + y) = 0 := by decide +kernel
theorem auF5 : ∀ y, y < 12 → y ≠ 6 → ¬ y < 2 → ldN 5 (5 + y) = 0 ∧ ldN 12 (5 + y) = 0 ∧ ldN 15 (5 + y) = 0 ∧ ldN 16 (5 + y) = 0 := by decide +kernel
theorem auF7 : ∀ y, y < 12 → y ≠ 4 → (y ≠ 3 → ldN 7 (5 + y) = 0) ∧ (y ≠ 7 → ldN 17 (5 + y) = 0) := by decide +kernel
theorem auV : rlN 0 = some 0 ∧ rlN 1 = none ∧ rlN 2 = some 1 ∧ rlN 3 = none ∧ rlN 4 = some 0 ∧ rlN 5 = none ∧ rlN 6 = none ∧ rlN 7 = none ∧ rlN 8 = some 5 ∧ rlN 9 = some 7 ∧ rlN 10 = some 8 ∧ rlN 11 = some 9 ∧ rlN 12 = none ∧ rlN 13 = some 3 ∧ rlN 14 = some 2 ∧ rlN 15 = none ∧ rlN 16 = none ∧ rlN 17 = none ∧ rlN 18 = some 4 ∧ rlN 19 = some 6 ∧ rlN 20 = some 10 := by decide +kernel
theorem auL0 : lnN 0 = 0 ∧ lnN 1 = 2 ∧ lnN 2 = 4 ∧ lnN 3 = 3 ∧ lnN 4 = 3 ∧ lnN 5 = 1 ∧ lnN 6 = 3 ∧ lnN 7 = 1 ∧ lnN 8 = 1 ∧ lnN 9 = 1 ∧ lnN 10 = 3 := by decide +kernel
theorem auG : ldN 0 (syN 0) = 1 ∧ ldN 4 (syN 0) = 6 ∧ ldN 0 (syN 1) = 1 ∧ ldN 4 (syN 1) = 6 ∧ ldN 1 (syN 2) = 2 ∧ ldN 6 (syN 2) = 2 ∧ ldN 1 (syN 3) = 2 ∧ ldN 6 (syN 3) = 2 ∧ ldN 5 (syN 4) = 7 ∧ ldN 12 (syN 4) = 17 ∧ ldN 5 (syN 5) = 7 ∧ ldN 12 (syN 5) = 17 ∧
    ldN 5 (syN 6) = 8 ∧ ldN 12 (syN 6) = 8 ∧ ldN 15 (syN 6) = 18 ∧ ldN 5 (syN 7) = 8 ∧ ldN 12 (syN 7) = 8 ∧ ldN 15 (syN 7) = 18 ∧
    (∀ r, r = 8 ∨ r = 9 ∨ r = 10 → ldN 5 (syN r) = 9 ∧ ldN 12 (syN r) = 9 ∧ ldN 15 (syN r) = 9 ∧ ldN 16 (syN r) = 19) := by
  refine ⟨by decide +kernel, by decide +kernel, by decide +kernel, by decide +kernel, by decide +kernel, by decide +kernel, by decide +kernel, by decide +kernel, by decide +kernel, by decide +kernel, by decide +kernel, by decide +kernel, by decide +kernel, by decide +kernel, by decide +kernel, by decide +kernel, by decide +kernel, by decide +kernel, fun r h => ?_⟩
  rcases h with h | h | h <;> subst h <;> decide +kernel
theorem ac_r0 (s r g : Nat) {y d : Nat} {pre : List (Nat × Nat)} (hp : 1 ≤ pre.length) (ht : topS pre = s) (hz : ldN s (5 + y) = 0) (hr : rlN s = some r) (hl : lnN r = 0) (hg : ldN s (syN r) = g) : acF y (d + 1) pre = acF y d (pre ++ [(0, g)]) := by
  have e := byT_app (r := r) (st := pre) (l := []) hp hl.symm
  rw [List.append_nil, ht, hg] at e
  rw [acF_at, ht, if_pos hz, hr]
  dsimp only
  rw [e]
theorem ac_r1 (s r g : Nat) {y d : Nat} {pre : List (Nat × Nat)} (hp : 1 ≤ pre.length) (hz : ldN s (5 + y) = 0) (hr : rlN s = some r) (hl : lnN r = 1) (hg : ldN (topS pre) (syN r) = g) : acF y (d + 1) (pre ++ [(0, s)]) = acF y d (pre ++ [(0, g)]) := by
  have e := byT_app (r := r) (st := pre) (l := [(0, s)]) hp hl.symm
  rw [hg] at e
  have ht : topS (pre ++ [(0, s)]) = s := topS_app
  rw [acF_at, ht, if_pos hz, hr]
  dsimp only
  rw [e]
theorem ac_r2 (s r g : Nat) {y d a : Nat} {pre : List (Nat × Nat)} (hp : 1 ≤ pre.length) (hz : ldN s (5 + y) = 0) (hr : rlN s = some r) (hl : lnN r = 2) (hg : ldN (topS pre) (syN r) = g) : acF y (d + 1) (pre ++ [(0, a), (0, s)]) = acF y d (pre ++ [(0, g)]) := by
  have e := byT_app (r := r) (st := pre) (l := [(0, a), (0, s)]) hp hl.symm
  rw [hg] at e
  have ht : topS (pre ++ [(0, a), (0, s)]) = s := topS_app
  rw [acF_at, ht, if_pos hz, hr]
  dsimp only
  rw [e]
theorem ac_r3 (s r g : Nat) {y d a b : Nat} {pre : List (Nat × Nat)} (hp : 1 ≤ pre.length) (hz : ldN s (5 + y) = 0) (hr : rlN s = some r) (hl : lnN r = 3) (hg : ldN (topS pre) (syN r) = g) : acF y (d + 1) (pre ++ [(0, a), (0, b), (0, s)]) = acF y d (pre ++ [(0, g)]) := by
  have e := byT_app (r := r) (st := pre) (l := [(0, a), (0, b), (0, s)]) hp hl.symm
  rw [hg] at e
  have ht : topS (pre ++ [(0, a), (0, b), (0, s)]) = s := topS_app
  rw [acF_at, ht, if_pos hz, hr]
  dsimp only
  rw [e]
theorem ac_r4 (s r g : Nat) {y d a b c : Nat} {pre : List (Nat × Nat)} (hp : 1 ≤ pre.length) (hz : ldN s (5 + y) = 0) (hr : rlN s = some r) (hl : lnN r = 4) (hg : ldN (topS pre) (syN r) = g) : acF y (d + 1) (pre ++ [(0, a), (0, b), (0, c), (0, s)]) = acF y d (pre ++ [(0, g)]) := by
  have e := byT_app (r := r) (st := pre) (l := [(0, a), (0, b), (0, c), (0, s)]) hp hl.symm
  rw [hg] at e
  have ht : topS (pre ++ [(0, a), (0, b), (0, c), (0, s)]) = s := topS_app
  rw [acF_at, ht, if_pos hz, hr]
  dsimp only
  rw [e]
theorem ac_non {y d s : Nat} {st : List (Nat × Nat)} (ht : topS st = s) (hz : ldN s (5 + y) = 0) (hr : rlN s = none) : acF y (d + 1) st = none := by
  rw [acF_at, ht, if_pos hz, hr]
theorem rd_r0 (s r g : Nat) {d : Nat} {pre : List (Nat × Nat)} (hp : 1 ≤ pre.length) (ht : topS pre = s) (hr : rlN s = some r) (hl : lnN r = 0) (hg : ldN s (syN r) = g) : rdF (d + 1) pre = rdF d (pre ++ [(0, g)]) := by
  have e := byT_app (r := r) (st := pre) (l := []) hp hl.symm
  rw [List.append_nil, ht, hg] at e
  rw [rdF_at, ht, hr]
  dsimp only
  rw [e]
theorem rd_r1 (s r g : Nat) {d : Nat} {pre : List (Nat × Nat)} (hp : 1 ≤ pre.length) (hr : rlN s = some r) (hl : lnN r = 1) (hg : ldN (topS pre) (syN r) = g) : rdF (d + 1) (pre ++ [(0, s)]) = rdF d (pre ++ [(0, g)]) := by
  have e := byT_app (r := r) (st := pre) (l := [(0, s)]) hp hl.symm
  rw [hg] at e
  have ht : topS (pre ++ [(0, s)]) = s := topS_app
  rw [rdF_at, ht, hr]
  dsimp only
  rw [e]
theorem rd_r2 (s r g : Nat) {d a : Nat} {pre : List (Nat × Nat)} (hp : 1 ≤ pre.length) (hr : rlN s = some r) (hl : lnN r = 2) (hg : ldN (topS pre) (syN r) = g) : rdF (d + 1) (pre ++ [(0, a), (0, s)]) = rdF d (pre ++ [(0, g)]) := by
  have e := byT_app (r := r) (st := pre) (l := [(0, a), (0, s)]) hp hl.symm
  rw [hg] at e
  have ht : topS (pre ++ [(0, a), (0, s)]) = s := topS_app
  rw [rdF_at, ht, hr]
  dsimp only
  rw [e]
theorem rd_r3 (s r g : Nat) {d a b : Nat} {pre : List (Nat × Nat)} (hp : 1 ≤ pre.length) (hr : rlN s = some r) (hl : lnN r = 3) (hg : ldN (topS pre) (syN r) = g) : rdF (d + 1) (pre ++ [(0, a), (0, b), (0, s)]) = rdF d (pre ++ [(0, g)]) := by
  have e := byT_app (r := r) (st := pre) (l := [(0, a), (0, b), (0, s)]) hp hl.symm
  rw [hg] at e
  have ht : topS (pre ++ [(0, a), (0, b), (0, s)]) = s := topS_app
  rw [rdF_at, ht, hr]
  dsimp only
  rw [e]
theorem rd_r4 (s r g : Nat) {d a b c : Nat} {pre : List (Nat × Nat)} (hp : 1 ≤ pre.length) (hr : rlN s = some r) (hl : lnN r = 4) (hg : ldN (topS pre) (syN r) = g) : rdF (d + 1) (pre ++ [(0, a), (0, b), (0, c), (0, s)]) = rdF d (pre ++ [(0, g)]) := by
  have e := byT_app (r := r) (st := pre) (l := [(0, a), (0, b), (0, c), (0, s)]) hp hl.symm
  rw [hg] at e
  have ht : topS (pre ++ [(0, a), (0, b), (0, c), (0, s)]) = s := topS_app
  rw [rdF_at, ht, hr]
  dsimp only
  rw [e]
theorem rd_non {s : Nat} {st : List (Nat × Nat)} (ht : topS st = s) (hr : rlN s = none) : ∀ d, rdF d st = st
  | 0 => rfl
  | d + 1 => by rw [rdF_at, ht, hr]
theorem lsBz_len : ∀ b, 2 ≤ (lsBz b).length
  | 0 => Nat.le_refl _
  | b + 1 => by
    show 2 ≤ (lsBz b ++ [(0, 4), (0, 6)]).length
    have := lsBz_len b
    rw [List.length_append]
    omega
theorem lsBz_top (b : Nat) : topS (lsBz b) = if b = 0 then 1 else 6 := by
  cases b with
  | zero => rfl
  | succ b => exact topS_app
theorem bsS_len (b : Nat) : ∀ cs, 2 ≤ (bsS b cs).length
  | [] => by
    show 2 ≤ (lsBz b ++ [(0, 3), (0, 5)]).length
    have := lsBz_len b
    rw [List.length_append]
    omega
  | c :: cs => by
    show 2 ≤ (bsS b cs ++ cxS (eE cs) c ++ [(0, 12)]).length
    have := bsS_len b cs
    rw [List.length_append, List.length_append]
    omega
theorem bsS_top (b : Nat) (cs : List Nat) : topS (bsS b cs) = eT cs := by
  cases cs with
  | nil => exact topS_app
  | cons c cs => exact topS_snoc
theorem cxS_top {b c : Nat} {cs : List Nat} (hc : c < 4) : topS (bsS b cs ++ cxS (eE cs) c) = if c = 0 then eT cs else if c = 1 then 15 else 16 := by
  have h4 : c = 0 ∨ c = 1 ∨ c = 2 ∨ c = 3 := by omega
  rcases h4 with h | h | h | h <;> subst h
  · show topS (bsS b cs ++ []) = eT cs
    rw [List.append_nil]
    exact bsS_top b cs
  · exact topS_app
  · exact topS_app
  · exact topS_app
theorem eT_or (cs : List Nat) : (eT cs = 5 ∧ eE cs = 7 ∧ cs = []) ∨ (eT cs = 12 ∧ eE cs = 17 ∧ ∃ c l, cs = c :: l) := by
  cases cs with
  | nil => exact .inl ⟨rfl, rfl, rfl⟩
  | cons c l => exact .inr ⟨rfl, rfl, c, l, rfl⟩
theorem au_T {y b c : Nat} {cs : List Nat} (hc : c < 4) (hy : y < 12) (d : Nat) : acF y (d + 1) (bsS b cs ++ cxS (eE cs) c ++ [(0, if c < 2 then 9 else 19)]) = acF y d (bsS b cs ++ cxS (eE cs) (c % 2) ++ [(0, if c % 2 = 0 then 8 else 18)]) := by
  obtain ⟨-, -, -, f9, -, -, -, -, f19, -⟩ := auF0 y hy
  obtain ⟨-, -, -, -, -, -, -, -, -, v9, -, -, -, -, -, -, -, -, -, v19, -⟩ := auV
  obtain ⟨-, -, -, -, -, -, l6, l7, -⟩ := auL0
  obtain ⟨-, -, -, -, -, -, -, -, -, -, -, -, a6, b6, c6, a7, b7, c7, -⟩ := auG
  have hb := bsS_len b cs
  have t1 : topS (bsS b cs ++ [(0, eE cs), (0, 15)]) = 15 := topS_app
  have g7 : ldN (topS (bsS b cs)) (syN 7) = 8 := by
    rw [bsS_top]
    rcases eT_or cs with ⟨e, -⟩ | ⟨e, -⟩
    · rw [e]; exact a7
    · rw [e]; exact b7
  have g6 : ldN (topS (bsS b cs)) (syN 6) = 8 := by
    rw [bsS_top]
    rcases eT_or cs with ⟨e, -⟩ | ⟨e, -⟩
    · rw [e]; exact a6
    · rw [e]; exact b6
  have h2 : 1 ≤ (bsS b cs ++ [(0, eE cs), (0, 15)]).length := by
    rw [List.length_append]
    omega
  have h4 : c = 0 ∨ c = 1 ∨ c = 2 ∨ c = 3 := by omega
  rcases h4 with h | h | h | h <;> subst h
  · show acF y (d + 1) (bsS b cs ++ [] ++ [(0, 9)]) = acF y d (bsS b cs ++ [] ++ [(0, 8)])
    rw [List.append_nil]
    exact ac_r1 9 7 8 (by omega) f9 v9 l7 g7
  · show acF y (d + 1) (bsS b cs ++ [(0, eE cs), (0, 15)] ++ [(0, 9)]) = acF y d (bsS b cs ++ [(0, eE cs), (0, 15)] ++ [(0, 18)])
    exact ac_r1 9 7 18 h2 f9 v9 l7 (by rw [t1]; exact c7)
  · show acF y (d + 1) (bsS b cs ++ [(0, 8), (0, 16)] ++ [(0, 19)]) = acF y d (bsS b cs ++ [] ++ [(0, 8)])
    rw [List.append_assoc, List.append_nil]
    exact ac_r3 19 6 8 (by omega) f19 v19 l6 g6
  · show acF y (d + 1) (bsS b cs ++ [(0, eE cs), (0, 15), (0, 18), (0, 16)] ++ [(0, 19)]) = acF y d (bsS b cs ++ [(0, eE cs), (0, 15)] ++ [(0, 18)])
    have e : bsS b cs ++ [(0, eE cs), (0, 15), (0, 18), (0, 16)] ++ [(0, 19)] = (bsS b cs ++ [(0, eE cs), (0, 15)]) ++ [(0, 18), (0, 16), (0, 19)] := by
      rw [List.append_assoc, List.append_assoc]
      rfl
    rw [e]
    exact ac_r3 19 6 18 h2 f19 v19 l6 (by rw [t1]; exact c6)
theorem au_E {y b c : Nat} {cs : List Nat} (hc : c < 2) (hy : y < 12) (h5 : y ≠ 5) (d : Nat) : acF y (d + 1) (bsS b cs ++ cxS (eE cs) c ++ [(0, if c = 0 then 8 else 18)]) = acF y d (bsS b cs ++ [(0, eE cs)]) := by
  obtain ⟨f8, f18⟩ := auF8 y hy h5
  obtain ⟨-, -, -, -, -, -, -, -, v8, -, -, -, -, -, -, -, -, -, v18, -⟩ := auV
  obtain ⟨-, -, -, -, l4, l5, -⟩ := auL0
  obtain ⟨-, -, -, -, -, -, -, -, a4, b4, a5, b5, -⟩ := auG
  have hb := bsS_len b cs
  have g5 : ldN (topS (bsS b cs)) (syN 5) = eE cs := by
    rw [bsS_top]
    rcases eT_or cs with ⟨e, e', -⟩ | ⟨e, e', -⟩
    · rw [e, e']; exact a5
    · rw [e, e']; exact b5
  have g4 : ldN (topS (bsS b cs)) (syN 4) = eE cs := by
    rw [bsS_top]
    rcases eT_or cs with ⟨e, e', -⟩ | ⟨e, e', -⟩
    · rw [e, e']; exact a4
    · rw [e, e']; exact b4
  have h4 : c = 0 ∨ c = 1 := by omega
  rcases h4 with h | h <;> subst h
  · show acF y (d + 1) (bsS b cs ++ [] ++ [(0, 8)]) = _
    rw [List.append_nil]
    exact ac_r1 8 5 (eE cs) (by omega) f8 v8 l5 g5
  · show acF y (d + 1) (bsS b cs ++ [(0, eE cs), (0, 15)] ++ [(0, 18)]) = _
    rw [List.append_assoc]
    exact ac_r3 18 4 (eE cs) (by omega) f18 v18 l4 g4
theorem au_P {y b c d : Nat} {cs : List Nat} {st : List (Nat × Nat)} (hc : c < 4) (hy : y < 12) (h : st = bsS b cs ++ cxS (eE cs) c ++ [(0, 10)] ∨ st = bsS b cs ++ cxS (eE cs) c ++ [(0, 11)] ∨ st = bsS b (c :: cs) ++ [(0, 17), (0, 20)]) :
    acF y (d + 1) st = acF y d (bsS b cs ++ cxS (eE cs) c ++ [(0, if c < 2 then 9 else 19)]) := by
  obtain ⟨-, -, -, -, f10, f11, -, -, -, f20⟩ := auF0 y hy
  obtain ⟨-, -, -, -, -, -, -, -, -, -, v10, v11, -, -, -, -, -, -, -, -, v20⟩ := auV
  obtain ⟨-, -, -, -, -, -, -, -, l8, l9, l10⟩ := auL0
  obtain ⟨-, -, -, -, -, -, -, -, -, -, -, -, -, -, -, -, -, -, g⟩ := auG
  have hb := bsS_len b cs
  have hp : 1 ≤ (bsS b cs ++ cxS (eE cs) c).length := by
    rw [List.length_append]
    omega
  have ht := cxS_top (b := b) (cs := cs) hc
  have hG : ∀ r, r = 8 ∨ r = 9 ∨ r = 10 → ldN (topS (bsS b cs ++ cxS (eE cs) c)) (syN r) = if c < 2 then 9 else 19 := by
    intro r hr
    obtain ⟨g5, g12, g15, g16⟩ := g r hr
    rw [ht]
    have h4 : c = 0 ∨ c = 1 ∨ c = 2 ∨ c = 3 := by omega
    rcases h4 with h | h | h | h <;> subst h
    · rcases eT_or cs with ⟨e, -⟩ | ⟨e, -⟩
      · rw [if_pos rfl, e]
        exact g5
      · rw [if_pos rfl, e]
        exact g12
    · exact g15
    · exact g16
    · exact g16
  rcases h with h | h | h <;> subst h
  · exact ac_r1 10 8 _ hp f10 v10 l8 (hG 8 (.inl rfl))
  · exact ac_r1 11 9 _ hp f11 v11 l9 (hG 9 (.inr (.inl rfl)))
  · have e : bsS b (c :: cs) ++ [(0, 17), (0, 20)] = (bsS b cs ++ cxS (eE cs) c) ++ [(0, 12), (0, 17), (0, 20)] := by
      show bsS b cs ++ cxS (eE cs) c ++ [(0, 12)] ++ [(0, 17), (0, 20)] = _
      rw [List.append_assoc (bsS b cs ++ cxS (eE cs) c)]
      rfl
    rw [e]
    exact ac_r3 20 10 _ hp f20 v20 l10 (hG 10 (.inr (.inr rfl)))
theorem au_two {y b e : Nat} (hy : y < 12) : acF y (e + 1) (lsBz b ++ [(0, 2)]) = acF y e (lsBz b) := by
  obtain ⟨-, f2, -⟩ := auF0 y hy
  obtain ⟨-, -, v2, -⟩ := auV
  obtain ⟨-, l1, -⟩ := auL0
  obtain ⟨-, -, a1, b1, -⟩ := auG
  cases b with
  | zero => exact ac_r2 2 1 1 (pre := [(0, 0)]) (Nat.le_refl 1) f2 v2 l1 a1
  | succ b =>
    have hl := lsBz_len b
    have e1 : lsBz (b + 1) ++ [(0, 2)] = (lsBz b ++ [(0, 4)]) ++ [(0, 6), (0, 2)] := by
      show lsBz b ++ [(0, 4), (0, 6)] ++ [(0, 2)] = _
      rw [List.append_assoc, List.append_assoc]
      rfl
    have e2 : lsBz (b + 1) = (lsBz b ++ [(0, 4)]) ++ [(0, 6)] := by
      show lsBz b ++ [(0, 4), (0, 6)] = _
      rw [List.append_assoc]
      rfl
    rw [e1, e2]
    exact ac_r2 2 1 6 (by rw [List.length_append]; omega) f2 v2 l1 (by rw [topS_snoc]; exact b1)
theorem au_S {y d : Nat} {st : List (Nat × Nat)} {s : AuZ} (hy : y < 12) (h0 : s.1 = 0) (h : AuR st s) : ∃ k, k ≤ 2 ∧ acF y (d + 2) st = acF y (d + 2 - k) (lsBz s.2.1) := by
  obtain ⟨f0, f2, f4, -, -, -, f13, f14, -⟩ := auF0 y hy
  obtain ⟨v0, -, v2, -, v4, -, -, -, -, -, -, -, -, v13, v14, -⟩ := auV
  obtain ⟨l0, l1, l2, l3, -⟩ := auL0
  obtain ⟨a0, b0, a1, b1, a2, b2, a3, b3, -⟩ := auG
  rcases h with ⟨-, -, h⟩ | ⟨h, -⟩ | ⟨h, -⟩ | ⟨h, -⟩
  · rcases h with ⟨h, hb⟩ | ⟨b, hb, h⟩ | h | h
    · refine ⟨1, by omega, ?_⟩
      subst h
      rw [hb]
      exact ac_r0 0 0 1 (d := d + 1) (pre := [(0, 0)]) (Nat.le_refl 1) rfl f0 v0 l0 a0
    · refine ⟨1, by omega, ?_⟩
      subst h
      have hl := lsBz_len b
      have e2 : lsBz (b + 1) = (lsBz b ++ [(0, 4)]) ++ [(0, 6)] := by
        show lsBz b ++ [(0, 4), (0, 6)] = _
        rw [List.append_assoc]
        rfl
      rw [hb, e2]
      exact ac_r0 4 0 6 (d := d + 1) (by rw [List.length_append]; omega) topS_snoc f4 v4 l0 b0
    · refine ⟨2, by omega, ?_⟩
      subst h
      have hl := lsBz_len s.2.1
      have e : ldN (topS (lsBz s.2.1)) (syN 2) = 2 := by
        rw [lsBz_top]
        by_cases hq : s.2.1 = 0
        · rw [if_pos hq]; exact a2
        · rw [if_neg hq]; exact b2
      exact (ac_r4 14 2 2 (d := d + 1) (by omega) f14 v14 l2 e).trans (au_two hy)
    · refine ⟨2, by omega, ?_⟩
      subst h
      have hl := lsBz_len s.2.1
      have e1 : lsBz (s.2.1 + 1) ++ [(0, 13)] = lsBz s.2.1 ++ [(0, 4), (0, 6), (0, 13)] := by
        show lsBz s.2.1 ++ [(0, 4), (0, 6)] ++ [(0, 13)] = _
        rw [List.append_assoc]
        rfl
      have e : ldN (topS (lsBz s.2.1)) (syN 3) = 2 := by
        rw [lsBz_top]
        by_cases hq : s.2.1 = 0
        · rw [if_pos hq]; exact a3
        · rw [if_neg hq]; exact b3
      rw [e1]
      exact (ac_r3 13 3 2 (d := d + 1) (by omega) f13 v13 l3 e).trans (au_two hy)
  · rw [h0] at h; cases h
  · rw [h0] at h; cases h
  · rw [h0] at h; cases h
theorem auPt : (ldN 1 (5 + 0) = 3 ∧ ldN 6 (5 + 0) = 3 ∧ ldN 1 (5 + 8) = 4 ∧ ldN 6 (5 + 8) = 4 ∧ ldN 6 (5 + 9) = 13 ∧ ldN 3 (5 + 2) = 5) ∧ (ldN 5 (5 + 6) = 12 ∧ ldN 12 (5 + 6) = 12 ∧ ldN 15 (5 + 6) = 12 ∧ ldN 16 (5 + 6) = 12) ∧ (ldN 5 (5 + 0) = 10 ∧ ldN 12 (5 + 0) = 10 ∧ ldN 15 (5 + 0) = 10 ∧ ldN 16 (5 + 0) = 10) ∧ (ldN 5 (5 + 1) = 11 ∧ ldN 12 (5 + 1) = 11 ∧ ldN 15 (5 + 1) = 11 ∧ ldN 16 (5 + 1) = 11) ∧
    ldN 8 (5 + 5) = 16 ∧ ldN 18 (5 + 5) = 16 ∧ ldN 7 (5 + 4) = 15 ∧ ldN 17 (5 + 4) = 15 ∧ ldN 7 (5 + 3) = 14 ∧ ldN 17 (5 + 7) = 20 := by decide +kernel
theorem ac_pt {y d s g : Nat} {st : List (Nat × Nat)} (ht : topS st = s) (hg : ldN s (5 + y) = g) (h0 : g ≠ 0) : acF y (d + 1) st = some (st ++ [(0, g)]) := by
  rw [acF_at, ht, hg, if_neg h0]
theorem ls_put {y d b g : Nat} (h1 : ldN 1 (5 + y) = g) (h6 : ldN 6 (5 + y) = g) (h0 : g ≠ 0) : acF y (d + 1) (lsBz b) = some (lsBz b ++ [(0, g)]) := by
  have ht := lsBz_top b
  by_cases hb : b = 0
  · rw [if_pos hb] at ht
    exact ac_pt ht h1 h0
  · rw [if_neg hb] at ht
    exact ac_pt ht h6 h0
theorem cx_put {y d b c g : Nat} {cs : List Nat} (hc : c < 4) (h5 : ldN 5 (5 + y) = g) (h12 : ldN 12 (5 + y) = g) (h15 : ldN 15 (5 + y) = g) (h16 : ldN 16 (5 + y) = g) (h0 : g ≠ 0) : acF y (d + 1) (bsS b cs ++ cxS (eE cs) c) = some (bsS b cs ++ cxS (eE cs) c ++ [(0, g)]) := by
  have ht := cxS_top (b := b) (cs := cs) hc
  by_cases c0 : c = 0
  · rw [if_pos c0] at ht
    rcases eT_or cs with ⟨e, -⟩ | ⟨e, -⟩
    · exact ac_pt (ht.trans e) h5 h0
    · exact ac_pt (ht.trans e) h12 h0
  · rw [if_neg c0] at ht
    by_cases c1 : c = 1
    · rw [if_pos c1] at ht
      exact ac_pt ht h15 h0
    · rw [if_neg c1] at ht
      exact ac_pt ht h16 h0
theorem cx_non {y d b c : Nat} {cs : List Nat} (hc : c < 4) (h5 : ldN 5 (5 + y) = 0) (h12 : ldN 12 (5 + y) = 0) (h15 : ldN 15 (5 + y) = 0) (h16 : ldN 16 (5 + y) = 0) : acF y (d + 1) (bsS b cs ++ cxS (eE cs) c) = none := by
  obtain ⟨-, -, -, -, -, v5, -, -, -, -, -, -, v12, -, -, v15, v16, -⟩ := auV
  have ht := cxS_top (b := b) (cs := cs) hc
  by_cases c0 : c = 0
  · rw [if_pos c0] at ht
    rcases eT_or cs with ⟨e, -⟩ | ⟨e, -⟩
    · exact ac_non (ht.trans e) h5 v5
    · exact ac_non (ht.trans e) h12 v12
  · rw [if_neg c0] at ht
    by_cases c1 : c = 1
    · rw [if_pos c1] at ht
      exact ac_non ht h15 v15
    · rw [if_neg c1] at ht
      exact ac_non ht h16 v16
/-- what a step asks -/
def AuQ (y : Nat) (st : List (Nat × Nat)) : Option AuZ → Prop
  | some s' => ∃ st', acF y 4 st = some st' ∧ AuR st' s'
  | none => acF y 4 st = none
theorem au_step {st : List (Nat × Nat)} {s : AuZ} {y : Nat} (h : AuR st s) (hy : y < 12) : AuQ y st (auN s y) := by
  obtain ⟨-, v1, -, v3, -, v5, v6, v7, -, -, -, -, v12, -, -, v15, v16, v17, -⟩ := auV
  obtain ⟨⟨p1, p2, p3, p4, p5, p6⟩, ⟨q1, q2, q3, q4⟩, ⟨r1, r2, r3, r4⟩, ⟨u1, u2, u3, u4⟩, w1, w2, w3, w4, w5, w6⟩ := auPt
  have h4 : s.1 = 0 ∨ s.1 = 1 ∨ s.1 = 2 ∨ s.1 = 3 := by
    rcases h with ⟨h, -⟩ | ⟨h, -⟩ | ⟨h, -⟩ | ⟨h, -⟩ <;> omega
  obtain ⟨n, b, o⟩ := s
  dsimp only at h4
  have d10 : ¬ (1 : Nat) = 0 := by decide
  have d20 : ¬ (2 : Nat) = 0 := by decide
  have d21 : ¬ (2 : Nat) = 1 := by decide
  have d30 : ¬ (3 : Nat) = 0 := by decide
  have d31 : ¬ (3 : Nat) = 1 := by decide
  have d32 : ¬ (3 : Nat) = 2 := by decide
  unfold auN
  dsimp only
  rcases h4 with e | e | e | e <;> subst e
  · obtain ⟨k, hk, hS⟩ := au_S (d := 2) hy rfl h
    have ho : o = 0 := by
      rcases h with ⟨-, h, -⟩ | ⟨h, -⟩ | ⟨h, -⟩ | ⟨h, -⟩
      · exact h
      · cases h
      · cases h
      · cases h
    subst ho
    dsimp only at hS
    obtain ⟨q, hq⟩ : ∃ q, 2 + 2 - k = q + 1 := ⟨3 - k, by omega⟩
    rw [hq] at hS
    have hS : acF y 4 st = acF y (q + 1) (lsBz b) := hS
    rw [if_pos rfl]
    by_cases y0 : y = 0
    · subst y0
      rw [if_pos rfl]
      exact ⟨lsBz b ++ [(0, 3)], hS.trans (ls_put p1 p2 (by decide)), .inr (.inl ⟨rfl, rfl, rfl⟩)⟩
    rw [if_neg y0]
    by_cases y8 : y = 8
    · subst y8
      rw [if_pos rfl]
      exact ⟨lsBz b ++ [(0, 4)], hS.trans (ls_put p3 p4 (by decide)), .inl ⟨rfl, rfl, .inr (.inl ⟨b, rfl, rfl⟩)⟩⟩
    rw [if_neg y8]
    obtain ⟨f1, f6⟩ := auF1 y hy y0 y8
    have ht := lsBz_top b
    by_cases y9 : y = 9 ∧ 0 < b
    · rw [if_pos y9]
      obtain ⟨y9, hb⟩ := y9
      subst y9
      rw [if_neg (show ¬ b = 0 by omega)] at ht
      refine ⟨lsBz b ++ [(0, 13)], hS.trans (ac_pt ht p5 (by decide)), .inl ⟨rfl, rfl, .inr (.inr (.inr ?_))⟩⟩
      show lsBz b ++ [(0, 13)] = lsBz (b - 1 + 1) ++ [(0, 13)]
      rw [Nat.sub_add_cancel hb]
    rw [if_neg y9]
    by_cases hb : b = 0
    · rw [if_pos hb] at ht
      exact hS.trans (ac_non ht f1 v1)
    · rw [if_neg hb] at ht
      exact hS.trans (ac_non ht (f6 (fun q => y9 ⟨q, by omega⟩)) v6)
  · rcases h with ⟨h, -⟩ | ⟨-, ho, h⟩ | ⟨h, -⟩ | ⟨h, -⟩
    · cases h
    · dsimp only at ho h
      subst ho
      subst h
      rw [if_neg d10, if_pos rfl]
      by_cases y2 : y = 2
      · subst y2
        rw [if_pos rfl]
        refine ⟨lsBz b ++ [(0, 3)] ++ [(0, 5)], ac_pt topS_snoc p6 (by decide), .inr (.inr (.inl ⟨rfl, [], 0, by decide, (fun z hz => absurd hz (by intro q; cases q)), rfl, ?_⟩))⟩
        show lsBz b ++ [(0, 3)] ++ [(0, 5)] = (lsBz b ++ [(0, 3), (0, 5)]) ++ []
        rw [List.append_nil, List.append_assoc]
        rfl
      · rw [if_neg y2]
        exact ac_non topS_snoc (auF3 y hy y2) v3
    · cases h
    · cases h
  · rcases h with ⟨h, -⟩ | ⟨h, -⟩ | ⟨-, cs, c, hc, hz, ho, h⟩ | ⟨h, -⟩
    · cases h
    · cases h
    · dsimp only at ho h
      subst ho
      subst h
      rw [if_neg d20, if_neg d21, if_pos rfl]
      by_cases y6 : y = 6
      · subst y6
        rw [if_pos rfl]
        refine ⟨bsS b cs ++ cxS (eE cs) c ++ [(0, 12)], cx_put hc q1 q2 q3 q4 (by decide), .inr (.inr (.inl ⟨rfl, c :: cs, 0, by decide, fun z q => (List.mem_cons.mp q).elim (fun e => e ▸ hc) (fun q => hz z q), rfl, ?_⟩))⟩
        show _ = bsS b cs ++ cxS (eE cs) c ++ [(0, 12)] ++ []
        rw [List.append_nil]
      rw [if_neg y6]
      by_cases y1 : y < 2
      · rw [if_pos y1]
        have y01 : y = 0 ∨ y = 1 := by omega
        rcases y01 with e | e <;> subst e
        · exact ⟨bsS b cs ++ cxS (eE cs) c ++ [(0, 10)], cx_put hc r1 r2 r3 r4 (by decide), .inr (.inr (.inr ⟨rfl, cs, c, hc, hz, rfl, .inl rfl⟩))⟩
        · exact ⟨bsS b cs ++ cxS (eE cs) c ++ [(0, 11)], cx_put hc u1 u2 u3 u4 (by decide), .inr (.inr (.inr ⟨rfl, cs, c, hc, hz, rfl, .inr (.inl rfl)⟩))⟩
      rw [if_neg y1]
      obtain ⟨f5, f12, f15, f16⟩ := auF5 y hy y6 y1
      exact cx_non hc f5 f12 f15 f16
    · cases h
  · rcases h with ⟨h, -⟩ | ⟨h, -⟩ | ⟨h, -⟩ | ⟨-, cs, c, hc, hz, ho, h⟩
    · cases h
    · cases h
    · cases h
    · dsimp only at ho h
      subst ho
      have e1 : acF y 4 st = acF y 2 (bsS b cs ++ cxS (eE cs) (c % 2) ++ [(0, if c % 2 = 0 then 8 else 18)]) := (au_P (d := 3) hc hy h).trans (au_T hc hy 2)
      have hc2 : c % 2 < 2 := Nat.mod_lt _ (by decide)
      rw [if_neg d30, if_neg d31, if_neg d32]
      by_cases y5 : y = 5
      · subst y5
        rw [if_pos (show (5 : Nat) = 4 ∨ (5 : Nat) = 5 from .inr rfl)]
        have c01 : c % 2 = 0 ∨ c % 2 = 1 := by omega
        refine ⟨bsS b cs ++ cxS (eE cs) (c % 2 + 2), e1.trans ?_, .inr (.inr (.inl ⟨rfl, cs, c % 2 + 2, by omega, hz, rfl, rfl⟩))⟩
        rcases c01 with q | q <;> rw [q]
        · show acF 5 2 (bsS b cs ++ [] ++ [(0, 8)]) = some (bsS b cs ++ [(0, 8), (0, 16)])
          have e3 := ac_pt (y := 5) (d := 1) (s := 8) (g := 16) (st := bsS b cs ++ [(0, 8)]) topS_snoc w1 (by decide)
          rw [List.append_nil, e3, List.append_assoc]
          rfl
        · show acF 5 2 (bsS b cs ++ [(0, eE cs), (0, 15)] ++ [(0, 18)]) = some (bsS b cs ++ [(0, eE cs), (0, 15), (0, 18), (0, 16)])
          have e3 := ac_pt (y := 5) (d := 1) (s := 18) (g := 16) (st := bsS b cs ++ [(0, eE cs), (0, 15)] ++ [(0, 18)]) topS_snoc w2 (by decide)
          rw [e3, List.append_assoc, List.append_assoc]
          rfl
      have e2 : acF y 4 st = acF y 1 (bsS b cs ++ [(0, eE cs)]) := e1.trans (au_E hc2 hy y5 1)
      by_cases y4 : y = 4
      · subst y4
        rw [if_pos (show (4 : Nat) = 4 ∨ (4 : Nat) = 5 from .inl rfl)]
        refine ⟨bsS b cs ++ cxS (eE cs) 1, e2.trans ?_, .inr (.inr (.inl ⟨rfl, cs, 1, by decide, hz, rfl, rfl⟩))⟩
        show acF 4 1 (bsS b cs ++ [(0, eE cs)]) = some (bsS b cs ++ [(0, eE cs), (0, 15)])
        rcases eT_or cs with ⟨-, e, -⟩ | ⟨-, e, -⟩
        · have e3 := ac_pt (y := 4) (d := 0) (s := 7) (g := 15) (st := bsS b cs ++ [(0, 7)]) topS_snoc w3 (by decide)
          rw [e, e3, List.append_assoc]
          rfl
        · have e3 := ac_pt (y := 4) (d := 0) (s := 17) (g := 15) (st := bsS b cs ++ [(0, 17)]) topS_snoc w4 (by decide)
          rw [e, e3, List.append_assoc]
          rfl
      rw [if_neg (show ¬ (y = 4 ∨ y = 5) by omega)]
      obtain ⟨f7, f17⟩ := auF7 y hy y4
      rcases eT_or cs with ⟨-, e, ec⟩ | ⟨-, e, c', l, ec⟩
      · subst ec
        rw [if_neg (show ¬ (y = 7 ∧ 0 < ([] : List Nat).length) from fun q => absurd q.2 (Nat.lt_irrefl 0))]
        by_cases y3 : y = 3
        · subst y3
          rw [if_pos (show (3 : Nat) = 3 ∧ ([] : List Nat).length = 0 from ⟨rfl, rfl⟩)]
          refine ⟨bsS b [] ++ [(0, 7)] ++ [(0, 14)], e2.trans (ac_pt topS_snoc w5 (by decide)), .inl ⟨rfl, rfl, .inr (.inr (.inl ?_))⟩⟩
          show lsBz b ++ [(0, 3), (0, 5)] ++ [(0, 7)] ++ [(0, 14)] = lsBz b ++ [(0, 3), (0, 5), (0, 7), (0, 14)]
          rw [List.append_assoc, List.append_assoc]
          rfl
        · rw [if_neg (show ¬ (y = 3 ∧ ([] : List Nat).length = 0) from fun q => y3 q.1)]
          exact e2.trans (ac_non topS_snoc (f7 y3) v7)
      · subst ec
        by_cases y7 : y = 7
        · subst y7
          rw [if_pos (show (7 : Nat) = 7 ∧ 0 < (c' :: l).length from ⟨rfl, Nat.succ_pos _⟩)]
          refine ⟨bsS b (c' :: l) ++ [(0, 17)] ++ [(0, 20)], e2.trans (ac_pt topS_snoc w6 (by decide)), .inr (.inr (.inr ⟨rfl, l, c', hz c' (List.mem_cons_self ..), fun z q => hz z (List.mem_cons_of_mem _ q), rfl, .inr (.inr ?_)⟩))⟩
          rw [List.append_assoc]
          rfl
        · rw [if_neg (show ¬ (y = 7 ∧ 0 < (c' :: l).length) from fun q => y7 q.1), if_neg (show ¬ (y = 3 ∧ (c' :: l).length = 0) from fun q => absurd q.2 (Nat.succ_ne_zero _))]
          exact e2.trans (ac_non topS_snoc (f17 y7) v17)
theorem rd_T {b c : Nat} {cs : List Nat} (hc : c < 4) (d : Nat) : rdF (d + 1) (bsS b cs ++ cxS (eE cs) c ++ [(0, if c < 2 then 9 else 19)]) = rdF d (bsS b cs ++ cxS (eE cs) (c % 2) ++ [(0, if c % 2 = 0 then 8 else 18)]) := by
  obtain ⟨-, -, -, -, -, -, -, -, -, v9, -, -, -, -, -, -, -, -, -, v19, -⟩ := auV
  obtain ⟨-, -, -, -, -, -, l6, l7, -⟩ := auL0
  obtain ⟨-, -, -, -, -, -, -, -, -, -, -, -, a6, b6, c6, a7, b7, c7, -⟩ := auG
  have hb := bsS_len b cs
  have t1 : topS (bsS b cs ++ [(0, eE cs), (0, 15)]) = 15 := topS_app
  have g7 : ldN (topS (bsS b cs)) (syN 7) = 8 := by
    rw [bsS_top]
    rcases eT_or cs with ⟨e, -⟩ | ⟨e, -⟩
    · rw [e]; exact a7
    · rw [e]; exact b7
  have g6 : ldN (topS (bsS b cs)) (syN 6) = 8 := by
    rw [bsS_top]
    rcases eT_or cs with ⟨e, -⟩ | ⟨e, -⟩
    · rw [e]; exact a6
    · rw [e]; exact b6
  have h2 : 1 ≤ (bsS b cs ++ [(0, eE cs), (0, 15)]).length := by
    rw [List.length_append]
    omega
  have h4 : c = 0 ∨ c = 1 ∨ c = 2 ∨ c = 3 := by omega
  rcases h4 with h | h | h | h <;> subst h
  · show rdF (d + 1) (bsS b cs ++ [] ++ [(0, 9)]) = rdF d (bsS b cs ++ [] ++ [(0, 8)])
    rw [List.append_nil]
    exact rd_r1 9 7 8 (by omega) v9 l7 g7
  · show rdF (d + 1) (bsS b cs ++ [(0, eE cs), (0, 15)] ++ [(0, 9)]) = rdF d (bsS b cs ++ [(0, eE cs), (0, 15)] ++ [(0, 18)])
    exact rd_r1 9 7 18 h2 v9 l7 (by rw [t1]; exact c7)
  · show rdF (d + 1) (bsS b cs ++ [(0, 8), (0, 16)] ++ [(0, 19)]) = rdF d (bsS b cs ++ [] ++ [(0, 8)])
    rw [List.append_assoc, List.append_nil]
    exact rd_r3 19 6 8 (by omega) v19 l6 g6
  · show rdF (d + 1) (bsS b cs ++ [(0, eE cs), (0, 15), (0, 18), (0, 16)] ++ [(0, 19)]) = rdF d (bsS b cs ++ [(0, eE cs), (0, 15)] ++ [(0, 18)])
    have e : bsS b cs ++ [(0, eE cs), (0, 15), (0, 18), (0, 16)] ++ [(0, 19)] = (bsS b cs ++ [(0, eE cs), (0, 15)]) ++ [(0, 18), (0, 16), (0, 19)] := by
      rw [List.append_assoc, List.append_assoc]
      rfl
    rw [e]
    exact rd_r3 19 6 18 h2 v19 l6 (by rw [t1]; exact c6)
theorem rd_E {b c : Nat} {cs : List Nat} (hc : c < 2) (d : Nat) : rdF (d + 1) (bsS b cs ++ cxS (eE cs) c ++ [(0, if c = 0 then 8 else 18)]) = rdF d (bsS b cs ++ [(0, eE cs)]) := by
  obtain ⟨-, -, -, -, -, -, -, -, v8, -, -, -, -, -, -, -, -, -, v18, -⟩ := auV
  obtain ⟨-, -, -, -, l4, l5, -⟩ := auL0
  obtain ⟨-, -, -, -, -, -, -, -, a4, b4, a5, b5, -⟩ := auG
  have hb := bsS_len b cs
  have g5 : ldN (topS (bsS b cs)) (syN 5) = eE cs := by
    rw [bsS_top]
    rcases eT_or cs with ⟨e, e', -⟩ | ⟨e, e', -⟩
    · rw [e, e']; exact a5
    · rw [e, e']; exact b5
  have g4 : ldN (topS (bsS b cs)) (syN 4) = eE cs := by
    rw [bsS_top]
    rcases eT_or cs with ⟨e, e', -⟩ | ⟨e, e', -⟩
    · rw [e, e']; exact a4
    · rw [e, e']; exact b4
  have h4 : c = 0 ∨ c = 1 := by omega
  rcases h4 with h | h <;> subst h
  · show rdF (d + 1) (bsS b cs ++ [] ++ [(0, 8)]) = _
    rw [List.append_nil]
    exact rd_r1 8 5 (eE cs) (by omega) v8 l5 g5
  · show rdF (d + 1) (bsS b cs ++ [(0, eE cs), (0, 15)] ++ [(0, 18)]) = _
    rw [List.append_assoc]
    exact rd_r3 18 4 (eE cs) (by omega) v18 l4 g4
theorem rd_P {b c d : Nat} {cs : List Nat} {st : List (Nat × Nat)} (hc : c < 4) (h : st = bsS b cs ++ cxS (eE cs) c ++ [(0, 10)] ∨ st = bsS b cs ++ cxS (eE cs) c ++ [(0, 11)] ∨ st = bsS b (c :: cs) ++ [(0, 17), (0, 20)]) :
    rdF (d + 1) st = rdF d (bsS b cs ++ cxS (eE cs) c ++ [(0, if c < 2 then 9 else 19)]) := by
  obtain ⟨-, -, -, -, -, -, -, -, -, -, v10, v11, -, -, -, -, -, -, -, -, v20⟩ := auV
  obtain ⟨-, -, -, -, -, -, -, -, l8, l9, l10⟩ := auL0
  obtain ⟨-, -, -, -, -, -, -, -, -, -, -, -, -, -, -, -, -, -, g⟩ := auG
  have hb := bsS_len b cs
  have hp : 1 ≤ (bsS b cs ++ cxS (eE cs) c).length := by
    rw [List.length_append]
    omega
  have ht := cxS_top (b := b) (cs := cs) hc
  have hG : ∀ r, r = 8 ∨ r = 9 ∨ r = 10 → ldN (topS (bsS b cs ++ cxS (eE cs) c)) (syN r) = if c < 2 then 9 else 19 := by
    intro r hr
    obtain ⟨g5, g12, g15, g16⟩ := g r hr
    rw [ht]
    have h4 : c = 0 ∨ c = 1 ∨ c = 2 ∨ c = 3 := by omega
    rcases h4 with h | h | h | h <;> subst h
    · rcases eT_or cs with ⟨e, -⟩ | ⟨e, -⟩
      · rw [if_pos rfl, e]
        exact g5
      · rw [if_pos rfl, e]
        exact g12
    · exact g15
    · exact g16
    · exact g16
  rcases h with h | h | h <;> subst h
  · exact rd_r1 10 8 _ hp v10 l8 (hG 8 (.inl rfl))
  · exact rd_r1 11 9 _ hp v11 l9 (hG 9 (.inr (.inl rfl)))
  · have e : bsS b (c :: cs) ++ [(0, 17), (0, 20)] = (bsS b cs ++ cxS (eE cs) c) ++ [(0, 12), (0, 17), (0, 20)] := by
      show bsS b cs ++ cxS (eE cs) c ++ [(0, 12)] ++ [(0, 17), (0, 20)] = _
      rw [List.append_assoc (bsS b cs ++ cxS (eE cs) c)]
      rfl
    rw [e]
    exact rd_r3 20 10 _ hp v20 l10 (hG 10 (.inr (.inr rfl)))
theorem rd_two {b e : Nat} : rdF (e + 1) (lsBz b ++ [(0, 2)]) = rdF e (lsBz b) := by
  obtain ⟨-, -, v2, -⟩ := auV
  obtain ⟨-, l1, -⟩ := auL0
  obtain ⟨-, -, a1, b1, -⟩ := auG
  cases b with
  | zero => exact rd_r2 2 1 1 (pre := [(0, 0)]) (Nat.le_refl 1) v2 l1 a1
  | succ b =>
    have hl := lsBz_len b
    have e1 : lsBz (b + 1) ++ [(0, 2)] = (lsBz b ++ [(0, 4)]) ++ [(0, 6), (0, 2)] := by
      show lsBz b ++ [(0, 4), (0, 6)] ++ [(0, 2)] = _
      rw [List.append_assoc, List.append_assoc]
      rfl
    have e2 : lsBz (b + 1) = (lsBz b ++ [(0, 4)]) ++ [(0, 6)] := by
      show lsBz b ++ [(0, 4), (0, 6)] = _
      rw [List.append_assoc]
      rfl
    rw [e1, e2]
    exact rd_r2 2 1 6 (by rw [List.length_append]; omega) v2 l1 (by rw [topS_snoc]; exact b1)
theorem rd_S {d : Nat} {st : List (Nat × Nat)} {s : AuZ} (h0 : s.1 = 0) (h : AuR st s) : ∃ k, k ≤ 2 ∧ rdF (d + 2) st = rdF (d + 2 - k) (lsBz s.2.1) := by
  obtain ⟨v0, -, v2, -, v4, -, -, -, -, -, -, -, -, v13, v14, -⟩ := auV
  obtain ⟨l0, l1, l2, l3, -⟩ := auL0
  obtain ⟨a0, b0, a1, b1, a2, b2, a3, b3, -⟩ := auG
  rcases h with ⟨-, -, h⟩ | ⟨h, -⟩ | ⟨h, -⟩ | ⟨h, -⟩
  · rcases h with ⟨h, hb⟩ | ⟨b, hb, h⟩ | h | h
    · refine ⟨1, by omega, ?_⟩
      subst h
      rw [hb]
      exact rd_r0 0 0 1 (d := d + 1) (pre := [(0, 0)]) (Nat.le_refl 1) rfl v0 l0 a0
    · refine ⟨1, by omega, ?_⟩
      subst h
      have hl := lsBz_len b
      have e2 : lsBz (b + 1) = (lsBz b ++ [(0, 4)]) ++ [(0, 6)] := by
        show lsBz b ++ [(0, 4), (0, 6)] = _
        rw [List.append_assoc]
        rfl
      rw [hb, e2]
      exact rd_r0 4 0 6 (d := d + 1) (by rw [List.length_append]; omega) topS_snoc v4 l0 b0
    · refine ⟨2, by omega, ?_⟩
      subst h
      have hl := lsBz_len s.2.1
      have e : ldN (topS (lsBz s.2.1)) (syN 2) = 2 := by
        rw [lsBz_top]
        by_cases hq : s.2.1 = 0
        · rw [if_pos hq]; exact a2
        · rw [if_neg hq]; exact b2
      exact (rd_r4 14 2 2 (d := d + 1) (by omega) v14 l2 e).trans (rd_two )
    · refine ⟨2, by omega, ?_⟩
      subst h
      have hl := lsBz_len s.2.1
      have e1 : lsBz (s.2.1 + 1) ++ [(0, 13)] = lsBz s.2.1 ++ [(0, 4), (0, 6), (0, 13)] := by
        show lsBz s.2.1 ++ [(0, 4), (0, 6)] ++ [(0, 13)] = _
        rw [List.append_assoc]
        rfl
      have e : ldN (topS (lsBz s.2.1)) (syN 3) = 2 := by
        rw [lsBz_top]
        by_cases hq : s.2.1 = 0
        · rw [if_pos hq]; exact a3
        · rw [if_neg hq]; exact b3
      rw [e1]
      exact (rd_r3 13 3 2 (d := d + 1) (by omega) v13 l3 e).trans (rd_two )
  · rw [h0] at h; cases h
  · rw [h0] at h; cases h
  · rw [h0] at h; cases h
theorem au_end {st : List (Nat × Nat)} {s : AuZ} (h : AuR st s) : acE st = decide (s.1 = 0 ∧ s.2.1 = 0) := by
  obtain ⟨-, v1, -, v3, -, v5, v6, v7, -, -, -, -, v12, -, -, v15, v16, v17, -⟩ := auV
  have h4 : s.1 = 0 ∨ s.1 = 1 ∨ s.1 = 2 ∨ s.1 = 3 := by
    rcases h with ⟨h, -⟩ | ⟨h, -⟩ | ⟨h, -⟩ | ⟨h, -⟩ <;> omega
  obtain ⟨n, b, o⟩ := s
  dsimp only at h4
  unfold acE
  rcases h4 with e | e | e | e <;> subst e
  · obtain ⟨k, hk, hS⟩ := rd_S (d := 2) rfl h
    have hS : rdF 4 st = rdF (2 + 2 - k) (lsBz b) := hS
    rw [hS]
    have ht := lsBz_top b
    by_cases hb : b = 0
    · rw [if_pos hb] at ht
      rw [rd_non ht v1, ht]
      exact (decide_eq_true rfl).trans (decide_eq_true ⟨rfl, hb⟩).symm
    · rw [if_neg hb] at ht
      rw [rd_non ht v6, ht]
      exact (decide_eq_false (by decide)).trans (decide_eq_false (fun q => hb q.2)).symm
  · rcases h with ⟨h, -⟩ | ⟨-, ho, h⟩ | ⟨h, -⟩ | ⟨h, -⟩
    · cases h
    · dsimp only at h
      subst h
      have ht : topS (lsBz b ++ [(0, 3)]) = 3 := topS_snoc
      rw [rd_non ht v3, ht]
      exact (decide_eq_false (by decide)).trans (decide_eq_false (fun q => absurd (show (1 : Nat) = 0 from q.1) (by decide))).symm
    · cases h
    · cases h
  · rcases h with ⟨h, -⟩ | ⟨h, -⟩ | ⟨-, cs, c, hc, hz, ho, h⟩ | ⟨h, -⟩
    · cases h
    · cases h
    · dsimp only at h
      subst h
      have ht := cxS_top (b := b) (cs := cs) hc
      have hd : topS (bsS b cs ++ cxS (eE cs) c) = 5 ∨ topS (bsS b cs ++ cxS (eE cs) c) = 12 ∨ topS (bsS b cs ++ cxS (eE cs) c) = 15 ∨ topS (bsS b cs ++ cxS (eE cs) c) = 16 := by
        rw [ht]
        by_cases c0 : c = 0
        · rw [if_pos c0]
          rcases eT_or cs with ⟨e, -⟩ | ⟨e, -⟩
          · exact .inl e
          · exact .inr (.inl e)
        · rw [if_neg c0]
          by_cases c1 : c = 1
          · rw [if_pos c1]
            exact .inr (.inr (.inl rfl))
          · rw [if_neg c1]
            exact .inr (.inr (.inr rfl))
      rcases hd with q | q | q | q
      · rw [rd_non q v5, q]
        exact (decide_eq_false (by decide)).trans (decide_eq_false (fun q => absurd (show (2 : Nat) = 0 from q.1) (by decide))).symm
      · rw [rd_non q v12, q]
        exact (decide_eq_false (by decide)).trans (decide_eq_false (fun q => absurd (show (2 : Nat) = 0 from q.1) (by decide))).symm
      · rw [rd_non q v15, q]
        exact (decide_eq_false (by decide)).trans (decide_eq_false (fun q => absurd (show (2 : Nat) = 0 from q.1) (by decide))).symm
      · rw [rd_non q v16, q]
        exact (decide_eq_false (by decide)).trans (decide_eq_false (fun q => absurd (show (2 : Nat) = 0 from q.1) (by decide))).symm
    · cases h
  · rcases h with ⟨h, -⟩ | ⟨h, -⟩ | ⟨h, -⟩ | ⟨-, cs, c, hc, hz, ho, h⟩
    · cases h
    · cases h
    · cases h
    · dsimp only at h
      have hc2 : c % 2 < 2 := Nat.mod_lt _ (by decide)
      have e1 : rdF 4 st = rdF 1 (bsS b cs ++ [(0, eE cs)]) := (rd_P (d := 3) hc h).trans ((rd_T hc 2).trans (rd_E hc2 1))
      rw [e1]
      rcases eT_or cs with ⟨-, e, -⟩ | ⟨-, e, -⟩
      · have ht : topS (bsS b cs ++ [(0, 7)]) = 7 := topS_snoc
        rw [e, rd_non ht v7, ht]
        exact (decide_eq_false (by decide)).trans (decide_eq_false (fun q => absurd (show (3 : Nat) = 0 from q.1) (by decide))).symm
      · have ht : topS (bsS b cs ++ [(0, 17)]) = 17 := topS_snoc
        rw [e, rd_non ht v17, ht]
        exact (decide_eq_false (by decide)).trans (decide_eq_false (fun q => absurd (show (3 : Nat) = 0 from q.1) (by decide))).symm
theorem au_0 : AuR [(0, 0)] (0, 0, 0) := .inl ⟨rfl, rfl, .inl ⟨rfl, rfl⟩⟩
/-- the table of STATES lets through what may come next, token by token -/
theorem au_acL : ∀ {l : List Nat} {st : List (Nat × Nat)} {s : AuZ}, AuR st s → (∀ y ∈ l, y < 12) → acL l st = auA l s
  | [], _, _, _, _ => rfl
  | y :: l, st, s, h, hy => by
    show (if y = 10 then acE st else (match acF y 4 st with
      | some st' => acL l st'
      | none => false)) = (if y = 10 then decide (s.1 = 0 ∧ s.2.1 = 0) else (match auN s y with
      | some s' => auA l s'
      | none => false))
    by_cases h10 : y = 10
    · rw [if_pos h10, if_pos h10]
      exact au_end h
    · rw [if_neg h10, if_neg h10]
      have hs := au_step h (hy y (List.mem_cons_self ..))
      cases ha : auN s y with
      | none =>
        rw [ha] at hs
        have hs : acF y 4 st = none := hs
        rw [hs]
      | some s' =>
        rw [ha] at hs
        obtain ⟨st', e, hr⟩ := hs
        rw [e]
        exact au_acL hr (fun z q => hy z (List.mem_cons_of_mem _ q))
theorem auA_app {v : List Nat} : ∀ {u : List Nat} {s : AuZ}, (∀ y ∈ u, y ≠ 10) → auA (u ++ v) s = match auL u s with
    | some s' => auA v s'
    | none => false
  | [], _, _ => rfl
  | y :: u, s, h => by
    show (if y = 10 then _ else (match auN s y with
      | some s' => auA (u ++ v) s'
      | none => false)) = match (auN s y).bind (auL u) with
      | some s' => auA v s'
      | none => false
    rw [if_neg (h y (List.mem_cons_self ..))]
    cases auN s y with
    | none => rfl
    | some s' => exact auA_app (fun z hz => h z (List.mem_cons_of_mem _ hz))
theorem auL_app {v : List Nat} : ∀ {u : List Nat} {s : AuZ}, auL (u ++ v) s = (auL u s).bind (auL v)
  | [], _ => rfl
  | y :: u, s => by
    show (auN s y).bind (auL (u ++ v)) = ((auN s y).bind (auL u)).bind (auL v)
    cases auN s y with
    | none => rfl
    | some s' => exact auL_app
/-! ===== a reader: what statements come to, told by tokens alone ===== -/
abbrev VaZ : Type := ((Int64 → Int32) → Int32) × List Int64 × List Int32
def va0 : VaZ := (fun _ => 0, [], [])
def vaA (x y : VaZ) : VaZ := (fun en => x.1 en + y.1 en, x.2.1 ++ y.2.1, x.2.2 ++ y.2.2)
def vaM (x y : VaZ) : VaZ := (fun en => x.1 en * y.1 en, x.2.1 ++ y.2.1, x.2.2 ++ y.2.2)
def vaN (v : Int64) : VaZ := (fun en => en v, [v], [])
def vaI (w : Int32) : VaZ := (fun _ => w, [], [w])
def vaAo : Option VaZ → VaZ → VaZ
  | none, y => y
  | some x, y => vaA x y
def vaMo : Option VaZ → VaZ → VaZ
  | none, y => y
  | some x, y => vaM x y
abbrev FrZ : Type := Option VaZ × Option VaZ
abbrev TkV : Type := Nat × Int64 × Int32
abbrev VmZ : Type := Nat × Nat × List FrZ × VaZ × Int64 × List (Int64 × VaZ)
def vmV (b : Nat) (fs : List FrZ) (w : VaZ) (nm : Int64) (dn : List (Int64 × VaZ)) : Option VmZ := match fs with
  | [] => none
  | f :: r => some (3, b, (f.1, none) :: r, vaMo f.2 w, nm, dn)
def vmE (t : Nat) (b : Nat) (fs : List FrZ) (cur : VaZ) (nm : Int64) (dn : List (Int64 × VaZ)) : Option VmZ := match fs with
  | [] => none
  | f :: r => if t = 4 then some (2, b, (some (vaAo f.1 cur), none) :: r, va0, nm, dn)
    else if t = 5 then some (2, b, (f.1, some cur) :: r, va0, nm, dn)
    else if t = 7 then vmV b r (vaAo f.1 cur) nm dn
    else if t = 3 ∧ r = [] then some (0, b, [], va0, 0, dn ++ [(nm, vaAo f.1 cur)]) else none
def vmN (s : VmZ) (t : TkV) : Option VmZ :=
  if s.1 = 0 then (if t.1 = 0 then some (1, s.2.1, [], va0, t.2.1, s.2.2.2.2.2) else if t.1 = 8 then some (0, s.2.1 + 1, [], va0, 0, s.2.2.2.2.2) else if t.1 = 9 ∧ 0 < s.2.1 then some (0, s.2.1 - 1, [], va0, 0, s.2.2.2.2.2) else none)
  else if s.1 = 1 then (if t.1 = 2 then some (2, s.2.1, [(none, none)], va0, s.2.2.2.2.1, s.2.2.2.2.2) else none)
  else if s.1 = 2 then (if t.1 = 6 then some (2, s.2.1, (none, none) :: s.2.2.1, va0, s.2.2.2.2.1, s.2.2.2.2.2) else if t.1 = 0 then vmV s.2.1 s.2.2.1 (vaN t.2.1) s.2.2.2.2.1 s.2.2.2.2.2 else if t.1 = 1 then vmV s.2.1 s.2.2.1 (vaI t.2.2) s.2.2.2.2.1 s.2.2.2.2.2 else none)
  else vmE t.1 s.2.1 s.2.2.1 s.2.2.2.1 s.2.2.2.2.1 s.2.2.2.2.2
def vmL : List TkV → VmZ → Option VmZ
  | [], s => some s
  | t :: l, s => (vmN s t).bind (vmL l)
theorem vmL_app {v : List TkV} : ∀ {u : List TkV} {s : VmZ}, vmL (u ++ v) s = (vmL u s).bind (vmL v)
  | [], _ => rfl
  | t :: u, s => by
    show (vmN s t).bind (vmL (u ++ v)) = ((vmN s t).bind (vmL u)).bind (vmL v)
    cases vmN s t with
    | none => rfl
    | some s' => exact vmL_app
theorem vmL_cons {t : TkV} {l : List TkV} {s s' : VmZ} (h : vmN s t = some s') : vmL (t :: l) s = vmL l s' := by
  show (vmN s t).bind (vmL l) = _
  rw [h]
  rfl
theorem vmL_then {u v : List TkV} {s s' : VmZ} (h : vmL u s = some s') : vmL (u ++ v) s = vmL v s' := by
  rw [vmL_app, h]
  rfl
theorem vm_rb {b : Nat} {fs : List FrZ} {cur : VaZ} {nm v : Int64} {w : Int32} {dn : List (Int64 × VaZ)} : vmN (0, b + 1, fs, cur, nm, dn) (9, v, w) = some (0, b, [], va0, 0, dn) := by
  unfold vmN
  dsimp only
  rw [if_pos rfl, if_neg (by decide), if_neg (by decide), if_pos ⟨rfl, Nat.succ_pos b⟩]
  rfl
theorem vm_semi {b : Nat} {f : FrZ} {cur : VaZ} {nm v : Int64} {w : Int32} {dn : List (Int64 × VaZ)} : vmN (3, b, [f], cur, nm, dn) (3, v, w) = some (0, b, [], va0, 0, dn ++ [(nm, vaAo f.1 cur)]) := by
  unfold vmN
  dsimp only
  rw [if_neg (by decide), if_neg (by decide), if_neg (by decide)]
  unfold vmE
  dsimp only
  rw [if_neg (by decide), if_neg (by decide), if_neg (by decide), if_pos ⟨rfl, rfl⟩]
/-- it reads as what may come next tells -/
def opV : List FrZ → Nat
  | [] => 0
  | _ :: r => r.length
def vmO (s : VmZ) : AuZ := (s.1, s.2.1, opV s.2.2.1)
def vmW (s : VmZ) : Prop := s.1 ≤ 3 ∧ (s.1 ≤ 1 → s.2.2.1 = []) ∧ (2 ≤ s.1 → s.2.2.1 ≠ [])
theorem vmW_lo {n b : Nat} {cur : VaZ} {nm : Int64} {dn : List (Int64 × VaZ)} (h : n ≤ 1) : vmW (n, b, [], cur, nm, dn) := ⟨by dsimp only; omega, fun _ => rfl, fun q => by dsimp only at q; omega⟩
theorem vmW_hi {n b : Nat} {f : FrZ} {r : List FrZ} {cur : VaZ} {nm : Int64} {dn : List (Int64 × VaZ)} (h : n = 2 ∨ n = 3) : vmW (n, b, f :: r, cur, nm, dn) := ⟨by dsimp only; omega, fun q => by dsimp only at q; omega, fun _ q => by cases q⟩
theorem vm_au {s : VmZ} {t : TkV} (h : vmW s) : (vmN s t).map vmO = auN (vmO s) t.1 ∧ ∀ s', vmN s t = some s' → vmW s' := by
  obtain ⟨n, b, fs, cur, nm, dn⟩ := s
  obtain ⟨k, v, w⟩ := t
  obtain ⟨h1, h2, h3⟩ := h
  dsimp only at h1 h2 h3
  have h4 : n = 0 ∨ n = 1 ∨ n = 2 ∨ n = 3 := by omega
  have d10 : ¬ (1 : Nat) = 0 := by decide
  have d20 : ¬ (2 : Nat) = 0 := by decide
  have d21 : ¬ (2 : Nat) = 1 := by decide
  have d30 : ¬ (3 : Nat) = 0 := by decide
  have d31 : ¬ (3 : Nat) = 1 := by decide
  have d32 : ¬ (3 : Nat) = 2 := by decide
  have no : ∀ {o : Option AuZ}, o = none → (none : Option VmZ).map vmO = o ∧ ∀ s', (none : Option VmZ) = some s' → vmW s' := fun e => ⟨e.symm, fun s' q => by cases q⟩
  have ye : ∀ {o : Option AuZ} {s1 : VmZ}, o = some (vmO s1) → vmW s1 → (some s1).map vmO = o ∧ ∀ s', some s1 = some s' → vmW s' := fun e w => ⟨e.symm, fun s' q => by cases q; exact w⟩
  show (vmN (n, b, fs, cur, nm, dn) (k, v, w)).map vmO = auN (n, b, opV fs) k ∧ ∀ s', vmN (n, b, fs, cur, nm, dn) (k, v, w) = some s' → vmW s'
  unfold vmN auN
  dsimp only
  rcases h4 with e | e | e | e <;> subst e
  · have hf := h2 (by decide)
    subst hf
    rw [if_pos rfl, if_pos rfl]
    by_cases k0 : k = 0
    · rw [if_pos k0, if_pos k0]
      exact ye rfl (vmW_lo (by decide))
    rw [if_neg k0, if_neg k0]
    by_cases k8 : k = 8
    · rw [if_pos k8, if_pos k8]
      exact ye rfl (vmW_lo (by decide))
    rw [if_neg k8, if_neg k8]
    by_cases k9 : k = 9 ∧ 0 < b
    · rw [if_pos k9, if_pos k9]
      exact ye rfl (vmW_lo (by decide))
    · rw [if_neg k9, if_neg k9]
      exact no rfl
  · have hf := h2 (by decide)
    subst hf
    rw [if_neg d10, if_neg d10, if_pos rfl, if_pos rfl]
    by_cases k2 : k = 2
    · rw [if_pos k2, if_pos k2]
      exact ye rfl (vmW_hi (.inl rfl))
    · rw [if_neg k2, if_neg k2]
      exact no rfl
  · have hf := h3 (by decide)
    rw [if_neg d20, if_neg d20, if_neg d21, if_neg d21, if_pos rfl, if_pos rfl]
    cases fs with
    | nil => exact absurd rfl hf
    | cons f r =>
      by_cases k6 : k = 6
      · rw [if_pos k6, if_pos k6]
        exact ye rfl (vmW_hi (.inl rfl))
      rw [if_neg k6, if_neg k6]
      by_cases k0 : k = 0
      · rw [if_pos k0, if_pos (show k < 2 by omega)]
        exact ye rfl (vmW_hi (.inr rfl))
      rw [if_neg k0]
      by_cases k1 : k = 1
      · rw [if_pos k1, if_pos (show k < 2 by omega)]
        exact ye rfl (vmW_hi (.inr rfl))
      · rw [if_neg k1, if_neg (show ¬ k < 2 by omega)]
        exact no rfl
  · have hf := h3 (by decide)
    rw [if_neg d30, if_neg d30, if_neg d31, if_neg d31, if_neg d32, if_neg d32]
    cases fs with
    | nil => exact absurd rfl hf
    | cons f r =>
      unfold vmE
      dsimp only
      by_cases k4 : k = 4
      · rw [if_pos k4, if_pos (show k = 4 ∨ k = 5 from .inl k4)]
        exact ye rfl (vmW_hi (.inl rfl))
      rw [if_neg k4]
      by_cases k5 : k = 5
      · rw [if_pos k5, if_pos (show k = 4 ∨ k = 5 from .inr k5)]
        exact ye rfl (vmW_hi (.inl rfl))
      rw [if_neg k5, if_neg (show ¬ (k = 4 ∨ k = 5) by omega)]
      by_cases k7 : k = 7
      · rw [if_pos k7]
        cases r with
        | nil =>
          rw [if_neg (show ¬ (k = 7 ∧ 0 < opV [f]) from fun q => absurd q.2 (Nat.lt_irrefl 0)), if_neg (show ¬ (k = 3 ∧ opV [f] = 0) from fun q => absurd (k7.symm.trans q.1) (by decide))]
          exact no rfl
        | cons g r =>
          rw [if_pos (show k = 7 ∧ 0 < opV (f :: g :: r) from ⟨k7, Nat.succ_pos _⟩)]
          exact ye rfl (vmW_hi (.inr rfl))
      rw [if_neg k7, if_neg (show ¬ (k = 7 ∧ 0 < opV (f :: r)) from fun q => k7 q.1)]
      by_cases k3 : k = 3 ∧ r = []
      · rw [if_pos k3, if_pos (show k = 3 ∧ opV (f :: r) = 0 from ⟨k3.1, by rw [k3.2]; rfl⟩)]
        exact ye rfl (vmW_lo (by decide))
      · rw [if_neg k3, if_neg (show ¬ (k = 3 ∧ opV (f :: r) = 0) from fun q => k3 ⟨q.1, List.eq_nil_of_length_eq_zero q.2⟩)]
        exact no rfl
theorem vmL_au : ∀ {l : List TkV} {s : VmZ}, vmW s → (vmL l s).map vmO = auL (l.map (fun t => t.1)) (vmO s) ∧ ∀ s', vmL l s = some s' → vmW s'
  | [], s, h => ⟨rfl, fun s' q => by cases q; exact h⟩
  | t :: l, s, h => by
    obtain ⟨a1, a2⟩ := vm_au (t := t) h
    show ((vmN s t).bind (vmL l)).map vmO = (auN (vmO s) t.1).bind (auL (l.map (fun t => t.1))) ∧ ∀ s', (vmN s t).bind (vmL l) = some s' → vmW s'
    cases hs : vmN s t with
    | none =>
      rw [hs] at a1
      rw [← a1]
      exact ⟨rfl, fun s' q => by cases q⟩
    | some s1 =>
      rw [hs] at a1
      rw [← a1]
      exact vmL_au (a2 s1 hs)
/-! ===== nodes of the TREE, read ===== -/
def tvN (N : Nat → Nd) (z : Nat) : TkV := (ndK (N z), nmV N z, numY (N z))
def tvs (N : Nat → Nd) (c : Nat) : List TkV := (yl N c).map (tvN N)
def vaF (N : Nat → Nd) : Nat → Nat → VaZ
  | 0, _ => va0
  | d + 1, c => if ndR (N c) = 4 then vaA (vaF N d (chN (N c) 0)) (vaF N d (chN (N c) 2)) else if ndR (N c) = 5 then vaF N d (chN (N c) 0) else if ndR (N c) = 6 then vaM (vaF N d (chN (N c) 0)) (vaF N d (chN (N c) 2)) else if ndR (N c) = 7 then vaF N d (chN (N c) 0) else if ndR (N c) = 8 then vaN (nmV N (chN (N c) 0)) else if ndR (N c) = 9 then vaI (numY (N (chN (N c) 0))) else if ndR (N c) = 10 then vaF N d (chN (N c) 1) else va0
theorem vaF_fu {m : Nat} {N : Nat → Nd} (h : NdOk m N) : ∀ (d d' c : Nat), c < m → c < d → c < d' → vaF N d' c = vaF N d c
  | 0, _, c, _, h1, _ => by omega
  | _ + 1, 0, c, _, _, h2 => by omega
  | d + 1, d' + 1, c, hc, h1, h2 => by
    have cl : ∀ (r k y : Nat), ndR (N c) = (r : Int) → (rhS r)[k]? = some y → vaF N d' (chN (N c) k) = vaF N d (chN (N c) k) := fun r k y hr hk => by
      obtain ⟨-, -, z3⟩ := chN_is h hc hr hk
      exact vaF_fu h d d' _ (by omega) (by omega) (by omega)
    show (if ndR (N c) = 4 then vaA (vaF N d' (chN (N c) 0)) (vaF N d' (chN (N c) 2)) else if ndR (N c) = 5 then vaF N d' (chN (N c) 0) else if ndR (N c) = 6 then vaM (vaF N d' (chN (N c) 0)) (vaF N d' (chN (N c) 2)) else if ndR (N c) = 7 then vaF N d' (chN (N c) 0) else if ndR (N c) = 8 then vaN (nmV N (chN (N c) 0)) else if ndR (N c) = 9 then vaI (numY (N (chN (N c) 0))) else if ndR (N c) = 10 then vaF N d' (chN (N c) 1) else va0) = (if ndR (N c) = 4 then vaA (vaF N d (chN (N c) 0)) (vaF N d (chN (N c) 2)) else if ndR (N c) = 5 then vaF N d (chN (N c) 0) else if ndR (N c) = 6 then vaM (vaF N d (chN (N c) 0)) (vaF N d (chN (N c) 2)) else if ndR (N c) = 7 then vaF N d (chN (N c) 0) else if ndR (N c) = 8 then vaN (nmV N (chN (N c) 0)) else if ndR (N c) = 9 then vaI (numY (N (chN (N c) 0))) else if ndR (N c) = 10 then vaF N d (chN (N c) 1) else va0)
    by_cases r4 : ndR (N c) = 4
    · rw [if_pos r4, if_pos r4, cl 4 0 2 r4 rfl, cl 4 2 3 r4 rfl]
    rw [if_neg r4, if_neg r4]
    by_cases r5 : ndR (N c) = 5
    · rw [if_pos r5, if_pos r5, cl 5 0 3 r5 rfl]
    rw [if_neg r5, if_neg r5]
    by_cases r6 : ndR (N c) = 6
    · rw [if_pos r6, if_pos r6, cl 6 0 3 r6 rfl, cl 6 2 4 r6 rfl]
    rw [if_neg r6, if_neg r6]
    by_cases r7 : ndR (N c) = 7
    · rw [if_pos r7, if_pos r7, cl 7 0 4 r7 rfl]
    rw [if_neg r7, if_neg r7]
    by_cases r10 : ndR (N c) = 10
    · rw [cl 10 1 2 r10 rfl]
    · rw [if_neg r10, if_neg r10]
def vaC (N : Nat → Nd) (c : Nat) : VaZ := vaF N (c + 1) c
theorem vaC_eq {m c : Nat} {N : Nat → Nd} (h : NdOk m N) (hc : c < m) : vaC N c = if ndR (N c) = 4 then vaA (vaC N (chN (N c) 0)) (vaC N (chN (N c) 2)) else if ndR (N c) = 5 then vaC N (chN (N c) 0) else if ndR (N c) = 6 then vaM (vaC N (chN (N c) 0)) (vaC N (chN (N c) 2)) else if ndR (N c) = 7 then vaC N (chN (N c) 0) else if ndR (N c) = 8 then vaN (nmV N (chN (N c) 0)) else if ndR (N c) = 9 then vaI (numY (N (chN (N c) 0))) else if ndR (N c) = 10 then vaC N (chN (N c) 1) else va0 := by
  have cl : ∀ (r k y : Nat), ndR (N c) = (r : Int) → (rhS r)[k]? = some y → vaF N c (chN (N c) k) = vaC N (chN (N c) k) := fun r k y hr hk => by
    obtain ⟨-, -, z3⟩ := chN_is h hc hr hk
    exact vaF_fu h _ _ _ (by omega) (Nat.lt_succ_self _) z3
  show (if ndR (N c) = 4 then vaA (vaF N c (chN (N c) 0)) (vaF N c (chN (N c) 2)) else if ndR (N c) = 5 then vaF N c (chN (N c) 0) else if ndR (N c) = 6 then vaM (vaF N c (chN (N c) 0)) (vaF N c (chN (N c) 2)) else if ndR (N c) = 7 then vaF N c (chN (N c) 0) else if ndR (N c) = 8 then vaN (nmV N (chN (N c) 0)) else if ndR (N c) = 9 then vaI (numY (N (chN (N c) 0))) else if ndR (N c) = 10 then vaF N c (chN (N c) 1) else va0) = _
  by_cases r4 : ndR (N c) = 4
  · rw [if_pos r4, if_pos r4, cl 4 0 2 r4 rfl, cl 4 2 3 r4 rfl]
  rw [if_neg r4, if_neg r4]
  by_cases r5 : ndR (N c) = 5
  · rw [if_pos r5, if_pos r5, cl 5 0 3 r5 rfl]
  rw [if_neg r5, if_neg r5]
  by_cases r6 : ndR (N c) = 6
  · rw [if_pos r6, if_pos r6, cl 6 0 3 r6 rfl, cl 6 2 4 r6 rfl]
  rw [if_neg r6, if_neg r6]
  by_cases r7 : ndR (N c) = 7
  · rw [if_pos r7, if_pos r7, cl 7 0 4 r7 rfl]
  rw [if_neg r7, if_neg r7]
  by_cases r10 : ndR (N c) = 10
  · rw [cl 10 1 2 r10 rfl]
  · rw [if_neg r10, if_neg r10]
theorem vaC_r {m c r : Nat} {N : Nat → Nd} (h : NdOk m N) (hc : c < m) (hr : ndR (N c) = (r : Int)) : vaC N c = if r = 4 then vaA (vaC N (chN (N c) 0)) (vaC N (chN (N c) 2)) else if r = 5 then vaC N (chN (N c) 0) else if r = 6 then vaM (vaC N (chN (N c) 0)) (vaC N (chN (N c) 2)) else if r = 7 then vaC N (chN (N c) 0) else if r = 8 then vaN (nmV N (chN (N c) 0)) else if r = 9 then vaI (numY (N (chN (N c) 0))) else if r = 10 then vaC N (chN (N c) 1) else va0 := by
  rw [vaC_eq h hc, hr]
  have e4 : ((r : Int) = 4) ↔ r = 4 := by omega
  by_cases r4 : r = 4
  · rw [if_pos r4, if_pos (e4.mpr r4)]
  rw [if_neg r4, if_neg (fun u => r4 (e4.mp u))]
  have e5 : ((r : Int) = 5) ↔ r = 5 := by omega
  by_cases r5 : r = 5
  · rw [if_pos r5, if_pos (e5.mpr r5)]
  rw [if_neg r5, if_neg (fun u => r5 (e5.mp u))]
  have e6 : ((r : Int) = 6) ↔ r = 6 := by omega
  by_cases r6 : r = 6
  · rw [if_pos r6, if_pos (e6.mpr r6)]
  rw [if_neg r6, if_neg (fun u => r6 (e6.mp u))]
  have e7 : ((r : Int) = 7) ↔ r = 7 := by omega
  by_cases r7 : r = 7
  · rw [if_pos r7, if_pos (e7.mpr r7)]
  rw [if_neg r7, if_neg (fun u => r7 (e7.mp u))]
  have e8 : ((r : Int) = 8) ↔ r = 8 := by omega
  by_cases r8 : r = 8
  · rw [if_pos r8, if_pos (e8.mpr r8)]
  rw [if_neg r8, if_neg (fun u => r8 (e8.mp u))]
  have e9 : ((r : Int) = 9) ↔ r = 9 := by omega
  by_cases r9 : r = 9
  · rw [if_pos r9, if_pos (e9.mpr r9)]
  rw [if_neg r9, if_neg (fun u => r9 (e9.mp u))]
  have e10 : ((r : Int) = 10) ↔ r = 10 := by omega
  by_cases r10 : r = 10
  · rw [if_pos r10, if_pos (e10.mpr r10)]
  rw [if_neg r10, if_neg (fun u => r10 (e10.mp u))]
theorem vaC_ev {N : Nat → Nd} {en : Int64 → Int32} : ∀ (d c : Nat), (vaF N d c).1 en = evF N en d c
  | 0, _ => rfl
  | d + 1, c => by
    show (if ndR (N c) = 4 then vaA (vaF N d (chN (N c) 0)) (vaF N d (chN (N c) 2)) else if ndR (N c) = 5 then vaF N d (chN (N c) 0) else if ndR (N c) = 6 then vaM (vaF N d (chN (N c) 0)) (vaF N d (chN (N c) 2)) else if ndR (N c) = 7 then vaF N d (chN (N c) 0) else if ndR (N c) = 8 then vaN (nmV N (chN (N c) 0)) else if ndR (N c) = 9 then vaI (numY (N (chN (N c) 0))) else if ndR (N c) = 10 then vaF N d (chN (N c) 1) else va0).1 en = (if ndR (N c) = 4 then evF N en d (chN (N c) 0) + evF N en d (chN (N c) 2) else if ndR (N c) = 5 then evF N en d (chN (N c) 0) else if ndR (N c) = 6 then evF N en d (chN (N c) 0) * evF N en d (chN (N c) 2) else if ndR (N c) = 7 then evF N en d (chN (N c) 0) else if ndR (N c) = 8 then en (nmV N (chN (N c) 0)) else if ndR (N c) = 9 then numY (N (chN (N c) 0)) else if ndR (N c) = 10 then evF N en d (chN (N c) 1) else 0)
    by_cases r4 : ndR (N c) = 4
    · rw [if_pos r4, if_pos r4, ← vaC_ev d, ← vaC_ev d]
      rfl
    rw [if_neg r4, if_neg r4]
    by_cases r5 : ndR (N c) = 5
    · rw [if_pos r5, if_pos r5]
      exact vaC_ev d _
    rw [if_neg r5, if_neg r5]
    by_cases r6 : ndR (N c) = 6
    · rw [if_pos r6, if_pos r6, ← vaC_ev d, ← vaC_ev d]
      rfl
    rw [if_neg r6, if_neg r6]
    by_cases r7 : ndR (N c) = 7
    · rw [if_pos r7, if_pos r7]
      exact vaC_ev d _
    rw [if_neg r7, if_neg r7]
    by_cases r8 : ndR (N c) = 8
    · rw [if_pos r8, if_pos r8]
      rfl
    rw [if_neg r8, if_neg r8]
    by_cases r9 : ndR (N c) = 9
    · rw [if_pos r9, if_pos r9]
      rfl
    rw [if_neg r9, if_neg r9]
    by_cases r10 : ndR (N c) = 10
    · rw [if_pos r10, if_pos r10]
      exact vaC_ev d _
    · rw [if_neg r10, if_neg r10]
      rfl
theorem vaC_is {N : Nat → Nd} {en : Int64 → Int32} {c : Nat} : (vaC N c).1 en = evN N en c := vaC_ev _ _
theorem kidsL {m c r : Nat} {N : Nat → Nd} (h : NdOk m N) (hc : c < m) (hr : ndR (N c) = (r : Int)) : ndC (N c) = (List.range (rhS r).length).map (chN (N c)) := by
  have hl : (ndC (N c)).length = (rhS r).length := by
    rcases h c hc with ⟨e1, -⟩ | ⟨r', s, -, -, e3, -, -, e6, -⟩
    · omega
    · have : r' = r := by omega
      subst this
      rw [← e6, List.length_map]
  apply List.ext_getElem?
  intro k
  rw [List.getElem?_map]
  by_cases hk : k < (rhS r).length
  · rw [List.getElem?_range hk]
    exact (chN_is h hc hr (List.getElem?_eq_getElem hk)).1
  · rw [List.getElem?_eq_none (by omega), List.getElem?_eq_none (by rw [List.length_range]; omega)]
    rfl
/-- its S of rule 2, from the left -/
def s2L (N : Nat → Nd) (c : Nat) : List Nat := (po N c).filter (fun z => decide (ndR (N z) = 2))
theorem flt_ap {α : Type} {p : α → Bool} {v : List α} : ∀ {u : List α}, (u ++ v).filter p = u.filter p ++ v.filter p
  | [] => rfl
  | x :: u => by
    rw [List.cons_append, List.filter_cons, List.filter_cons, flt_ap]
    by_cases h : p x = true
    · rw [if_pos h, if_pos h]
      rfl
    · rw [if_neg h, if_neg h]
theorem flt_fm {α β : Type} {p : β → Bool} {f : α → List β} : ∀ (l : List α), (l.flatMap f).filter p = l.flatMap (fun x => (f x).filter p)
  | [] => rfl
  | x :: l => by
    show (f x ++ l.flatMap f).filter p = (f x).filter p ++ l.flatMap (fun x => (f x).filter p)
    rw [flt_ap, flt_fm l]
theorem s2L_eq {m c : Nat} {N : Nat → Nd} (h : NdOk m N) (hc : c < m) : s2L N c = (if ndR (N c) = 2 then [c] else []) ++ (ndC (N c)).flatMap (s2L N) := by
  unfold s2L
  rw [po_eq h hc, List.filter_cons, flt_fm]
  by_cases h2 : ndR (N c) = 2
  · rw [if_pos (decide_eq_true h2), if_pos h2]
    rfl
  · rw [if_neg (by rw [decide_eq_false h2]; decide), if_neg h2]
    rfl
theorem rh4_fin : ∀ r, r < 11 → 4 ≤ r → ∀ y ∈ rhS r, 2 ≤ y := by decide +kernel
theorem s2L_no {m : Nat} {N : Nat → Nd} (h : NdOk m N) (c : Nat) : c < m → 2 ≤ ndM (N c) → s2L N c = [] := by
  induction c using Nat.strongRecOn with
  | ind c ih =>
    intro hc h2
    rw [s2L_eq h hc]
    rcases h c hc with ⟨e1, e2, -⟩ | ⟨r, s, hr, -, e3, -, -, e6, e7, -⟩
    · rw [if_neg (by omega), e2]
      rfl
    · have h4 : 4 ≤ r := by
        have hf : ∀ r, r < 11 → 2 ≤ syN r → 4 ≤ r := by decide +kernel
        refine hf r hr ?_
        unfold ndM at h2
        rw [e3, if_neg (by omega)] at h2
        exact h2
      rw [if_neg (by omega), List.nil_append]
      have hz : ∀ z ∈ ndC (N c), s2L N z = [] := fun z hz => by
        have hm : ndM (N z) ∈ rhS r := by
          rw [← e6]
          exact List.mem_map.mpr ⟨z, hz, rfl⟩
        exact ih z (e7 z hz) (by have := e7 z hz; omega) (rh4_fin r hr h4 _ hm)
      generalize ndC (N c) = l at hz
      induction l with
      | nil => rfl
      | cons a l ihl =>
        show s2L N a ++ l.flatMap (s2L N) = []
        rw [hz a (List.mem_cons_self ..), ihl (fun z q => hz z (List.mem_cons_of_mem _ q))]
        rfl
def stVz (N : Nat → Nd) (c : Nat) : List (Int64 × VaZ) := (s2L N c).map (fun s => (nmC N s, vaC N (chN (N s) 2)))
theorem tvs_tk {m z k : Nat} {N : Nat → Nd} (h : NdOk m N) (hz : z < m) (hM : ndM (N z) = 5 + k) : tvs N z = [(k, nmV N z, numY (N z))] := by
  rcases h z hz with ⟨e1, -⟩ | ⟨r, s, hr, -, e3, -⟩
  · unfold tvs
    rw [yl_tok h hz e1]
    have hk : ndK (N z) = k := by
      unfold ndM at hM
      rw [if_pos (by omega)] at hM
      omega
    show [(ndK (N z), nmV N z, numY (N z))] = _
    rw [hk]
  · exfalso
    have hf : ∀ r, r < 11 → syN r < 5 := by decide +kernel
    have := hf r hr
    unfold ndM at hM
    rw [e3, if_neg (by omega)] at hM
    have e : ((r : Int)).toNat = r := rfl
    rw [e] at hM
    omega
theorem tvs_rl {m c r : Nat} {N : Nat → Nd} (h : NdOk m N) (hc : c < m) (hr : ndR (N c) = (r : Int)) : tvs N c = ((List.range (rhS r).length).map (chN (N c))).flatMap (tvs N) := by
  unfold tvs
  rw [yl_eq h hc, if_neg (by omega), kidsL h hc hr]
  generalize (List.range (rhS r).length).map (chN (N c)) = l
  induction l with
  | nil => rfl
  | cons a l ih =>
    show (yl N a ++ l.flatMap (yl N)).map (tvN N) = (yl N a).map (tvN N) ++ l.flatMap (fun c => (yl N c).map (tvN N))
    rw [List.map_append, ih]
/-- P: a value, T: values multiplied, E: added; S, L: what is done -/
def VmP (N : Nat → Nd) (c : Nat) : Prop := ∀ (b : Nat) (f : FrZ) (fs : List FrZ) (nm : Int64) (dn : List (Int64 × VaZ)), vmL (tvs N c) (2, b, f :: fs, va0, nm, dn) = some (3, b, (f.1, none) :: fs, vaMo f.2 (vaC N c), nm, dn)
def VmT (N : Nat → Nd) (c : Nat) : Prop := ∀ (b : Nat) (e : Option VaZ) (fs : List FrZ) (nm : Int64) (dn : List (Int64 × VaZ)), vmL (tvs N c) (2, b, (e, none) :: fs, va0, nm, dn) = some (3, b, (e, none) :: fs, vaC N c, nm, dn)
def VmX (N : Nat → Nd) (c : Nat) : Prop := ∀ (b : Nat) (fs : List FrZ) (nm : Int64) (dn : List (Int64 × VaZ)), ∃ e p, vmL (tvs N c) (2, b, (none, none) :: fs, va0, nm, dn) = some (3, b, (e, none) :: fs, p, nm, dn) ∧ vaAo e p = vaC N c
def VmS (N : Nat → Nd) (c : Nat) : Prop := ∀ (b : Nat) (dn : List (Int64 × VaZ)), vmL (tvs N c) (0, b, [], va0, 0, dn) = some (0, b, [], va0, 0, dn ++ stVz N c)
theorem vm_nd {m : Nat} {N : Nat → Nd} (h : NdOk m N) (c : Nat) : c < m → (ndM (N c) = 4 → VmP N c) ∧ (ndM (N c) = 3 → VmT N c) ∧ (ndM (N c) = 2 → VmX N c) ∧ (ndM (N c) = 1 ∨ ndM (N c) = 0 → VmS N c) := by
  induction c using Nat.strongRecOn with
  | ind c ih =>
    intro hc
    rcases h c hc with ⟨e1, -⟩ | ⟨r, s, hr, -, e3, -⟩
    · have : ndM (N c) = 5 + ndK (N c) := by
        unfold ndM
        rw [if_pos (by omega)]
      exact ⟨fun q => by omega, fun q => by omega, fun q => by omega, fun q => by omega⟩
    · have hM : ndM (N c) = syN r := by
        unfold ndM
        rw [e3, if_neg (by omega)]
        rfl
      have kid : ∀ k y : Nat, (rhS r)[k]? = some y → ndM (N (chN (N c) k)) = y ∧ chN (N c) k < c ∧ chN (N c) k < m := fun k y hk => by
        obtain ⟨-, a, b⟩ := chN_is h hc e3 hk
        exact ⟨a, b, by omega⟩
      have tk : ∀ k y : Nat, (rhS r)[k]? = some (5 + y) → tvs N (chN (N c) k) = [(y, nmV N (chN (N c) k), numY (N (chN (N c) k)))] := fun k y hk => by
        obtain ⟨a, -, b⟩ := kid k _ hk
        exact tvs_tk h b a
      have hv := vaC_r h hc e3
      have ht := tvs_rl h hc e3
      have h11 : r = 0 ∨ r = 1 ∨ r = 2 ∨ r = 3 ∨ r = 4 ∨ r = 5 ∨ r = 6 ∨ r = 7 ∨ r = 8 ∨ r = 9 ∨ r = 10 := by omega
      rcases h11 with e | e | e | e | e | e | e | e | e | e | e <;> subst e
      · -- L from nothing
        have hS : syN 0 = 0 := by decide +kernel
        refine ⟨fun q => by omega, fun q => by omega, fun q => by omega, fun _ b dn => ?_⟩
        have hs : stVz N c = [] := by
          unfold stVz
          rw [s2L_eq h hc, if_neg (by omega), kidsL h hc e3]
          rfl
        rw [ht, hs, List.append_nil]
        rfl
      · -- L S
        have hS : syN 1 = 0 := by decide +kernel
        refine ⟨fun q => by omega, fun q => by omega, fun q => by omega, fun _ b dn => ?_⟩
        obtain ⟨a1, a2, a3⟩ := kid 0 0 rfl
        obtain ⟨b1, b2, b3⟩ := kid 1 1 rfl
        have hs : stVz N c = stVz N (chN (N c) 0) ++ stVz N (chN (N c) 1) := by
          unfold stVz
          rw [s2L_eq h hc, if_neg (by omega), kidsL h hc e3, ← List.map_append]
          show ((s2L N (chN (N c) 0) ++ (s2L N (chN (N c) 1) ++ []))).map _ = _
          rw [List.append_nil]
        rw [ht, hs]
        show vmL (tvs N (chN (N c) 0) ++ (tvs N (chN (N c) 1) ++ [])) _ = _
        rw [vmL_then ((ih _ a2 a3).2.2.2 (.inr a1) b dn), vmL_then ((ih _ b2 b3).2.2.2 (.inl b1) b _), List.append_assoc]
        rfl
      · -- NAME '=' E ';'
        have hS : syN 2 = 1 := by decide +kernel
        refine ⟨fun q => by omega, fun q => by omega, fun q => by omega, fun _ b dn => ?_⟩
        obtain ⟨a1, a2, a3⟩ := kid 2 2 rfl
        have hs : stVz N c = [(nmV N (chN (N c) 0), vaC N (chN (N c) 2))] := by
          obtain ⟨z1, -, z3⟩ := kid 0 5 rfl
          obtain ⟨y1, -, y3⟩ := kid 1 7 rfl
          obtain ⟨x1, -, x3⟩ := kid 3 8 rfl
          unfold stVz
          rw [s2L_eq h hc, if_pos (by omega), kidsL h hc e3]
          show (c :: (s2L N (chN (N c) 0) ++ (s2L N (chN (N c) 1) ++ (s2L N (chN (N c) 2) ++ (s2L N (chN (N c) 3) ++ []))))).map _ = _
          rw [s2L_no h _ z3 (by omega), s2L_no h _ y3 (by omega), s2L_no h _ a3 (by omega), s2L_no h _ x3 (by omega)]
          rfl
        rw [ht, hs]
        show vmL (tvs N (chN (N c) 0) ++ (tvs N (chN (N c) 1) ++ (tvs N (chN (N c) 2) ++ (tvs N (chN (N c) 3) ++ [])))) _ = _
        obtain ⟨e, p, q1, q2⟩ := (ih _ a2 a3).2.2.1 a1 b [] (nmV N (chN (N c) 0)) dn
        rw [tk 0 0 rfl, tk 1 2 rfl, tk 3 3 rfl]
        show vmL ((0, nmV N (chN (N c) 0), numY (N (chN (N c) 0))) :: (2, nmV N (chN (N c) 1), numY (N (chN (N c) 1))) :: (tvs N (chN (N c) 2) ++ [(3, nmV N (chN (N c) 3), numY (N (chN (N c) 3)))])) _ = _
        rw [vmL_cons (s' := (1, b, [], va0, nmV N (chN (N c) 0), dn)) rfl, vmL_cons (s' := (2, b, [(none, none)], va0, nmV N (chN (N c) 0), dn)) rfl, vmL_then q1, vmL_cons vm_semi, q2]
        rfl
      · -- '{' L '}'
        have hS : syN 3 = 1 := by decide +kernel
        refine ⟨fun q => by omega, fun q => by omega, fun q => by omega, fun _ b dn => ?_⟩
        obtain ⟨a1, a2, a3⟩ := kid 1 0 rfl
        have hs : stVz N c = stVz N (chN (N c) 1) := by
          obtain ⟨z1, -, z3⟩ := kid 0 13 rfl
          obtain ⟨x1, -, x3⟩ := kid 2 14 rfl
          unfold stVz
          rw [s2L_eq h hc, if_neg (by omega), kidsL h hc e3]
          show ((s2L N (chN (N c) 0) ++ (s2L N (chN (N c) 1) ++ (s2L N (chN (N c) 2) ++ [])))).map _ = _
          rw [s2L_no h _ z3 (by omega), s2L_no h _ x3 (by omega), List.nil_append, List.nil_append, List.append_nil]
        rw [ht, hs]
        show vmL (tvs N (chN (N c) 0) ++ (tvs N (chN (N c) 1) ++ (tvs N (chN (N c) 2) ++ []))) _ = _
        rw [tk 0 8 rfl, tk 2 9 rfl]
        show vmL ((8, nmV N (chN (N c) 0), numY (N (chN (N c) 0))) :: (tvs N (chN (N c) 1) ++ [(9, nmV N (chN (N c) 2), numY (N (chN (N c) 2)))])) _ = _
        rw [vmL_cons (s' := (0, b + 1, [], va0, 0, dn)) rfl, vmL_then ((ih _ a2 a3).2.2.2 (.inr a1) (b + 1) dn), vmL_cons vm_rb]
        rfl
      · -- E '+' T
        have hS : syN 4 = 2 := by decide +kernel
        refine ⟨fun q => by omega, fun q => by omega, fun _ b fs nm dn => ?_, fun q => by omega⟩
        obtain ⟨a1, a2, a3⟩ := kid 0 2 rfl
        obtain ⟨b1, b2, b3⟩ := kid 2 3 rfl
        obtain ⟨e, p, q1, q2⟩ := (ih _ a2 a3).2.2.1 a1 b fs nm dn
        refine ⟨some (vaC N (chN (N c) 0)), vaC N (chN (N c) 2), ?_, ?_⟩
        · rw [ht]
          show vmL (tvs N (chN (N c) 0) ++ (tvs N (chN (N c) 1) ++ (tvs N (chN (N c) 2) ++ []))) _ = _
          rw [tk 1 4 rfl, vmL_then q1]
          show vmL ((4, nmV N (chN (N c) 1), numY (N (chN (N c) 1))) :: (tvs N (chN (N c) 2) ++ [])) _ = _
          rw [vmL_cons (s' := (2, b, (some (vaAo e p), none) :: fs, va0, nm, dn)) rfl, vmL_then ((ih _ b2 b3).2.1 b1 b _ fs nm dn), q2]
          rfl
        · rw [hv]
          rfl
      · -- T
        have hS : syN 5 = 2 := by decide +kernel
        refine ⟨fun q => by omega, fun q => by omega, fun _ b fs nm dn => ?_, fun q => by omega⟩
        obtain ⟨a1, a2, a3⟩ := kid 0 3 rfl
        refine ⟨none, vaC N (chN (N c) 0), ?_, ?_⟩
        · rw [ht]
          show vmL (tvs N (chN (N c) 0) ++ []) _ = _
          rw [vmL_then ((ih _ a2 a3).2.1 a1 b _ fs nm dn)]
          rfl
        · rw [hv]
          rfl
      · -- T '*' P
        have hS : syN 6 = 3 := by decide +kernel
        refine ⟨fun q => by omega, fun _ b e fs nm dn => ?_, fun q => by omega, fun q => by omega⟩
        obtain ⟨a1, a2, a3⟩ := kid 0 3 rfl
        obtain ⟨b1, b2, b3⟩ := kid 2 4 rfl
        rw [ht]
        show vmL (tvs N (chN (N c) 0) ++ (tvs N (chN (N c) 1) ++ (tvs N (chN (N c) 2) ++ []))) _ = _
        rw [tk 1 5 rfl, vmL_then ((ih _ a2 a3).2.1 a1 b e fs nm dn)]
        show vmL ((5, nmV N (chN (N c) 1), numY (N (chN (N c) 1))) :: (tvs N (chN (N c) 2) ++ [])) _ = _
        rw [vmL_cons (s' := (2, b, (e, some (vaC N (chN (N c) 0))) :: fs, va0, nm, dn)) rfl, vmL_then ((ih _ b2 b3).1 b1 b _ fs nm dn), hv]
        rfl
      · -- P
        have hS : syN 7 = 3 := by decide +kernel
        refine ⟨fun q => by omega, fun _ b e fs nm dn => ?_, fun q => by omega, fun q => by omega⟩
        obtain ⟨a1, a2, a3⟩ := kid 0 4 rfl
        rw [ht]
        show vmL (tvs N (chN (N c) 0) ++ []) _ = _
        rw [vmL_then ((ih _ a2 a3).1 a1 b _ fs nm dn), hv]
        rfl
      · -- NAME
        have hS : syN 8 = 4 := by decide +kernel
        refine ⟨fun _ b f fs nm dn => ?_, fun q => by omega, fun q => by omega, fun q => by omega⟩
        rw [ht, hv]
        show vmL (tvs N (chN (N c) 0) ++ []) _ = _
        rw [tk 0 0 rfl]
        rfl
      · -- INT
        have hS : syN 9 = 4 := by decide +kernel
        refine ⟨fun _ b f fs nm dn => ?_, fun q => by omega, fun q => by omega, fun q => by omega⟩
        rw [ht, hv]
        show vmL (tvs N (chN (N c) 0) ++ []) _ = _
        rw [tk 0 1 rfl]
        rfl
      · -- '(' E ')'
        have hS : syN 10 = 4 := by decide +kernel
        refine ⟨fun _ b f fs nm dn => ?_, fun q => by omega, fun q => by omega, fun q => by omega⟩
        obtain ⟨a1, a2, a3⟩ := kid 1 2 rfl
        obtain ⟨e, p, q1, q2⟩ := (ih _ a2 a3).2.2.1 a1 b (f :: fs) nm dn
        rw [ht, hv]
        show vmL (tvs N (chN (N c) 0) ++ (tvs N (chN (N c) 1) ++ (tvs N (chN (N c) 2) ++ []))) _ = _
        rw [tk 0 6 rfl, tk 2 7 rfl]
        show vmL ((6, nmV N (chN (N c) 0), numY (N (chN (N c) 0))) :: (tvs N (chN (N c) 1) ++ [(7, nmV N (chN (N c) 2), numY (N (chN (N c) 2)))])) _ = _
        rw [vmL_cons (s' := (2, b, (none, none) :: f :: fs, va0, nm, dn)) rfl, vmL_then q1, vmL_cons (s' := (3, b, (f.1, none) :: fs, vaMo f.2 (vaAo e p), nm, dn)) rfl, q2]
        rfl
/-! ===== a text in pieces, read into tokens ===== -/
def shx (a : Nat) (x : Nat × Nat × Nat) : Nat × Nat × Nat := (x.1, a + x.2.1, x.2.2)
theorem runN_shf {p : Int32 → Bool} {T t : Nat → Int32} {a : Nat} (h : ∀ j, T (a + j) = t j) : ∀ f i, runN p T f (a + i) = runN p t f i
  | 0, _ => rfl
  | f + 1, i => by rw [runN, runN, h i, Nat.add_assoc, runN_shf h f (i + 1)]
theorem tkP_shf {T t : Nat → Int32} {a n i : Nat} (h : ∀ j, T (a + j) = t j) : tkP T (a + n) (a + i) = tkP t n i := by
  unfold tkP
  rw [h i, show a + n - (a + i) = n - i by omega, runN_shf h, runN_shf h]
theorem lexF_shf {T t : Nat → Int32} {a n : Nat} (h : ∀ j, T (a + j) = t j) : ∀ f i, lexF T (a + n) f (a + i) = (lexF t n f i).map (shx a)
  | 0, _ => rfl
  | f + 1, i => by
    rw [lexF, lexF]
    by_cases hi : n ≤ i
    · rw [if_pos hi, if_pos (by omega)]
      rfl
    · rw [if_neg hi, if_neg (show ¬ a + n ≤ a + i by omega), h i, tkP_shf h]
      by_cases hB : isB (t i) = true
      · rw [if_pos hB, if_pos hB, Nat.add_assoc, lexF_shf h f (i + 1)]
      · rw [if_neg hB, if_neg hB, Nat.add_assoc, lexF_shf h f _]
        rfl
theorem runN_fu {p : Int32 → Bool} {t : Nat → Int32} : ∀ f f' i, runN p t f i ≤ f' → f' ≤ f → runN p t f' i = runN p t f i
  | 0, f', i, _, h2 => by
    have : f' = 0 := by omega
    rw [this]
  | f + 1, 0, i, h1, _ => by
    have : runN p t (f + 1) i = 0 := by omega
    rw [this]
    rfl
  | f + 1, f' + 1, i, h1, h2 => by
    rw [runN] at h1
    rw [runN, runN]
    by_cases hp : p (t i) = true
    · rw [if_pos hp] at h1
      rw [if_pos hp, if_pos hp, runN_fu f f' (i + 1) (by omega) (by omega)]
    · rw [if_neg hp, if_neg hp]
/-- no token goes over from one piece into the next -/
def ClB (u v : List Int32) : Prop := 1 ≤ u.length → 1 ≤ v.length → ¬ (isL (txF u (u.length - 1)) = true ∧ isL (txF v 0) = true) ∧ ¬ (isD (txF u (u.length - 1)) = true ∧ isD (txF v 0) = true)
theorem txF_lo {u v : List Int32} {j : Nat} (h : j < u.length) : txF (u ++ v) j = txF u j := by
  show (u ++ v).getD j 0 = u.getD j 0
  rw [List.getD_eq_getElem?_getD, List.getD_eq_getElem?_getD, List.getElem?_append_left h]
theorem txF_hi {u v : List Int32} {j : Nat} : txF (u ++ v) (u.length + j) = txF v j := by
  show (u ++ v).getD (u.length + j) 0 = v.getD j 0
  rw [List.getD_eq_getElem?_getD, List.getD_eq_getElem?_getD, List.getElem?_append_right (by omega), Nat.add_sub_cancel_left]
theorem runN_join {p : Int32 → Bool} {u v : List Int32} (h : 1 ≤ u.length → 1 ≤ v.length → ¬ (p (txF u (u.length - 1)) = true ∧ p (txF v 0) = true)) : ∀ k i, u.length - i = k + 1 → runN p (txF (u ++ v)) (u.length + v.length - i) i = runN p (txF u) (u.length - i) i := by
  intro k
  induction k with
  | zero =>
    intro i hi
    have hl : i + 1 = u.length := by omega
    rw [hi, show u.length + v.length - i = v.length + 1 by omega, runN, runN, txF_lo (by omega)]
    by_cases hp : p (txF u i) = true
    · rw [if_pos hp, if_pos hp]
      congr 1
      show _ = 0
      cases v with
      | nil => rfl
      | cons b v =>
        have hb : ¬ p (txF (b :: v) 0) = true := fun q => h (by omega) (by rw [List.length_cons]; omega) ⟨by rw [show u.length - 1 = i by omega]; exact hp, q⟩
        rw [List.length_cons, runN, if_neg]
        rw [hl]
        have := txF_hi (u := u) (v := b :: v) (j := 0)
        rw [Nat.add_zero] at this
        rw [this]
        exact hb
    · rw [if_neg hp, if_neg hp]
  | succ k ih =>
    intro i hi
    have := ih (i + 1) (by omega)
    rw [hi, show u.length + v.length - i = (u.length + v.length - (i + 1)) + 1 by omega, runN, runN, txF_lo (by omega), this, show u.length - (i + 1) = k + 1 by omega]
theorem tkP_join {u v : List Int32} (h : ClB u v) {i : Nat} (hi : i < u.length) : tkP (txF (u ++ v)) (u.length + v.length) i = tkP (txF u) u.length i := by
  unfold tkP
  rw [txF_lo hi, runN_join (fun a b => (h a b).1) (u.length - i - 1) i (by omega), runN_join (fun a b => (h a b).2) (u.length - i - 1) i (by omega)]
theorem lexF_join {u v : List Int32} (h : ClB u v) : ∀ k i, u.length - i ≤ k → i ≤ u.length → lexF (txF (u ++ v)) (u.length + v.length) (u.length + v.length - i) i = lexF (txF u) u.length (u.length - i) i ++ (lexF (txF v) v.length v.length 0).map (shx u.length) := by
  intro k
  induction k with
  | zero =>
    intro i h1 h2
    have : i = u.length := by omega
    subst this
    rw [Nat.sub_self, Nat.add_sub_cancel_left]
    exact lexF_shf (T := txF (u ++ v)) (fun j => txF_hi) v.length 0
  | succ k ih =>
    intro i h1 h2
    by_cases hi : i = u.length
    · exact ih i (by omega) h2
    · have hi : i < u.length := by omega
      have hp := tkP_pos (t := txF u) (n := u.length) (i := i) hi
      rw [lexF_step hi, lexF_step (show i < u.length + v.length by omega), txF_lo hi, tkP_join h hi]
      by_cases hB : isB (txF u i) = true
      · rw [if_pos hB, if_pos hB]
        exact ih (i + 1) (by omega) (by omega)
      · rw [if_neg hB, if_neg hB, ih _ (by omega) (by omega)]
        rfl
/-- the tokens of a text, END not -/
def toks (l : List Int32) : List (Nat × Nat × Nat) := lexF (txF l) l.length l.length 0
/-- of each its KIND and its bytes -/
def tkx (l : List Int32) : List (Nat × List Int32) := (toks l).map (fun x => (x.1, tkBs (txF l) x))
theorem lexL_toks {l : List Int32} : lexL l = toks l ++ [(10, l.length, 0)] := rfl
theorem lexF_bd {t : Nat → Int32} {n : Nat} : ∀ f i, ∀ x ∈ lexF t n f i, i ≤ x.2.1 ∧ 1 ≤ x.2.2 ∧ x.2.1 + x.2.2 ≤ n ∧ x.2.2 ≤ 8
  | 0, i, x, hx => by cases hx
  | f + 1, i, x, hx => by
    rw [lexF] at hx
    by_cases h : n ≤ i
    · rw [if_pos h] at hx
      cases hx
    · rw [if_neg h] at hx
      have hp := tkP_pos (t := t) (n := n) (i := i) (by omega)
      by_cases hB : isB (t i) = true
      · rw [if_pos hB] at hx
        have := lexF_bd f (i + 1) x hx
        exact ⟨by omega, this.2.1, this.2.2⟩
      · rw [if_neg hB] at hx
        rcases List.mem_cons.mp hx with rfl | hx
        · exact ⟨Nat.le_refl _, hp.1, hp.2.1, hp.2.2⟩
        · have := lexF_bd f _ x hx
          exact ⟨by omega, this.2.1, this.2.2⟩
theorem toks_join {u v : List Int32} (h : ClB u v) : toks (u ++ v) = toks u ++ (toks v).map (shx u.length) := by
  have := lexF_join h u.length 0 (by omega) (by omega)
  rw [Nat.sub_zero, Nat.sub_zero] at this
  unfold toks
  rw [List.length_append]
  exact this
theorem tkBs_cg {t t' : Nat → Int32} {x y : Nat × Nat × Nat} (hw : x.2.2 = y.2.2) (h : ∀ j, j < x.2.2 → t (x.2.1 + j) = t' (y.2.1 + j)) : tkBs t x = tkBs t' y := by
  unfold tkBs
  rw [← hw]
  refine List.map_congr_left (fun j hj => ?_)
  exact h j (List.mem_range.mp hj)
theorem tkx_join {u v : List Int32} (h : ClB u v) : tkx (u ++ v) = tkx u ++ tkx v := by
  unfold tkx
  rw [toks_join h, List.map_append, List.map_map]
  congr 1
  · refine List.map_congr_left (fun x hx => ?_)
    have := lexF_bd _ _ x hx
    rw [tkBs_cg (t := txF (u ++ v)) (t' := txF u) (y := x) rfl (fun j hj => txF_lo (by omega))]
  · refine List.map_congr_left (fun x hx => ?_)
    show (x.1, tkBs (txF (u ++ v)) (shx u.length x)) = _
    rw [tkBs_cg (t := txF (u ++ v)) (t' := txF v) (x := shx u.length x) (y := x) rfl (fun j hj => by
      show txF (u ++ v) (u.length + x.2.1 + j) = _
      rw [Nat.add_assoc, txF_hi])]
/-- a text cut where a token ends, or ahead of one: A ends not behind the place, none of it is BAD; B begins not ahead of it -/
theorem runN_cut {p : Int32 → Bool} {l : List Int32} {q i : Nat} (hq : q ≤ l.length) (h : i + runN p (txF l) (l.length - i) i ≤ q) (hi : i ≤ q) : runN p (txF (l.take q)) (q - i) i = runN p (txF l) (l.length - i) i := by
  rw [← runN_fu (l.length - i) (q - i) i (by omega) (by omega)]
  refine runN_cg _ _ (fun j h1 h2 => ?_)
  show (l.take q).getD j 0 = l.getD j 0
  rw [List.getD_eq_getElem?_getD, List.getD_eq_getElem?_getD, List.getElem?_take_of_lt (by omega)]
theorem txF_take {l : List Int32} {q j : Nat} (h : j < q) : txF (l.take q) j = txF l j := by
  show (l.take q).getD j 0 = l.getD j 0
  rw [List.getD_eq_getElem?_getD, List.getD_eq_getElem?_getD, List.getElem?_take_of_lt h]
theorem txF_drop {l : List Int32} {q j : Nat} : txF (l.drop q) j = txF l (q + j) := by
  show (l.drop q).getD j 0 = l.getD (q + j) 0
  rw [List.getD_eq_getElem?_getD, List.getD_eq_getElem?_getD, List.getElem?_drop]
theorem tkP_cut {l : List Int32} {q i : Nat} (hq : q ≤ l.length) (hi : i < q) (h : i + (tkP (txF l) l.length i).2 ≤ q) (hb : (tkP (txF l) l.length i).1 ≠ 11) : tkP (txF (l.take q)) q i = tkP (txF l) l.length i := by
  unfold tkP at h hb ⊢
  rw [txF_take hi]
  by_cases hL : isL (txF l i) = true
  · rw [if_pos hL] at h hb ⊢
    rw [if_pos hL]
    by_cases h8 : 8 < runN isL (txF l) (l.length - i) i
    · rw [if_pos h8] at hb
      exact absurd rfl hb
    · rw [if_neg h8] at h
      rw [runN_cut hq h (by omega)]
  · rw [if_neg hL] at h hb ⊢
    rw [if_neg hL]
    by_cases hD : isD (txF l i) = true
    · rw [if_pos hD] at h hb ⊢
      rw [if_pos hD]
      by_cases h8 : 4 < runN isD (txF l) (l.length - i) i
      · rw [if_pos h8] at hb
        exact absurd rfl hb
      · rw [if_neg h8] at h
        rw [runN_cut hq h (by omega)]
    · rw [if_neg hD, if_neg hD]
theorem lexF_cut {l : List Int32} {q : Nat} (hq : q ≤ l.length) : ∀ k i, q - i ≤ k → i ≤ q → ∀ A B : List (Nat × Nat × Nat), lexF (txF l) l.length (l.length - i) i = A ++ B → (∀ x ∈ A, x.2.1 + x.2.2 ≤ q ∧ x.1 ≠ 11) → (∀ y ∈ B, q ≤ y.2.1) →
    lexF (txF (l.take q)) q (q - i) i = A ∧ lexF (txF l) l.length (l.length - q) q = B := by
  intro k
  induction k with
  | zero =>
    intro i h1 h2 A B e hA hB
    have : i = q := by omega
    subst this
    have hn : A = [] := by
      cases A with
      | nil => rfl
      | cons x A =>
        have hx := lexF_bd _ _ x (e ▸ List.mem_append_left _ (List.mem_cons_self ..))
        have := hA x (List.mem_cons_self ..)
        omega
    subst hn
    rw [Nat.sub_self]
    exact ⟨rfl, e⟩
  | succ k ih =>
    intro i h1 h2 A B e hA hB
    by_cases hi : i = q
    · exact ih i (by omega) h2 A B e hA hB
    · have hi : i < q := by omega
      have hp := tkP_pos (t := txF l) (n := l.length) (i := i) (by omega)
      rw [lexF_step (show i < l.length by omega)] at e
      by_cases hbl : isB (txF l i) = true
      · rw [if_pos hbl] at e
        obtain ⟨r1, r2⟩ := ih (i + 1) (by omega) (by omega) A B e hA hB
        refine ⟨?_, r2⟩
        rw [lexF_step hi, txF_take hi, if_pos hbl]
        exact r1
      · rw [if_neg hbl] at e
        cases A with
        | nil =>
          have := hB _ (e ▸ List.mem_cons_self ..)
          dsimp only at this
          omega
        | cons x A =>
          have e1 : ((tkP (txF l) l.length i).1, i, (tkP (txF l) l.length i).2) = x := (List.cons.inj e).1
          have e2 := (List.cons.inj e).2
          have hx := hA x (List.mem_cons_self ..)
          rw [← e1] at hx
          dsimp only at hx
          obtain ⟨r1, r2⟩ := ih _ (by omega) hx.1 A B e2 (fun z hz => hA z (List.mem_cons_of_mem _ hz)) hB
          refine ⟨?_, r2⟩
          rw [lexF_step hi, txF_take hi, if_neg hbl, tkP_cut hq hi hx.1 hx.2, r1, e1]
theorem toks_cut {l : List Int32} {q : Nat} {A B : List (Nat × Nat × Nat)} (hq : q ≤ l.length) (e : toks l = A ++ B) (hA : ∀ x ∈ A, x.2.1 + x.2.2 ≤ q ∧ x.1 ≠ 11) (hB : ∀ y ∈ B, q ≤ y.2.1) : toks (l.take q) = A ∧ (toks (l.drop q)).map (shx q) = B := by
  obtain ⟨r1, r2⟩ := lexF_cut hq q 0 (by omega) (by omega) A B (by rw [Nat.sub_zero]; exact e) hA hB
  constructor
  · unfold toks
    rw [List.length_take, Nat.min_eq_left hq]
    rw [Nat.sub_zero] at r1
    exact r1
  · have := lexF_shf (T := txF l) (t := txF (l.drop q)) (a := q) (n := l.length - q) (fun j => txF_drop.symm) (l.length - q) 0
    rw [show q + (l.length - q) = l.length by omega, Nat.add_zero, r2] at this
    unfold toks
    rw [List.length_drop]
    exact this.symm
def tkB (l : List Int32) (x : Nat × Nat × Nat) : Nat × List Int32 := (x.1, tkBs (txF l) x)
theorem tkx_cut {l : List Int32} {q : Nat} {A B : List (Nat × Nat × Nat)} (hq : q ≤ l.length) (e : toks l = A ++ B) (hA : ∀ x ∈ A, x.2.1 + x.2.2 ≤ q ∧ x.1 ≠ 11) (hB : ∀ y ∈ B, q ≤ y.2.1) : tkx (l.take q) = A.map (tkB l) ∧ tkx (l.drop q) = B.map (tkB l) := by
  obtain ⟨r1, r2⟩ := toks_cut hq e hA hB
  unfold tkx
  constructor
  · rw [r1]
    refine List.map_congr_left (fun x hx => ?_)
    have := hA x hx
    show (x.1, tkBs (txF (l.take q)) x) = (x.1, tkBs (txF l) x)
    rw [tkBs_cg (t := txF (l.take q)) (t' := txF l) (y := x) rfl (fun j hj => txF_take (by omega))]
  · rw [← r2, List.map_map]
    refine List.map_congr_left (fun x hx => ?_)
    show (x.1, tkBs (txF (l.drop q)) x) = (x.1, tkBs (txF l) (shx q x))
    rw [tkBs_cg (t := txF (l.drop q)) (t' := txF l) (x := x) (y := shx q x) rfl (fun j hj => by
      rw [txF_drop, ← Nat.add_assoc]
      rfl)]
/-- the last byte of a text is blank or a token's last -/
theorem toks_last {l : List Int32} (h : 1 ≤ l.length) : isB (txF l (l.length - 1)) = true ∨ ∃ x ∈ toks l, x.2.1 + x.2.2 = l.length := by
  have key : ∀ k i, l.length - i = k + 1 → isB (txF l (l.length - 1)) = true ∨ ∃ x ∈ lexF (txF l) l.length (l.length - i) i, x.2.1 + x.2.2 = l.length := by
    intro k
    induction k using Nat.strongRecOn with
    | ind k ih =>
      intro i hi
      have hp := tkP_pos (t := txF l) (n := l.length) (i := i) (by omega)
      rw [lexF_step (show i < l.length by omega)]
      by_cases hB : isB (txF l i) = true
      · rw [if_pos hB]
        by_cases h1 : i + 1 = l.length
        · left
          rw [show l.length - 1 = i by omega]
          exact hB
        · exact ih (k - 1) (by omega) (i + 1) (by omega)
      · rw [if_neg hB]
        by_cases h1 : i + (tkP (txF l) l.length i).2 = l.length
        · exact .inr ⟨_, List.mem_cons_self .., h1⟩
        · rcases ih (l.length - (i + (tkP (txF l) l.length i).2) - 1) (by omega) (i + (tkP (txF l) l.length i).2) (by omega) with h | ⟨x, hx, e⟩
          · exact .inl h
          · exact .inr ⟨x, List.mem_cons_of_mem _ hx, e⟩
  have := key (l.length - 1) 0 (by omega)
  rw [Nat.sub_zero] at this
  exact this
/-! ===== a good TEXT, told by its tokens' KINDS and bytes ===== -/
def tvX (p : Nat × List Int32) : TkV := (p.1, isV (bsF p.2) (p.1, 0, p.2.length), zi (natV 10 (fun j => dg 48 (bsF p.2 j)) p.2.length))
def ndX (N : Nat → Nd) (z : Nat) : Nat × List Int32 := (ndK (N z), ndY (N z))
def kdsL (l : List Int32) : List Nat := (toks l).map (fun x => x.1)
theorem kds_tkx {l : List Int32} : (tkx l).map (fun p => p.1) = kdsL l := by
  unfold tkx kdsL
  rw [List.map_map]
  rfl
theorem yl_tkx {m : Nat} {N : Nat → Nd} {y : Mo} (o : MoOk m N y) : (yl N (moR y)).map (ndX N) = tkx (moG y) := by
  obtain ⟨-, oG, -, oR, oK⟩ := o
  obtain ⟨-, -, hy, -⟩ := oR
  have hl : (lexL (moG y)).length - 1 = (toks (moG y)).length := by
    rw [lexL_toks, List.length_append]
    rfl
  rw [hy, List.map_map, hl]
  unfold tkx
  apply List.ext_getElem?
  intro i
  rw [List.getElem?_map, List.getElem?_map]
  by_cases hi : i < (toks (moG y)).length
  · have e := List.getElem?_eq_getElem hi
    have e2 : (lexL (moG y))[i]? = some ((toks (moG y))[i]) := by
      rw [lexL_toks, List.getElem?_append_left hi, e]
    have := oK i _ e2
    rw [List.getElem?_range hi, e]
    show some (ndK (N (moO y i)), ndY (N (moO y i))) = some ((toks (moG y))[i].1, tkBs (txF (moG y)) (toks (moG y))[i])
    rw [this.1, this.2]
  · rw [List.getElem?_eq_none (by rw [List.length_range]; omega), List.getElem?_eq_none (by omega)]
    rfl
theorem tvs_tkx {m : Nat} {N : Nat → Nd} {y : Mo} (o : MoOk m N y) : tvs N (moR y) = (tkx (moG y)).map tvX := by
  rw [← yl_tkx o, List.map_map]
  rfl
/-- a good TEXT read from its first token on -/
theorem rd_good {m : Nat} {N : Nat → Nd} {y : Mo} (hN : NdOk m N) (o : MoOk m N y) : vmL ((tkx (moG y)).map tvX) (0, 0, [], va0, 0, []) = some (0, 0, [], va0, 0, stVz N (moR y)) := by
  rw [← tvs_tkx o]
  have := (vm_nd hN (moR y) o.2.2.2.1.1).2.2.2 (.inr o.2.2.2.1.2.1) 0 []
  rw [List.nil_append] at this
  exact this
theorem au_good {m : Nat} {N : Nat → Nd} {y : Mo} (hN : NdOk m N) (o : MoOk m N y) : auL (kdsL (moG y)) (0, 0, 0) = some (0, 0, 0) := by
  have h := (vmL_au (l := (tkx (moG y)).map tvX) (s := (0, 0, [], va0, 0, [])) (vmW_lo (by decide))).1
  rw [rd_good hN o, List.map_map] at h
  have e : (tkx (moG y)).map ((fun t : TkV => t.1) ∘ tvX) = kdsL (moG y) := kds_tkx
  rw [e] at h
  exact h.symm
theorem auN_o {s s' : AuZ} {y : Nat} (h : auN s y = some s') (h0 : s.1 ≤ 1 → s.2.2 = 0) : s'.1 ≤ 1 → s'.2.2 = 0 := by
  unfold auN at h
  by_cases s0 : s.1 = 0
  · rw [if_pos s0] at h
    have ho := h0 (by omega)
    by_cases y0 : y = 0
    · rw [if_pos y0] at h
      cases h
      exact fun _ => ho
    rw [if_neg y0] at h
    by_cases y8 : y = 8
    · rw [if_pos y8] at h
      cases h
      exact fun _ => ho
    rw [if_neg y8] at h
    by_cases y9 : y = 9 ∧ 0 < s.2.1
    · rw [if_pos y9] at h
      cases h
      exact fun _ => ho
    · rw [if_neg y9] at h
      cases h
  rw [if_neg s0] at h
  by_cases s1 : s.1 = 1
  · rw [if_pos s1] at h
    by_cases y2 : y = 2
    · rw [if_pos y2] at h
      cases h
      exact fun q => absurd (show (2 : Nat) ≤ 1 from q) (by decide)
    · rw [if_neg y2] at h
      cases h
  rw [if_neg s1] at h
  by_cases s2 : s.1 = 2
  · rw [if_pos s2] at h
    by_cases y6 : y = 6
    · rw [if_pos y6] at h
      cases h
      exact fun q => absurd (show (2 : Nat) ≤ 1 from q) (by decide)
    rw [if_neg y6] at h
    by_cases y1 : y < 2
    · rw [if_pos y1] at h
      cases h
      exact fun q => absurd (show (3 : Nat) ≤ 1 from q) (by decide)
    · rw [if_neg y1] at h
      cases h
  rw [if_neg s2] at h
  by_cases y4 : y = 4 ∨ y = 5
  · rw [if_pos y4] at h
    cases h
    exact fun q => absurd (show (2 : Nat) ≤ 1 from q) (by decide)
  rw [if_neg y4] at h
  by_cases y7 : y = 7 ∧ 0 < s.2.2
  · rw [if_pos y7] at h
    cases h
    exact fun q => absurd (show (3 : Nat) ≤ 1 from q) (by decide)
  rw [if_neg y7] at h
  by_cases y3 : y = 3 ∧ s.2.2 = 0
  · rw [if_pos y3] at h
    cases h
    exact fun _ => rfl
  · rw [if_neg y3] at h
    cases h
theorem auL_o : ∀ {l : List Nat} {s s' : AuZ}, auL l s = some s' → (s.1 ≤ 1 → s.2.2 = 0) → s'.1 ≤ 1 → s'.2.2 = 0
  | [], s, s', h, h0 => by
    cases h
    exact h0
  | y :: l, s, s', h, h0 => by
    have h : (auN s y).bind (auL l) = some s' := h
    cases ha : auN s y with
    | none =>
      rw [ha] at h
      cases h
    | some s1 =>
      rw [ha] at h
      exact auL_o h (auN_o ha h0)
theorem toks_kd {l : List Int32} (h : ∀ j, j < l.length → byt (txF l j)) : ∀ x ∈ toks l, x.1 < 12 ∧ x.1 ≠ 10 := fun x hx => by
  obtain ⟨a, b, -⟩ := lexF_ok h _ _ x hx
  exact ⟨a.1, b⟩
theorem kds_ne {l : List Int32} (h : ∀ j, j < l.length → byt (txF l j)) : ∀ k ∈ kdsL l, k < 12 ∧ k ≠ 10 := fun k hk => by
  obtain ⟨x, hx, e⟩ := List.mem_map.mp hk
  rw [← e]
  exact toks_kd h x hx
theorem kds_lex {l : List Int32} : (lexL l).map (fun x => x.1) = kdsL l ++ [10] := by
  rw [lexL_toks, List.map_append]
  rfl
theorem auA_kds {l : List Int32} (h : ∀ j, j < l.length → byt (txF l j)) : auA (kdsL l ++ [10]) (0, 0, 0) = true ↔ auL (kdsL l) (0, 0, 0) = some (0, 0, 0) := by
  rw [auA_app (fun y hy => (kds_ne h y hy).2)]
  cases ha : auL (kdsL l) (0, 0, 0) with
  | none => exact ⟨fun q => (by cases q), fun q => (by cases q)⟩
  | some s' =>
    have ho := auL_o ha (fun _ => rfl)
    obtain ⟨n, b, o⟩ := s'
    dsimp only at ho ⊢
    show (if (10 : Nat) = 10 then decide (n = 0 ∧ b = 0) else _) = true ↔ _
    rw [if_pos rfl]
    constructor
    · intro q
      obtain ⟨q1, q2⟩ := of_decide_eq_true q
      subst q1
      subst q2
      have := ho (by decide)
      subst this
      rfl
    · intro q
      cases q
      rfl
theorem kdF_kds {l : List (Nat × Nat × Nat)} {i : Nat} (h : i < l.length) : (l.map (fun x => x.1))[i]? = some (kdF l i) := by
  rw [List.getElem?_map, List.getElem?_eq_getElem h]
  unfold kdF
  rw [List.getD_eq_getElem?_getD, List.getElem?_eq_getElem h]
  rfl
/-- what the STATES let through grows from nothing -/
theorem acc_lr {d : List Int32} (hd : txOk d) (h : auA ((lexL d).map (fun x => x.1)) (0, 0, 0) = true) : LrAcc (lexL d) := by
  have hx := lex_lxo hd
  have hk : ∀ y ∈ (lexL d).map (fun x => x.1), y < 12 := fun y hy => by
    obtain ⟨x, q, e⟩ := List.mem_map.mp hy
    rw [← e]
    exact (hx.1 x q).1
  have hW : KdL ((lexL d).map (fun x => x.1)) := fun j y hj => by
    rw [List.getElem?_map] at hj
    cases hq : (lexL d)[j]? with
    | none =>
      rw [hq] at hj
      cases hj
    | some x =>
      rw [hq] at hj
      cases hj
      rw [List.length_map]
      exact ⟨(hx.1 x (List.mem_of_getElem? hq)).1, hx.2.2.2 j x hq⟩
  have hne : (lexL d).map (fun x => x.1) ≠ [] := fun q => by
    have h0 := congrArg List.length q
    have h1 := hx.2.1
    rw [List.length_map] at h0
    rw [h0] at h1
    exact absurd h1 (by decide)
  obtain ⟨i, s, hi, hr, hn, hiff⟩ := run_w (kd := kdF (lexL d)) ((lexL d).map (fun x => x.1)) 0 0 [(0, 0)] LV.st0 hW (fun j y hj => by
    rw [Nat.zero_add]
    have hl : j < (lexL d).length := by
      have := (List.getElem?_eq_some_iff.mp hj).1
      rw [List.length_map] at this
      exact this
    rw [kdF_kds hl] at hj
    exact Option.some.inj hj) hne
  have hacc : acL ((lexL d).map (fun x => x.1)) [(0, 0)] = true := by
    rw [au_acL au_0 hk]
    exact h
  obtain ⟨e10, e1⟩ := hiff.mpr hacc
  rw [List.length_map] at hi
  have h10 : i + 1 = (lexL d).length := by
    rw [kdF_kds hi] at e10
    have hq := List.getElem?_eq_getElem hi
    refine (hx.2.2.2 i _ hq).mp ?_
    rw [← kdF_at hq]
    exact Option.some.inj e10
  rw [Nat.zero_add] at hr hn
  refine ⟨s, ?_, ?_, e1⟩
  · rw [← h10, Nat.add_sub_cancel]
    exact hr
  · rw [← h10, Nat.add_sub_cancel]
    exact hn
/-- a TEXT is good just if what may come next lets it through -/
theorem moB_iff {m : Nat} {N : Nat → Nd} {y : Mo} (hN : NdOk m N) (o : MoOk m N y) (l : MoL N y) : moB y = true ↔ auL (kdsL (moT y)) (0, 0, 0) = some (0, 0, 0) := by
  constructor
  · intro h
    rw [o.2.2.1 h]
    exact au_good hN o
  · intro h
    cases hb : moB y with
    | true => rfl
    | false =>
      refine absurd (acc_lr o.1 ?_) (l.2 hb)
      rw [kds_lex]
      exact (auA_kds o.1.2.1).mpr h
/-! ===== RUNS: the S of the TREE's L, one by one ===== -/
def tpF (N : Nat → Nd) : Nat → Nat → List Nat
  | 0, _ => []
  | d + 1, c => if ndR (N c) = 1 then tpF N d (chN (N c) 0) ++ [chN (N c) 1] else []
theorem tpF_fu {m : Nat} {N : Nat → Nd} (h : NdOk m N) : ∀ (d d' c : Nat), c < m → c < d → c < d' → tpF N d' c = tpF N d c
  | 0, _, c, _, h1, _ => by omega
  | _ + 1, 0, c, _, _, h2 => by omega
  | d + 1, d' + 1, c, hc, h1, h2 => by
    show (if ndR (N c) = 1 then tpF N d' (chN (N c) 0) ++ [chN (N c) 1] else []) = (if ndR (N c) = 1 then tpF N d (chN (N c) 0) ++ [chN (N c) 1] else [])
    by_cases r1 : ndR (N c) = 1
    · obtain ⟨-, -, z3⟩ := chN_is (k := 0) (y := 0) h hc (r := 1) r1 rfl
      rw [if_pos r1, if_pos r1, tpF_fu h d d' _ (by omega) (by omega) (by omega)]
    · rw [if_neg r1, if_neg r1]
def tpL (N : Nat → Nd) (c : Nat) : List Nat := tpF N (c + 1) c
theorem tpL_eq {m c : Nat} {N : Nat → Nd} (h : NdOk m N) (hc : c < m) : tpL N c = if ndR (N c) = 1 then tpL N (chN (N c) 0) ++ [chN (N c) 1] else [] := by
  show (if ndR (N c) = 1 then tpF N c (chN (N c) 0) ++ [chN (N c) 1] else []) = _
  by_cases r1 : ndR (N c) = 1
  · obtain ⟨-, -, z3⟩ := chN_is (k := 0) (y := 0) h hc (r := 1) r1 rfl
    rw [if_pos r1, if_pos r1, tpF_fu h _ _ _ (by omega) (Nat.lt_succ_self _) z3]
    rfl
  · rw [if_neg r1, if_neg r1]
/-- an L's RULE -/
theorem L_rule {m c : Nat} {N : Nat → Nd} (h : NdOk m N) (hc : c < m) (h0 : ndM (N c) = 0) : (ndR (N c) = 0 ∧ ndC (N c) = []) ∨ (ndR (N c) = 1 ∧ ndC (N c) = [chN (N c) 0, chN (N c) 1] ∧ ndM (N (chN (N c) 0)) = 0 ∧ ndM (N (chN (N c) 1)) = 1 ∧ chN (N c) 0 < c ∧ chN (N c) 1 < c) := by
  rcases h c hc with ⟨e1, -⟩ | ⟨r, s, hr, -, e3, -⟩
  · unfold ndM at h0
    rw [if_pos (by omega)] at h0
    omega
  · have hM : syN r = 0 := by
      unfold ndM at h0
      rw [e3, if_neg (by omega)] at h0
      exact h0
    have hf : ∀ r, r < 11 → syN r = 0 → r = 0 ∨ r = 1 := by decide +kernel
    have hk := kidsL h hc e3
    rcases hf r hr hM with e | e <;> subst e
    · exact .inl ⟨e3, hk⟩
    · obtain ⟨-, a1, a2⟩ := chN_is (k := 0) (y := 0) h hc e3 rfl
      obtain ⟨-, b1, b2⟩ := chN_is (k := 1) (y := 1) h hc e3 rfl
      exact .inr ⟨e3, hk, a1, b1, a2, b2⟩
theorem tpL_is {m : Nat} {N : Nat → Nd} (h : NdOk m N) (c : Nat) : c < m → ndM (N c) = 0 → (∀ z ∈ tpL N c, z < c ∧ ndM (N z) = 1) ∧ yl N c = (tpL N c).flatMap (yl N) := by
  induction c using Nat.strongRecOn with
  | ind c ih =>
    intro hc h0
    rw [tpL_eq h hc, yl_eq h hc]
    rcases L_rule h hc h0 with ⟨r0, k0⟩ | ⟨r1, k1, a1, b1, a2, b2⟩
    · rw [if_neg (by omega), if_neg (by omega), k0]
      exact ⟨fun z hz => (by cases hz), rfl⟩
    · obtain ⟨i1, i2⟩ := ih _ a2 (by omega) a1
      rw [if_pos r1, if_neg (by omega), k1]
      refine ⟨fun z hz => ?_, ?_⟩
      · rcases List.mem_append.mp hz with q | q
        · have := i1 z q
          exact ⟨by omega, this.2⟩
        · rw [List.mem_singleton.mp q]
          exact ⟨b2, b1⟩
      · show yl N (chN (N c) 0) ++ (yl N (chN (N c) 1) ++ []) = _
        rw [List.flatMap_append, i2]
        rfl
theorem rnL_h {N : Nat → Nd} {F : List Fl} {d p : Nat} {x : Fl} (h : F[p]? = some x) : rnL N F (d + 1) p = if ndM (N x.1) = 1 then x.1 :: rnL N F d (p + x.2.2.2.2) else rnL N F d (p + 1) := by
  show (match F[p]? with
    | none => []
    | some x => if ndM (N x.1) = 1 then x.1 :: rnL N F d (p + x.2.2.2.2) else rnL N F d (p + 1)) = _
  rw [h]
theorem rnL_out {N : Nat → Nd} {F : List Fl} {p : Nat} (h : F.length ≤ p) : ∀ d, rnL N F d p = []
  | 0 => rfl
  | d + 1 => by
    show (match F[p]? with
      | none => []
      | some x => if ndM (N x.1) = 1 then x.1 :: rnL N F d (p + x.2.2.2.2) else rnL N F d (p + 1)) = _
    rw [List.getElem?_eq_none h]
theorem rnL_L {m : Nat} {N : Nat → Nd} {F : List Fl} (h : NdOk m N) (c : Nat) : c < m → ndM (N c) = 0 → ∀ q p t dep d : Nat, (∀ i, i < sz N c → F[p + i]? = (fl N c q p t dep)[i]?) → sz N c ≤ d → ∃ d', d ≤ d' + sz N c ∧ rnL N F d p = tpL N c ++ rnL N F d' (p + sz N c) := by
  induction c using Nat.strongRecOn with
  | ind c ih =>
    intro hc h0 q p t dep d hF hd
    have hs := sz_eq h hc
    have h1 := hF 0 (sz_pos h hc)
    rw [Nat.add_zero, fl_0 h hc] at h1
    obtain ⟨e, rfl⟩ : ∃ e, d = e + 1 := ⟨d - 1, by have := sz_pos h hc; omega⟩
    have hM : ndM (N (flH N c q t dep).1) = 0 := h0
    rw [rnL_h h1, if_neg (by omega), tpL_eq h hc]
    rcases L_rule h hc h0 with ⟨r0, k0⟩ | ⟨r1, k1, a1, b1, a2, b2⟩
    · rw [k0] at hs
      have hs : sz N c = 1 := hs
      rw [if_neg (by omega), hs]
      exact ⟨e, Nat.le_refl _, rfl⟩
    · rw [if_pos r1]
      rw [k1] at hs
      have hs : sz N c = 1 + (sz N (chN (N c) 0) + (sz N (chN (N c) 1) + 0)) := hs
      have h10 : (ndC (N c))[0]? = some (chN (N c) 0) := by rw [k1]; rfl
      have h11 : (ndC (N c))[1]? = some (chN (N c) 1) := by rw [k1]; rfl
      have t0 : szS N ((ndC (N c)).take 0) = 0 := by rw [k1]; rfl
      have t1 : szS N ((ndC (N c)).take 1) = sz N (chN (N c) 0) := szS_t1 h10
      have p1 := sz_pos h (show chN (N c) 1 < m by omega)
      obtain ⟨d1, g1, g2⟩ := ih _ a2 (by omega) a1 p (p + 1) (t + tkS N ((ndC (N c)).take 0)) (dep + 1) e (fun i hi => by
        have := fl_put (q := q) (p := p) (t := t) (dep := dep) h hc h10 hi
        rw [t0] at this
        rw [Nat.add_assoc, ← this, hF _ (by omega)]) (by omega)
      rw [g2]
      obtain ⟨f, rfl⟩ : ∃ f, d1 = f + 1 := ⟨d1 - 1, by omega⟩
      have hx := fl_put (q := q) (p := p) (t := t) (dep := dep) h hc h11 p1
      rw [t1, Nat.add_zero, fl_0 h (show chN (N c) 1 < m by omega), ← hF _ (by omega), ← Nat.add_assoc] at hx
      have hM1 : ndM (N (flH N (chN (N c) 1) p (t + tkS N ((ndC (N c)).take 1)) (dep + 1)).1) = 1 := b1
      rw [rnL_h hx, if_pos hM1]
      refine ⟨f, by omega, ?_⟩
      show _ ++ chN (N c) 1 :: rnL N F f (p + 1 + sz N (chN (N c) 0) + sz N (chN (N c) 1)) = _
      rw [List.append_assoc, show p + 1 + sz N (chN (N c) 0) + sz N (chN (N c) 1) = p + sz N c by omega]
      rfl
/-- all RUNS -/
theorem runs_tp {m R n : Nat} {N : Nat → Nd} {og : Nat → Nat} (h : NdOk m N) (t : TreeI m N R n og) : runsOf N R = tpL N R := by
  have hf := t.few h
  obtain ⟨d', -, e⟩ := rnL_L (F := flR N R) h R t.1 t.2.1 0 0 0 1 400 (fun i _ => by
    rw [Nat.zero_add]
    rfl) (by omega)
  unfold runsOf
  rw [e, rnL_out (by
    rw [Nat.zero_add]
    exact Nat.le_of_eq (fl_len h R t.1 0 0 0 1)), List.append_nil]
/-! ===== how often nothing is open ===== -/
def tcL : List Nat → AuZ → Nat
  | [], _ => 0
  | y :: l, s => match auN s y with
    | some s' => (if s' = (0, 0, 0) then 1 else 0) + tcL l s'
    | none => 0
theorem tcL_cons {y : Nat} {l : List Nat} {s s' : AuZ} (h : auN s y = some s') : tcL (y :: l) s = (if s' = (0, 0, 0) then 1 else 0) + tcL l s' := by
  show (match auN s y with
    | some s' => (if s' = (0, 0, 0) then 1 else 0) + tcL l s'
    | none => 0) = _
  rw [h]
theorem tcL_app {v : List Nat} : ∀ {u : List Nat} {s s' : AuZ}, auL u s = some s' → tcL (u ++ v) s = tcL u s + tcL v s'
  | [], s, s', h => by
    cases h
    exact (Nat.zero_add _).symm
  | y :: u, s, s', h => by
    have h : (auN s y).bind (auL u) = some s' := h
    cases ha : auN s y with
    | none =>
      rw [ha] at h
      cases h
    | some s1 =>
      rw [ha] at h
      show tcL (y :: (u ++ v)) s = _
      rw [tcL_cons ha, tcL_cons ha, tcL_app (s := s1) (s' := s') h, Nat.add_assoc]
def kyN (N : Nat → Nd) (c : Nat) : List Nat := (tvs N c).map (fun t => t.1)
theorem auL_app2 {u v : List Nat} {s s' : AuZ} (h : auL u s = some s') : auL (u ++ v) s = auL v s' := by
  rw [auL_app, h]
  rfl
theorem auL_cons {y : Nat} {l : List Nat} {s s' : AuZ} (h : auN s y = some s') : auL (y :: l) s = auL l s' := by
  show (auN s y).bind (auL l) = _
  rw [h]
  rfl
def TcX (N : Nat → Nd) (c : Nat) : Prop := ∀ b o : Nat, auL (kyN N c) (2, b, o) = some (3, b, o) ∧ tcL (kyN N c) (2, b, o) = 0
def TcS (N : Nat → Nd) (c : Nat) : Prop := ∀ b : Nat, auL (kyN N c) (0, b, 0) = some (0, b, 0) ∧ tcL (kyN N c) (0, b, 0) = if b = 0 then 1 else 0
def TcY (N : Nat → Nd) (c : Nat) : Prop := ∀ b : Nat, auL (kyN N c) (0, b, 0) = some (0, b, 0) ∧ tcL (kyN N c) (0, b, 0) = if b = 0 then (tpL N c).length else 0
theorem kyN_rl {m c r : Nat} {N : Nat → Nd} (h : NdOk m N) (hc : c < m) (hr : ndR (N c) = (r : Int)) : kyN N c = ((List.range (rhS r).length).map (chN (N c))).flatMap (kyN N) := by
  unfold kyN
  rw [tvs_rl h hc hr]
  generalize (List.range (rhS r).length).map (chN (N c)) = l
  induction l with
  | nil => rfl
  | cons a l ih =>
    show (tvs N a ++ l.flatMap (tvs N)).map (fun t => t.1) = (tvs N a).map (fun t => t.1) ++ l.flatMap (fun c => (tvs N c).map (fun t => t.1))
    rw [List.map_append, ih]
theorem kyN_tk {m z k : Nat} {N : Nat → Nd} (h : NdOk m N) (hz : z < m) (hM : ndM (N z) = 5 + k) : kyN N z = [k] := by
  unfold kyN
  rw [tvs_tk h hz hM]
  rfl
theorem au_one {y : Nat} {s s' : AuZ} (h : auN s y = some s') (h0 : ¬ s' = (0, 0, 0)) {l : List Nat} {s2 : AuZ} {k : Nat} (hl : auL l s' = some s2 ∧ tcL l s' = k) : auL ([y] ++ l) s = some s2 ∧ tcL ([y] ++ l) s = k := by
  refine ⟨(auL_cons h).trans hl.1, ?_⟩
  show tcL (y :: l) s = k
  rw [tcL_cons h, if_neg h0, hl.2, Nat.zero_add]
theorem au_seg {u l : List Nat} {s s' s2 : AuZ} {k : Nat} (h : auL u s = some s' ∧ tcL u s = 0) (hl : auL l s' = some s2 ∧ tcL l s' = k) : auL (u ++ l) s = some s2 ∧ tcL (u ++ l) s = k :=
  ⟨(auL_app2 h.1).trans hl.1, by rw [tcL_app h.1, h.2, hl.2, Nat.zero_add]⟩
theorem au_nil {s : AuZ} : auL [] s = some s ∧ tcL [] s = 0 := ⟨rfl, rfl⟩
theorem ne_hi {n b o : Nat} (h : 0 < n) : ¬ ((n, b, o) : AuZ) = (0, 0, 0) := fun q => by
  have := congrArg Prod.fst q
  dsimp only at this
  omega
theorem tc_nd {m : Nat} {N : Nat → Nd} (h : NdOk m N) (c : Nat) : c < m → (ndM (N c) = 4 ∨ ndM (N c) = 3 ∨ ndM (N c) = 2 → TcX N c) ∧ (ndM (N c) = 1 → TcS N c) ∧ (ndM (N c) = 0 → TcY N c) := by
  induction c using Nat.strongRecOn with
  | ind c ih =>
    intro hc
    rcases h c hc with ⟨e1, -⟩ | ⟨r, s, hr, -, e3, -⟩
    · have : ndM (N c) = 5 + ndK (N c) := by
        unfold ndM
        rw [if_pos (by omega)]
      exact ⟨fun q => by omega, fun q => by omega, fun q => by omega⟩
    · have hM : ndM (N c) = syN r := by
        unfold ndM
        rw [e3, if_neg (by omega)]
        rfl
      have kid : ∀ k y : Nat, (rhS r)[k]? = some y → ndM (N (chN (N c) k)) = y ∧ chN (N c) k < c ∧ chN (N c) k < m := fun k y hk => by
        obtain ⟨-, a, b⟩ := chN_is h hc e3 hk
        exact ⟨a, b, by omega⟩
      have tk : ∀ k y : Nat, (rhS r)[k]? = some (5 + y) → kyN N (chN (N c) k) = [y] := fun k y hk => by
        obtain ⟨a, -, b⟩ := kid k _ hk
        exact kyN_tk h b a
      have kx : ∀ k y : Nat, (rhS r)[k]? = some y → (y = 4 ∨ y = 3 ∨ y = 2) → TcX N (chN (N c) k) := fun k y hk hy => by
        obtain ⟨a, b, d⟩ := kid k _ hk
        exact (ih _ b d).1 (by rw [a]; exact hy)
      have ht := kyN_rl h hc e3
      have h11 : r = 0 ∨ r = 1 ∨ r = 2 ∨ r = 3 ∨ r = 4 ∨ r = 5 ∨ r = 6 ∨ r = 7 ∨ r = 8 ∨ r = 9 ∨ r = 10 := by omega
      rcases h11 with e | e | e | e | e | e | e | e | e | e | e <;> subst e
      · have hS : syN 0 = 0 := by decide +kernel
        refine ⟨fun q => by omega, fun q => by omega, fun _ b => ?_⟩
        rw [ht, tpL_eq h hc, if_neg (show ¬ ndR (N c) = 1 by omega)]
        refine ⟨rfl, ?_⟩
        show 0 = if b = 0 then 0 else 0
        split <;> rfl
      · have hS : syN 1 = 0 := by decide +kernel
        refine ⟨fun q => by omega, fun q => by omega, fun _ b => ?_⟩
        obtain ⟨a1, a2, a3⟩ := kid 0 0 rfl
        obtain ⟨b1, b2, b3⟩ := kid 1 1 rfl
        obtain ⟨i1, i2⟩ := (ih _ a2 a3).2.2 a1 b
        obtain ⟨j1, j2⟩ := (ih _ b2 b3).2.1 b1 b
        rw [ht, tpL_eq h hc, if_pos (show ndR (N c) = 1 from e3)]
        show auL (kyN N (chN (N c) 0) ++ (kyN N (chN (N c) 1) ++ [])) _ = _ ∧ tcL (kyN N (chN (N c) 0) ++ (kyN N (chN (N c) 1) ++ [])) _ = _
        rw [List.append_nil, auL_app2 i1, tcL_app i1, i2, j2]
        refine ⟨j1, ?_⟩
        by_cases hb : b = 0
        · rw [if_pos hb, if_pos hb, if_pos hb, List.length_append]
          rfl
        · rw [if_neg hb, if_neg hb, if_neg hb]
      · have hS : syN 2 = 1 := by decide +kernel
        refine ⟨fun q => by omega, fun _ b => ?_, fun q => by omega⟩
        rw [ht]
        show auL (kyN N (chN (N c) 0) ++ (kyN N (chN (N c) 1) ++ (kyN N (chN (N c) 2) ++ (kyN N (chN (N c) 3) ++ [])))) _ = _ ∧ tcL (kyN N (chN (N c) 0) ++ (kyN N (chN (N c) 1) ++ (kyN N (chN (N c) 2) ++ (kyN N (chN (N c) 3) ++ [])))) _ = _
        rw [tk 0 0 rfl, tk 1 2 rfl, tk 3 3 rfl]
        refine au_one (s' := (1, b, 0)) rfl (ne_hi (by decide)) (au_one (s' := (2, b, 0)) rfl (ne_hi (by decide)) (au_seg (kx 2 2 rfl (.inr (.inr rfl)) b 0) ⟨rfl, ?_⟩))
        show tcL [3] (3, b, 0) = _
        rw [tcL_cons (s' := (0, b, 0)) rfl]
        show (if ((0, b, 0) : AuZ) = (0, 0, 0) then 1 else 0) + 0 = _
        by_cases hb : b = 0
        · rw [if_pos hb, if_pos (by rw [hb])]
        · rw [if_neg hb, if_neg (fun q => hb (congrArg (fun z : AuZ => z.2.1) q))]
      · have hS : syN 3 = 1 := by decide +kernel
        refine ⟨fun q => by omega, fun _ b => ?_, fun q => by omega⟩
        obtain ⟨a1, a2, a3⟩ := kid 1 0 rfl
        obtain ⟨i1, i2⟩ := (ih _ a2 a3).2.2 a1 (b + 1)
        rw [if_neg (Nat.succ_ne_zero b)] at i2
        rw [ht]
        show auL (kyN N (chN (N c) 0) ++ (kyN N (chN (N c) 1) ++ (kyN N (chN (N c) 2) ++ []))) _ = _ ∧ tcL (kyN N (chN (N c) 0) ++ (kyN N (chN (N c) 1) ++ (kyN N (chN (N c) 2) ++ []))) _ = _
        rw [tk 0 8 rfl, tk 2 9 rfl]
        have s9 : auN (0, b + 1, 0) 9 = some (0, b, 0) := by
          unfold auN
          dsimp only
          rw [if_pos rfl, if_neg (by decide), if_neg (by decide), if_pos ⟨rfl, Nat.succ_pos b⟩]
          rfl
        refine au_one (s' := (0, b + 1, 0)) rfl (fun q => absurd (congrArg (fun z : AuZ => z.2.1) q) (Nat.succ_ne_zero b)) (au_seg ⟨i1, i2⟩ ⟨(auL_cons s9).trans rfl, ?_⟩)
        show tcL [9] (0, b + 1, 0) = _
        rw [tcL_cons s9]
        show (if ((0, b, 0) : AuZ) = (0, 0, 0) then 1 else 0) + 0 = _
        by_cases hb : b = 0
        · rw [if_pos hb, if_pos (by rw [hb])]
        · rw [if_neg hb, if_neg (fun q => hb (congrArg (fun z : AuZ => z.2.1) q))]
      · have hS : syN 4 = 2 := by decide +kernel
        refine ⟨fun _ b o => ?_, fun q => by omega, fun q => by omega⟩
        rw [ht]
        show auL (kyN N (chN (N c) 0) ++ (kyN N (chN (N c) 1) ++ (kyN N (chN (N c) 2) ++ []))) _ = _ ∧ tcL (kyN N (chN (N c) 0) ++ (kyN N (chN (N c) 1) ++ (kyN N (chN (N c) 2) ++ []))) _ = _
        rw [tk 1 4 rfl]
        exact au_seg (kx 0 2 rfl (.inr (.inr rfl)) b o) (au_one (s' := (2, b, o)) rfl (ne_hi (by decide)) (au_seg (kx 2 3 rfl (.inr (.inl rfl)) b o) au_nil))
      · have hS : syN 5 = 2 := by decide +kernel
        refine ⟨fun _ b o => ?_, fun q => by omega, fun q => by omega⟩
        rw [ht]
        show auL (kyN N (chN (N c) 0) ++ []) _ = _ ∧ tcL (kyN N (chN (N c) 0) ++ []) _ = _
        exact au_seg (kx 0 3 rfl (.inr (.inl rfl)) b o) au_nil
      · have hS : syN 6 = 3 := by decide +kernel
        refine ⟨fun _ b o => ?_, fun q => by omega, fun q => by omega⟩
        rw [ht]
        show auL (kyN N (chN (N c) 0) ++ (kyN N (chN (N c) 1) ++ (kyN N (chN (N c) 2) ++ []))) _ = _ ∧ tcL (kyN N (chN (N c) 0) ++ (kyN N (chN (N c) 1) ++ (kyN N (chN (N c) 2) ++ []))) _ = _
        rw [tk 1 5 rfl]
        exact au_seg (kx 0 3 rfl (.inr (.inl rfl)) b o) (au_one (s' := (2, b, o)) rfl (ne_hi (by decide)) (au_seg (kx 2 4 rfl (.inl rfl) b o) au_nil))
      · have hS : syN 7 = 3 := by decide +kernel
        refine ⟨fun _ b o => ?_, fun q => by omega, fun q => by omega⟩
        rw [ht]
        show auL (kyN N (chN (N c) 0) ++ []) _ = _ ∧ tcL (kyN N (chN (N c) 0) ++ []) _ = _
        exact au_seg (kx 0 4 rfl (.inl rfl) b o) au_nil
      · have hS : syN 8 = 4 := by decide +kernel
        refine ⟨fun _ b o => ?_, fun q => by omega, fun q => by omega⟩
        rw [ht]
        show auL (kyN N (chN (N c) 0) ++ []) _ = _ ∧ tcL (kyN N (chN (N c) 0) ++ []) _ = _
        rw [tk 0 0 rfl]
        exact au_one (s' := (3, b, o)) rfl (ne_hi (by decide)) au_nil
      · have hS : syN 9 = 4 := by decide +kernel
        refine ⟨fun _ b o => ?_, fun q => by omega, fun q => by omega⟩
        rw [ht]
        show auL (kyN N (chN (N c) 0) ++ []) _ = _ ∧ tcL (kyN N (chN (N c) 0) ++ []) _ = _
        rw [tk 0 1 rfl]
        exact au_one (s' := (3, b, o)) rfl (ne_hi (by decide)) au_nil
      · have hS : syN 10 = 4 := by decide +kernel
        refine ⟨fun _ b o => ?_, fun q => by omega, fun q => by omega⟩
        rw [ht]
        show auL (kyN N (chN (N c) 0) ++ (kyN N (chN (N c) 1) ++ (kyN N (chN (N c) 2) ++ []))) _ = _ ∧ tcL (kyN N (chN (N c) 0) ++ (kyN N (chN (N c) 1) ++ (kyN N (chN (N c) 2) ++ []))) _ = _
        rw [tk 0 6 rfl, tk 2 7 rfl]
        have s7 : auN (3, b, o + 1) 7 = some (3, b, o) := by
          unfold auN
          dsimp only
          rw [if_neg (show ¬ (3 : Nat) = 0 by decide), if_neg (show ¬ (3 : Nat) = 1 by decide), if_neg (show ¬ (3 : Nat) = 2 by decide), if_neg (show ¬ ((7 : Nat) = 4 ∨ (7 : Nat) = 5) by decide), if_pos ⟨rfl, Nat.succ_pos o⟩]
          rfl
        exact au_one (s' := (2, b, o + 1)) rfl (ne_hi (by decide)) (au_seg (kx 1 2 rfl (.inr (.inr rfl)) b (o + 1)) (au_one s7 (ne_hi (by decide)) au_nil))
/-- of a good TEXT: how many RUNS -/
theorem tc_good {m : Nat} {N : Nat → Nd} {y : Mo} (hN : NdOk m N) (o : MoOk m N y) : tcL (kdsL (moG y)) (0, 0, 0) = (runsOf N (moR y)).length := by
  have e : kyN N (moR y) = kdsL (moG y) := by
    unfold kyN
    rw [tvs_tkx o, List.map_map]
    exact kds_tkx
  rw [← e, ((tc_nd hN (moR y) o.2.2.2.1.1).2.2 o.2.2.2.1.2.1 0).2, if_pos rfl, runs_tp hN o.2.2.2.1]
/-! ===== texts cut where RUNS begin and end ===== -/
theorem drp_tk {α : Type} {l : List α} {i j : Nat} : (l.take j).drop i = (l.drop i).take (j - i) := by
  apply List.ext_getElem?
  intro k
  rw [List.getElem?_drop]
  by_cases h : i + k < j
  · rw [List.getElem?_take_of_lt h, List.getElem?_take_of_lt (by omega), List.getElem?_drop]
  · rw [List.getElem?_eq_none (by rw [List.length_take]; omega), List.getElem?_eq_none (by rw [List.length_take]; omega)]
theorem mp_tk {α β : Type} {f : α → β} : ∀ {l : List α} {n : Nat}, (l.take n).map f = (l.map f).take n
  | _, 0 => by rw [List.take_zero, List.take_zero]; rfl
  | [], n + 1 => rfl
  | x :: l, n + 1 => by rw [List.take_succ_cons, List.map_cons, List.map_cons, List.take_succ_cons, mp_tk]
theorem mp_dr {α β : Type} {f : α → β} : ∀ {l : List α} {n : Nat}, (l.drop n).map f = (l.map f).drop n
  | _, 0 => by rw [List.drop_zero, List.drop_zero]
  | [], n + 1 => rfl
  | x :: l, n + 1 => by rw [List.drop_succ_cons, List.map_cons, List.drop_succ_cons, mp_dr]
/-- the last byte is of no NAME, no INT -/
def EnB (u : List Int32) : Prop := 1 ≤ u.length → isL (txF u (u.length - 1)) = false ∧ isD (txF u (u.length - 1)) = false
theorem EnB_cl {u : List Int32} (h : EnB u) (v : List Int32) : ClB u v := fun hu _ => by
  obtain ⟨a, b⟩ := h hu
  rw [a, b]
  exact ⟨fun q => (nomatch q.1), fun q => (nomatch q.1)⟩
theorem isB_no {b : Int32} (h : isB b = true) : isL b = false ∧ isD b = false := by
  by_cases h9 : b = 9
  · subst h9
    decide +kernel
  by_cases h10 : b = 10
  · subst h10
    decide +kernel
  by_cases h13 : b = 13
  · subst h13
    decide +kernel
  by_cases h32 : b = 32
  · subst h32
    decide +kernel
  unfold isB at h
  rw [decide_eq_false h9, decide_eq_false h10, decide_eq_false h13, decide_eq_false h32] at h
  cases h
theorem tkP_sign {t : Nat → Int32} {n i : Nat} (h0 : (tkP t n i).1 ≠ 0) (h1 : (tkP t n i).1 ≠ 1) (h11 : (tkP t n i).1 ≠ 11) : (tkP t n i).2 = 1 ∧ isL (t i) = false ∧ isD (t i) = false := by
  unfold tkP at h0 h1 h11 ⊢
  by_cases hL : isL (t i) = true
  · rw [if_pos hL] at h0 h11
    by_cases h8 : 8 < runN isL t (n - i) i
    · rw [if_pos h8] at h11
      exact absurd rfl h11
    · rw [if_neg h8] at h0
      exact absurd rfl h0
  · rw [if_neg hL] at h1 h11 ⊢
    by_cases hD : isD (t i) = true
    · rw [if_pos hD] at h1 h11
      by_cases h8 : 4 < runN isD t (n - i) i
      · rw [if_pos h8] at h11
        exact absurd rfl h11
      · rw [if_neg h8] at h1
        exact absurd rfl h1
    · rw [if_neg hD]
      exact ⟨rfl, Bool.eq_false_iff.mpr hL, Bool.eq_false_iff.mpr hD⟩
theorem lexF_sign {t : Nat → Int32} {n : Nat} : ∀ f i, ∀ x ∈ lexF t n f i, x.1 ≠ 0 → x.1 ≠ 1 → x.1 ≠ 11 → x.2.2 = 1 ∧ isL (t x.2.1) = false ∧ isD (t x.2.1) = false
  | 0, i, x, hx => by cases hx
  | f + 1, i, x, hx => by
    rw [lexF] at hx
    by_cases h : n ≤ i
    · rw [if_pos h] at hx
      cases hx
    · rw [if_neg h] at hx
      by_cases hB : isB (t i) = true
      · rw [if_pos hB] at hx
        exact lexF_sign f (i + 1) x hx
      · rw [if_neg hB] at hx
        rcases List.mem_cons.mp hx with rfl | hx
        · exact tkP_sign
        · exact lexF_sign f _ x hx
/-- tokens one behind the other -/
theorem lexF_srt {t : Nat → Int32} {n : Nat} : ∀ (f i a b : Nat) (x y : Nat × Nat × Nat), a < b → (lexF t n f i)[a]? = some x → (lexF t n f i)[b]? = some y → x.2.1 + x.2.2 ≤ y.2.1
  | 0, i, a, b, x, y, _, hx, _ => by cases hx
  | f + 1, i, a, b, x, y, hab, hx, hy => by
    rw [lexF] at hx hy
    by_cases h : n ≤ i
    · rw [if_pos h] at hx
      cases hx
    · rw [if_neg h] at hx hy
      by_cases hB : isB (t i) = true
      · rw [if_pos hB] at hx hy
        exact lexF_srt f (i + 1) a b x y hab hx hy
      · rw [if_neg hB] at hx hy
        obtain ⟨b, rfl⟩ : ∃ k, b = k + 1 := ⟨b - 1, by omega⟩
        rw [List.getElem?_cons_succ] at hy
        cases a with
        | zero =>
          rw [List.getElem?_cons_zero] at hx
          cases hx
          exact (lexF_bd f _ y (List.mem_of_getElem? hy)).1
        | succ a =>
          rw [List.getElem?_cons_succ] at hx
          exact lexF_srt f _ a b x y (by omega) hx hy
theorem toks_srt {l : List Int32} {a b : Nat} {x y : Nat × Nat × Nat} (h : a < b) (hx : (toks l)[a]? = some x) (hy : (toks l)[b]? = some y) : x.2.1 + x.2.2 ≤ y.2.1 := lexF_srt _ _ a b x y h hx hy
theorem toks_bd {l : List Int32} {x : Nat × Nat × Nat} (h : x ∈ toks l) : 1 ≤ x.2.2 ∧ x.2.1 + x.2.2 ≤ l.length := by
  have := lexF_bd _ _ x h
  exact ⟨this.2.1, this.2.2.1⟩
/-- a statement's end -/
theorem auN_to0 {s s' : AuZ} {y : Nat} (h : auN s y = some s') (h0 : s'.1 = 0) : y ≠ 0 ∧ y ≠ 1 ∧ y ≠ 11 := by
  unfold auN at h
  by_cases s0 : s.1 = 0
  · rw [if_pos s0] at h
    by_cases y0 : y = 0
    · rw [if_pos y0] at h
      cases h
      cases h0
    rw [if_neg y0] at h
    by_cases y8 : y = 8
    · omega
    rw [if_neg y8] at h
    by_cases y9 : y = 9 ∧ 0 < s.2.1
    · omega
    · rw [if_neg y9] at h
      cases h
  rw [if_neg s0] at h
  by_cases s1 : s.1 = 1
  · rw [if_pos s1] at h
    by_cases y2 : y = 2
    · omega
    · rw [if_neg y2] at h
      cases h
  rw [if_neg s1] at h
  by_cases s2 : s.1 = 2
  · rw [if_pos s2] at h
    by_cases y6 : y = 6
    · omega
    rw [if_neg y6] at h
    by_cases y1 : y < 2
    · rw [if_pos y1] at h
      cases h
      cases h0
    · rw [if_neg y1] at h
      cases h
  rw [if_neg s2] at h
  by_cases y4 : y = 4 ∨ y = 5
  · omega
  rw [if_neg y4] at h
  by_cases y7 : y = 7 ∧ 0 < s.2.2
  · omega
  rw [if_neg y7] at h
  by_cases y3 : y = 3 ∧ s.2.2 = 0
  · omega
  · rw [if_neg y3] at h
    cases h
theorem auL_last : ∀ {l : List Nat} {y : Nat} {s s' : AuZ}, auL (l ++ [y]) s = some s' → ∃ s1, auN s1 y = some s'
  | [], y, s, s', h => by
    have h : (auN s y).bind (auL []) = some s' := h
    cases ha : auN s y with
    | none =>
      rw [ha] at h
      cases h
    | some s1 =>
      rw [ha] at h
      cases h
      exact ⟨s, ha⟩
  | k :: l, y, s, s', h => by
    have h : (auN s k).bind (auL (l ++ [y])) = some s' := h
    cases ha : auN s k with
    | none =>
      rw [ha] at h
      cases h
    | some s1 =>
      rw [ha] at h
      exact auL_last h
/-- a text whose tokens end a statement -/
theorem EnB_of {u : List Int32} {s s' : AuZ} (h : auL (kdsL u) s = some s') (h0 : s'.1 = 0) : EnB u := fun hu => by
  rcases toks_last hu with hB | ⟨x, hx, e⟩
  · exact isB_no hB
  · obtain ⟨j, hj⟩ := List.mem_iff_getElem?.mp hx
    have hl : j + 1 = (toks u).length := by
      have hlt := (List.getElem?_eq_some_iff.mp hj).1
      refine Nat.le_antisymm hlt (Nat.le_of_not_lt (fun q => ?_))
      have h2 := List.getElem?_eq_getElem q
      have h3 := toks_srt (Nat.lt_succ_self j) hj h2
      have h4 := toks_bd (List.mem_of_getElem? h2)
      omega
    have hk : kdsL u = (kdsL u).take j ++ [x.1] := by
      have e1 : (kdsL u)[j]? = some x.1 := by
        unfold kdsL
        rw [List.getElem?_map, hj]
        rfl
      have e2 : (kdsL u).length = j + 1 := by
        unfold kdsL
        rw [List.length_map, hl]
      have e3 := List.take_append_drop j (kdsL u)
      rw [List.drop_eq_getElem_cons (by omega), List.drop_of_length_le (by omega)] at e3
      rw [List.getElem?_eq_getElem (by omega)] at e1
      rw [Option.some.inj e1] at e3
      exact e3.symm
    rw [hk] at h
    obtain ⟨s1, h1⟩ := auL_last h
    obtain ⟨k0, k1, k11⟩ := auN_to0 h1 h0
    obtain ⟨w1, a, b⟩ := lexF_sign _ _ x hx k0 k1 k11
    rw [show u.length - 1 = x.2.1 by omega]
    exact ⟨a, b⟩
theorem EnB_jn {u : List Int32} (h : EnB u) (v : List Int32) : tkx (u ++ v) = tkx u ++ tkx v := tkx_join (EnB_cl h v)
theorem kds_app {u v : List Int32} (h : tkx (u ++ v) = tkx u ++ tkx v) : kdsL (u ++ v) = kdsL u ++ kdsL v := by
  rw [← kds_tkx, ← kds_tkx, ← kds_tkx, h, List.map_append]
/-- no token of a good text is BAD -/
theorem auN_bad {s s' : AuZ} {y : Nat} (h : auN s y = some s') : y ≠ 11 := fun q => by
  subst q
  have h2 : auN s 11 = none := by
    unfold auN
    by_cases s0 : s.1 = 0
    · rw [if_pos s0, if_neg (by decide), if_neg (by decide), if_neg (fun q => absurd q.1 (by decide))]
    rw [if_neg s0]
    by_cases s1 : s.1 = 1
    · rw [if_pos s1, if_neg (by decide)]
    rw [if_neg s1]
    by_cases s2 : s.1 = 2
    · rw [if_pos s2, if_neg (by decide), if_neg (by decide)]
    rw [if_neg s2, if_neg (by decide), if_neg (fun q => absurd q.1 (by decide)), if_neg (fun q => absurd q.1 (by decide))]
  rw [h2] at h
  cases h
theorem auL_bad : ∀ {l : List Nat} {s s' : AuZ}, auL l s = some s' → ∀ y ∈ l, y ≠ 11
  | [], _, _, _, y, hy => by cases hy
  | k :: l, s, s', h, y, hy => by
    have h : (auN s k).bind (auL l) = some s' := h
    cases ha : auN s k with
    | none =>
      rw [ha] at h
      cases h
    | some s1 =>
      rw [ha] at h
      rcases List.mem_cons.mp hy with e | hy
      · rw [e]
        exact auN_bad ha
      · exact auL_bad h y hy
theorem kds_bad {l : List Int32} {s s' : AuZ} (h : auL (kdsL l) s = some s') : ∀ x ∈ toks l, x.1 ≠ 11 := fun x hx => auL_bad h x.1 (List.mem_map.mpr ⟨x, hx, rfl⟩)
/-! ===== a text between two of its tokens ===== -/
/-- the place where the f-th token begins; where the one ahead of the f-th ends -/
def tkS0 (l : List Int32) (f : Nat) : Nat := ((toks l).getD f (10, l.length, 0)).2.1
def tkE0 (l : List Int32) (f : Nat) : Nat := ((toks l).getD (f - 1) (10, l.length, 0)).2.1 + ((toks l).getD (f - 1) (10, l.length, 0)).2.2
/-- q lies between the f first tokens and the others -/
def BtwT (l : List Int32) (f q : Nat) : Prop := q ≤ l.length ∧ (∀ x ∈ (toks l).take f, x.2.1 + x.2.2 ≤ q) ∧ ∀ y ∈ (toks l).drop f, q ≤ y.2.1
theorem BtwT_s {l : List Int32} {f : Nat} (h : f < (toks l).length) : BtwT l f (tkS0 l f) := by
  have e := List.getElem?_eq_getElem h
  have e2 : tkS0 l f = ((toks l)[f]).2.1 := by
    unfold tkS0
    rw [List.getD_eq_getElem?_getD, e]
    rfl
  have hb := toks_bd (List.mem_of_getElem? e)
  rw [e2]
  refine ⟨by omega, fun x hx => ?_, fun y hy => ?_⟩
  · obtain ⟨j, hj⟩ := List.mem_iff_getElem?.mp hx
    have hlt := (List.getElem?_eq_some_iff.mp hj).1
    rw [List.length_take] at hlt
    rw [List.getElem?_take_of_lt (by omega)] at hj
    exact toks_srt (by omega) hj e
  · obtain ⟨j, hj⟩ := List.mem_iff_getElem?.mp hy
    rw [List.getElem?_drop] at hj
    by_cases h0 : j = 0
    · subst h0
      rw [Nat.add_zero, e] at hj
      cases hj
      exact Nat.le_refl _
    · have := toks_srt (show f < f + j by omega) e hj
      omega
theorem BtwT_e {l : List Int32} {f : Nat} (h1 : 1 ≤ f) (h : f ≤ (toks l).length) : BtwT l f (tkE0 l f) := by
  have e := List.getElem?_eq_getElem (show f - 1 < (toks l).length by omega)
  have e2 : tkE0 l f = ((toks l)[f - 1]).2.1 + ((toks l)[f - 1]).2.2 := by
    unfold tkE0
    rw [List.getD_eq_getElem?_getD, e]
    rfl
  have hb := toks_bd (List.mem_of_getElem? e)
  rw [e2]
  refine ⟨hb.2, fun x hx => ?_, fun y hy => ?_⟩
  · obtain ⟨j, hj⟩ := List.mem_iff_getElem?.mp hx
    have hlt := (List.getElem?_eq_some_iff.mp hj).1
    rw [List.length_take] at hlt
    rw [List.getElem?_take_of_lt (by omega)] at hj
    by_cases h0 : j = f - 1
    · subst h0
      rw [e] at hj
      cases hj
      exact Nat.le_refl _
    · have := toks_srt (show j < f - 1 by omega) hj e
      omega
  · obtain ⟨j, hj⟩ := List.mem_iff_getElem?.mp hy
    rw [List.getElem?_drop] at hj
    exact toks_srt (show f - 1 < f + j by omega) e hj
theorem tkx_at {l : List Int32} {f q : Nat} (hq : BtwT l f q) (hb : ∀ x ∈ toks l, x.1 ≠ 11) : tkx (l.take q) = (tkx l).take f ∧ tkx (l.drop q) = (tkx l).drop f := by
  obtain ⟨q1, q2, q3⟩ := hq
  obtain ⟨r1, r2⟩ := tkx_cut q1 (List.take_append_drop f (toks l)).symm (fun x hx => ⟨q2 x hx, hb x (List.mem_of_mem_take hx)⟩) q3
  have e : tkx l = (toks l).map (tkB l) := rfl
  rw [r1, r2, e, mp_tk, mp_dr]
  exact ⟨rfl, rfl⟩
theorem seg_0 {l : List Int32} {b : Nat} : seg l 0 b = l.take b := rfl
theorem seg_n {l : List Int32} {a : Nat} : seg l a l.length = l.drop a := by
  show (l.drop a).take (l.length - a) = l.drop a
  rw [List.take_of_length_le (by rw [List.length_drop]; exact Nat.le_refl _)]
theorem toks_tk {l : List Int32} {f q : Nat} (hq : BtwT l f q) (hb : ∀ x ∈ toks l, x.1 ≠ 11) : toks (l.take q) = (toks l).take f := by
  obtain ⟨q1, q2, q3⟩ := hq
  exact (toks_cut q1 (List.take_append_drop f (toks l)).symm (fun x hx => ⟨q2 x hx, hb x (List.mem_of_mem_take hx)⟩) q3).1
/-- between two places -/
theorem tkx_seg {l : List Int32} {f g p q : Nat} (hp : BtwT l f p) (hq : BtwT l g q) (hfg : f ≤ g) (hpq : p ≤ q) (hb : ∀ x ∈ toks l, x.1 ≠ 11) : tkx (seg l p q) = ((tkx l).take g).drop f := by
  have e : seg l p q = (l.take q).drop p := by
    unfold seg
    rw [drp_tk]
  have hT := toks_tk hq hb
  have hb2 : ∀ x ∈ toks (l.take q), x.1 ≠ 11 := fun x hx => hb x (List.mem_of_mem_take (hT ▸ hx))
  have hp2 : BtwT (l.take q) f p := by
    obtain ⟨p1, p2, p3⟩ := hp
    have := hq.1
    refine ⟨by rw [List.length_take]; omega, fun x hx => ?_, fun y hy => ?_⟩
    · rw [hT, List.take_take, Nat.min_eq_left hfg] at hx
      exact p2 x hx
    · rw [hT, drp_tk] at hy
      exact p3 y (List.mem_of_mem_take hy)
  rw [e, (tkx_at hp2 hb2).2, (tkx_at hq hb).1]
/-! ===== cut, twin, swap: good, and how many RUNS there are ===== -/
/-- what a good TEXT's RUNS are: the KINDS of each, one behind the other -/
theorem ky_runs {m : Nat} {N : Nat → Nd} {y : Mo} (hN : NdOk m N) (o : MoOk m N y) : kdsL (moG y) = (runsOf N (moR y)).flatMap (kyN N) ∧ ∀ z ∈ runsOf N (moR y), TcS N z ∧ z < m ∧ (kyN N z).length = ndT (N z) := by
  have hR := o.2.2.2.1.1
  obtain ⟨t1, t2⟩ := tpL_is hN (moR y) hR o.2.2.2.1.2.1
  rw [runs_tp hN o.2.2.2.1]
  refine ⟨?_, fun z hz => ?_⟩
  · rw [← kds_tkx, ← yl_tkx o, List.map_map, t2]
    generalize tpL N (moR y) = l
    induction l with
    | nil => rfl
    | cons a l ih =>
      rw [List.flatMap_cons, List.flatMap_cons, List.map_append, ih]
      congr 1
      unfold kyN tvs
      rw [List.map_map]
      rfl
  · have := t1 z hz
    have hz : z < m := by omega
    refine ⟨(tc_nd hN z hz).2.1 this.2, hz, ?_⟩
    unfold kyN tvs
    rw [List.length_map, List.length_map, yl_len hN z hz]
theorem ky_seg {N : Nat → Nd} : ∀ {l : List Nat}, (∀ z ∈ l, TcS N z) → auL (l.flatMap (kyN N)) (0, 0, 0) = some (0, 0, 0) ∧ tcL (l.flatMap (kyN N)) (0, 0, 0) = l.length
  | [], _ => ⟨rfl, rfl⟩
  | a :: l, h => by
    obtain ⟨a1, a2⟩ := h a (List.mem_cons_self ..) 0
    obtain ⟨i1, i2⟩ := ky_seg (l := l) (fun z hz => h z (List.mem_cons_of_mem _ hz))
    rw [List.flatMap_cons, auL_app2 a1, tcL_app a1, i1, i2, a2, if_pos rfl, List.length_cons, Nat.add_comm]
    exact ⟨rfl, rfl⟩
/-- where the i-th RUN's tokens begin, how many it has -/
theorem run_tk {x : Sg} (hv : Iv x) {i r : Nat} (hr : (rnR x)[i]? = some r) : fsR x i = (((rnR x).take i).flatMap (kyN (sgN x))).length ∧ lsR x i + 1 = fsR x i + (kyN (sgN x) r).length ∧ 1 ≤ (kyN (sgN x) r).length ∧ fsR x i + (kyN (sgN x) r).length ≤ (kdsL (moG (sgC x))).length := by
  obtain ⟨a1, a2, a3, a4, ⟨p, f, f1, f2, f3⟩, -⟩ := run_ok hv hr
  obtain ⟨hTp, hN, hu, hm, hTk, hP, hE, hC, hA, hZ, hAZ⟩ := id hv
  have hR := hC.2.2.2.1.1
  obtain ⟨t1, t2⟩ := tpL_is hN (moR (sgC x)) hR hC.2.2.2.1.2.1
  have hrn : rnR x = tpL (sgN x) (moR (sgC x)) := runs_tp hN hC.2.2.2.1
  obtain ⟨k1, k2⟩ := ky_runs hN hC
  have hkr := (k2 r (List.mem_of_getElem? hr)).2.2
  have hsum : ∀ l : List Nat, (∀ z ∈ l, z < sgM x) → (l.flatMap (kyN (sgN x))).length = (l.flatMap (yl (sgN x))).length := fun l hl => by
    induction l with
    | nil => rfl
    | cons a l ih =>
      rw [List.flatMap_cons, List.flatMap_cons, List.length_append, List.length_append, ih (fun z hz => hl z (List.mem_cons_of_mem _ hz))]
      congr 1
      unfold kyN tvs
      rw [List.length_map, List.length_map]
  have hlt : ∀ z ∈ rnR x, z < sgM x := fun z hz => (k2 z hz).2.1
  -- the place in the row of all tokens
  have hsp : yl (sgN x) (moR (sgC x)) = ((rnR x).take i).flatMap (yl (sgN x)) ++ (yl (sgN x) r ++ ((rnR x).drop (i + 1)).flatMap (yl (sgN x))) := by
    have e := List.take_append_drop i (rnR x)
    have hi := (List.getElem?_eq_some_iff.mp hr).1
    have e1 : (rnR x).drop i = r :: (rnR x).drop (i + 1) := by
      rw [List.drop_eq_getElem_cons hi]
      congr 1
      exact (List.getElem?_eq_some_iff.mp hr).2
    rw [t2, ← hrn, ← List.flatMap_cons, ← e1, ← List.flatMap_append, e]
  obtain ⟨-, -, o, o1, o2, o3, -⟩ := fl_in hN (moR (sgC x)) hR 0 0 0 1 p f f1
  rw [f2] at o1 o3
  have ho : o = fsR x i := by
    have e := congrArg (fun z : Fl => z.2.2.1) o2
    dsimp only [flH] at e
    rw [f3, f2, if_neg (by omega)] at e
    omega
  subst ho
  have hyl : (yl (sgN x) r).length = ndT (sgN x r) := yl_len hN r a1
  have hA1 : (yl (sgN x) (moR (sgC x)))[fsR x i]? = (yl (sgN x) r)[0]? := by
    rw [o3, List.getElem?_take_of_lt (by omega), List.getElem?_drop, Nat.add_zero]
  have hA2 : (yl (sgN x) (moR (sgC x)))[(((rnR x).take i).flatMap (yl (sgN x))).length]? = (yl (sgN x) r)[0]? := by
    rw [hsp, List.getElem?_append_right (Nat.le_refl _), Nat.sub_self, List.getElem?_append_left (by omega)]
  have hL := yl_len hN (moR (sgC x)) hR
  have hlen := congrArg List.length hsp
  rw [List.length_append, List.length_append] at hlen
  have heq : fsR x i = (((rnR x).take i).flatMap (yl (sgN x))).length := by
    obtain ⟨-, -, y1, y2, -⟩ := hC.2.2.2.1
    have hn : (yl (sgN x) (moR (sgC x))).length = (lexL (moG (sgC x))).length - 1 := by
      rw [y1, List.length_map, List.length_range]
    have g1 : fsR x i < (lexL (moG (sgC x))).length - 1 := by omega
    have g2 : (((rnR x).take i).flatMap (yl (sgN x))).length < (lexL (moG (sgC x))).length - 1 := by omega
    have h0 := hA1.trans hA2.symm
    rw [y1, List.getElem?_map, List.getElem?_map, List.getElem?_range g1, List.getElem?_range g2] at h0
    exact y2 _ _ (by omega) (by omega) (Option.some.inj h0)
  have hkd : (kdsL (moG (sgC x))).length = (lexL (moG (sgC x))).length - 1 := by
    unfold kdsL
    rw [List.length_map, lexL_toks, List.length_append]
    rfl
  refine ⟨?_, ?_, by omega, by omega⟩
  · rw [heq, hsum _ (fun z hz => hlt z (List.mem_of_mem_take hz))]
  · unfold lsR
    rw [a4]
    omega
abbrev Z0 : AuZ := (0, 0, 0)
theorem ap_cr {α : Type} {u v w : List α} (h : u ++ w = v ++ w) : u = v := by
  have hl := congrArg List.length h
  rw [List.length_append, List.length_append] at hl
  have e : ∀ k, k < u.length → u[k]? = v[k]? := fun k hk => by
    have := congrArg (fun z : List α => z[k]?) h
    have this : (u ++ w)[k]? = (v ++ w)[k]? := this
    rw [List.getElem?_append_left hk, List.getElem?_append_left (by omega)] at this
    exact this
  apply List.ext_getElem?
  intro k
  by_cases hk : k < u.length
  · exact e k hk
  · rw [List.getElem?_eq_none (by omega), List.getElem?_eq_none (by omega)]
theorem tk_l {α : Type} {v : List α} : ∀ {u : List α}, (u ++ v).take u.length = u
  | [] => List.take_zero
  | x :: u => by rw [List.cons_append, List.length_cons, List.take_succ_cons, tk_l]
theorem dr_l {α : Type} {v : List α} : ∀ {u : List α}, (u ++ v).drop u.length = v
  | [] => List.drop_zero
  | x :: u => by rw [List.cons_append, List.length_cons, List.drop_succ_cons, dr_l]
/-- what an EDIT tells, and what it leaves -/
theorem doC_is {x : Sg} {d : List Int32} {bt : Bool} (hv : Iv x) (hl : Lv x) (hd : BtL d) (he : sgE x < 512) (hr : ¬ refu x d) : moT (sgC (doC x d bt).2) = d ∧ (doC x d bt).1 = (if moB (sgC (doC x d bt).2) = true then 0 else 1) ∧ (moB (sgC (doC x d bt).2) = true ↔ auL (kdsL d) Z0 = some Z0) ∧ (moB (sgC (doC x d bt).2) = true → (rnR (doC x d bt).2).length = tcL (kdsL d) Z0) := by
  have hI := (doC_iv (bt := bt) hv hd he).1
  have hL := doC_lv (bt := bt) hv hd hl
  have e1 : moT (sgC (doC x d bt).2) = d ∧ (doC x d bt).1 = (if moB (sgC (doC x d bt).2) = true then 0 else 1) := by
    unfold doC
    rw [if_neg (show ¬ (300 < d.length ∨ 3000 ≤ sgM x ∨ 3900 ≤ (sgP x).length ∨ 100 < (lexL d).length) from hr)]
    show moT (newC x d) = d ∧ (if (regY x d).1 + 1 = (lexL d).length ∧ topS (regY x d).2.2.2.1 = 1 then (0 : Int32) else 1) = (if moB (newC x d) = true then 0 else 1)
    unfold newC
    by_cases hg : (regY x d).1 + 1 = (lexL d).length ∧ topS (regY x d).2.2.2.1 = 1
    · rw [if_pos hg, if_pos hg]
      exact ⟨rfl, rfl⟩
    · rw [if_neg hg, if_neg hg]
      exact ⟨rfl, rfl⟩
  obtain ⟨-, hN, -, -, -, -, -, hC, -⟩ := hI
  have h3 := moB_iff hN hC hL.1
  rw [e1.1] at h3
  refine ⟨e1.1, e1.2, h3, fun h => ?_⟩
  have := tc_good hN hC
  rw [← hC.2.2.1 h, e1.1] at this
  exact this.symm
theorem kds_at {l : List Int32} {f q : Nat} (hq : BtwT l f q) (hb : ∀ x ∈ toks l, x.1 ≠ 11) : kdsL (l.take q) = (kdsL l).take f ∧ kdsL (l.drop q) = (kdsL l).drop f := by
  obtain ⟨a, b⟩ := tkx_at hq hb
  rw [← kds_tkx, ← kds_tkx, ← kds_tkx, a, b, mp_tk, mp_dr]
  exact ⟨rfl, rfl⟩
theorem kds_seg {l : List Int32} {f g p q : Nat} (hp : BtwT l f p) (hq : BtwT l g q) (hfg : f ≤ g) (hpq : p ≤ q) (hb : ∀ x ∈ toks l, x.1 ≠ 11) : kdsL (seg l p q) = ((kdsL l).take g).drop f := by
  rw [← kds_tkx, ← kds_tkx, tkx_seg hp hq hfg hpq hb, mp_dr, mp_tk]
theorem tkG_is {x : Sg} {k : Nat} (h : k < (toks (moG (sgC x))).length) : tkG x k = (toks (moG (sgC x))).getD k (10, (moG (sgC x)).length, 0) := by
  unfold tkG
  rw [lexL_toks, List.getD_eq_getElem?_getD, List.getD_eq_getElem?_getD, List.getElem?_append_left h, List.getElem?_eq_getElem h]
  rfl
theorem kds_len {l : List Int32} : (kdsL l).length = (toks l).length := by
  unfold kdsL
  rw [List.length_map]
/-- a good TEXT around its i-th RUN -/
theorem run_kd {x : Sg} (hv : Iv x) (hb : moB (sgC x) = true) {i r : Nat} (hr : (rnR x)[i]? = some r) : ∃ U V W : List Nat, kdsL (moT (sgC x)) = U ++ (V ++ W) ∧
    (auL U Z0 = some Z0 ∧ tcL U Z0 = i) ∧ (auL V Z0 = some Z0 ∧ tcL V Z0 = 1) ∧ (auL W Z0 = some Z0 ∧ tcL W Z0 + i + 1 = (rnR x).length) ∧ (U.length = fsR x i ∧ 1 ≤ V.length ∧ lsR x i + 1 = U.length + V.length) ∧
    (V = kyN (sgN x) r ∧ W = ((rnR x).drop (i + 1)).flatMap (kyN (sgN x))) ∧
    BtwT (moT (sgC x)) U.length (rS x i) ∧ BtwT (moT (sgC x)) (U.length + V.length) (rE x i) ∧ rS x i ≤ rE x i ∧ ∀ z ∈ toks (moT (sgC x)), z.1 ≠ 11 := by
  obtain ⟨t1, t2, t3, t4⟩ := run_tk hv hr
  obtain ⟨-, -, -, -, -, w1, -⟩ := run_ok hv hr
  obtain ⟨hTp, hN, hu, hm, hTk, hP, hE, hC, hA, hZ, hAZ⟩ := id hv
  obtain ⟨k1, k2⟩ := ky_runs hN hC
  have hT : moT (sgC x) = moG (sgC x) := hC.2.2.1 hb
  have hi := (List.getElem?_eq_some_iff.mp hr).1
  have e1 : (rnR x).drop i = r :: (rnR x).drop (i + 1) := by
    rw [List.drop_eq_getElem_cons hi]
    congr 1
    exact (List.getElem?_eq_some_iff.mp hr).2
  have hk : kdsL (moG (sgC x)) = ((rnR x).take i).flatMap (kyN (sgN x)) ++ (kyN (sgN x) r ++ ((rnR x).drop (i + 1)).flatMap (kyN (sgN x))) := by
    have e := List.take_append_drop i (rnR x)
    rw [← List.flatMap_cons, ← e1, ← List.flatMap_append, e]
    exact k1
  have s1 := ky_seg (N := sgN x) (l := (rnR x).take i) (fun z hz => (k2 z (List.mem_of_mem_take hz)).1)
  have s3 := ky_seg (N := sgN x) (l := (rnR x).drop (i + 1)) (fun z hz => (k2 z (List.mem_of_mem_drop hz)).1)
  have s2 := (k2 r (List.mem_of_getElem? hr)).1 0
  rw [if_pos rfl] at s2
  have hbad : ∀ z ∈ toks (moG (sgC x)), z.1 ≠ 11 := kds_bad (au_good hN hC)
  have hl := kds_len (l := moG (sgC x))
  have b1 : BtwT (moG (sgC x)) (fsR x i) (rS x i) := by
    have := BtwT_s (l := moG (sgC x)) (f := fsR x i) (by omega)
    have e : rS x i = tkS0 (moG (sgC x)) (fsR x i) := by
      unfold rS tkS0
      rw [tkG_is (by omega)]
    rw [e]
    exact this
  have b2 : BtwT (moG (sgC x)) (fsR x i + (kyN (sgN x) r).length) (rE x i) := by
    have := BtwT_e (l := moG (sgC x)) (f := fsR x i + (kyN (sgN x) r).length) (by omega) (by omega)
    have e : rE x i = tkE0 (moG (sgC x)) (fsR x i + (kyN (sgN x) r).length) := by
      unfold rE tkE0
      rw [tkG_is (by omega), show fsR x i + (kyN (sgN x) r).length - 1 = lsR x i by omega]
    rw [e]
    exact this
  rw [hT]
  refine ⟨_, _, _, hk, ⟨s1.1, ?_⟩, s2, ⟨s3.1, ?_⟩, ⟨t1.symm, t3, by omega⟩, ⟨rfl, rfl⟩, ?_, ?_, w1, hbad⟩
  · rw [s1.2, List.length_take]
    omega
  · rw [s3.2, List.length_drop]
    omega
  · rw [← t1]
    exact b1
  · rw [← t1]
    exact b2
theorem cut_kd {x : Sg} (hv : Iv x) (hb : moB (sgC x) = true) {i r : Nat} (hr : (rnR x)[i]? = some r) : auL (kdsL (cutD x i)) Z0 = some Z0 ∧ tcL (kdsL (cutD x i)) Z0 + 1 = (rnR x).length ∧ (kdsL (cutD x i)).length ≤ (kdsL (moT (sgC x))).length := by
  obtain ⟨U, V, W, hk, ⟨u1, u2⟩, ⟨v1, v2⟩, ⟨w1, w2⟩, -, -, b1, b2, -, hbad⟩ := run_kd hv hb hr
  obtain ⟨a1, -⟩ := kds_at b1 hbad
  obtain ⟨-, a2⟩ := kds_at b2 hbad
  rw [hk, tk_l] at a1
  rw [hk, ← List.append_assoc, ← List.length_append, dr_l] at a2
  have hE : EnB ((moT (sgC x)).take (rS x i)) := EnB_of (s := Z0) (s' := Z0) (by rw [a1]; exact u1) rfl
  have e : kdsL (cutD x i) = U ++ W := by
    unfold cutD
    rw [seg_0, seg_n, kds_app (EnB_jn hE _), a1, a2]
  rw [e, auL_app2 u1, tcL_app u1]
  refine ⟨w1, by omega, ?_⟩
  rw [hk]
  simp only [List.length_append]
  omega
theorem twin_kd {x : Sg} (hv : Iv x) (hb : moB (sgC x) = true) {i r : Nat} (hr : (rnR x)[i]? = some r) : auL (kdsL (twinD x i)) Z0 = some Z0 ∧ tcL (kdsL (twinD x i)) Z0 = (rnR x).length + 1 ∧ (kdsL (twinD x i)).length ≤ 2 * (kdsL (moT (sgC x))).length := by
  obtain ⟨U, V, W, hk, ⟨u1, u2⟩, ⟨v1, v2⟩, ⟨w1, w2⟩, -, -, b1, b2, -, hbad⟩ := run_kd hv hb hr
  obtain ⟨-, a1⟩ := kds_at b1 hbad
  obtain ⟨a2, -⟩ := kds_at b2 hbad
  rw [hk, dr_l] at a1
  rw [hk, ← List.append_assoc, ← List.length_append, tk_l] at a2
  have huv : auL (U ++ V) Z0 = some Z0 := (auL_app2 u1).trans v1
  have hE : EnB ((moT (sgC x)).take (rE x i)) := EnB_of (s := Z0) (s' := Z0) (by rw [a2]; exact huv) rfl
  have e : kdsL (twinD x i) = (U ++ V) ++ (V ++ W) := by
    unfold twinD
    rw [seg_0, seg_n, kds_app (EnB_jn hE _), a2, a1]
  rw [e, auL_app2 huv, tcL_app huv, auL_app2 v1, tcL_app v1, tcL_app u1]
  refine ⟨w1, by omega, ?_⟩
  rw [hk]
  simp only [List.length_append]
  omega
theorem kds_jn {u v : List Int32} {a b : List Nat} (hu : kdsL u = a) (ha : auL a Z0 = some Z0) (hv : kdsL v = b) : kdsL (u ++ v) = a ++ b := by
  have hE : EnB u := EnB_of (s := Z0) (s' := Z0) (by rw [hu]; exact ha) rfl
  rw [kds_app (EnB_jn hE v), hu, hv]
theorem swap_kd {x : Sg} (hv : Iv x) (hb : moB (sgC x) = true) {i r r' : Nat} (hr : (rnR x)[i]? = some r) (hr' : (rnR x)[i + 1]? = some r') : auL (kdsL (swapD x i)) Z0 = some Z0 ∧ tcL (kdsL (swapD x i)) Z0 = (rnR x).length ∧ (kdsL (swapD x i)).length = (kdsL (moT (sgC x))).length := by
  obtain ⟨U, V, W, hk, ⟨u1, u2⟩, ⟨v1, v2⟩, ⟨w1, w2⟩, -, ⟨-, ew⟩, b1, b2, le1, hbad⟩ := run_kd hv hb hr
  obtain ⟨U', V', W', hk', -, ⟨v1', v2'⟩, ⟨w1', w2'⟩, -, ⟨ev', ew'⟩, b1', b2', le2, -⟩ := run_kd hv hb hr'
  have le3 : rE x i ≤ rS x (i + 1) := (run_ok hv hr).2.2.2.2.2.2.2 (by
    show (rnR x)[i + 1]? ≠ none
    rw [hr']
    exact fun q => by cases q)
  have hi := (List.getElem?_eq_some_iff.mp hr').1
  have hW : W = V' ++ W' := by
    have e1 : (rnR x).drop (i + 1) = r' :: (rnR x).drop (i + 1 + 1) := by
      rw [List.drop_eq_getElem_cons hi]
      congr 1
      exact (List.getElem?_eq_some_iff.mp hr').2
    rw [ew, e1, List.flatMap_cons, ← ev', ← ew']
  have hU : U' = U ++ V := by
    rw [hk, hW, ← List.append_assoc] at hk'
    exact (ap_cr hk').symm
  have hUl : U'.length = U.length + V.length := by rw [hU, List.length_append]
  rw [hUl] at b1' b2'
  have huv : auL (U ++ V) Z0 = some Z0 := (auL_app2 u1).trans v1
  have hK : kdsL (moT (sgC x)) = ((U ++ V) ++ V') ++ W' := by
    rw [hk, hW, List.append_assoc, List.append_assoc]
  have p1 : kdsL (seg (moT (sgC x)) 0 (rS x i)) = U := by
    rw [seg_0, (kds_at b1 hbad).1, hk, tk_l]
  have p2 : kdsL (seg (moT (sgC x)) (rS x (i + 1)) (rE x (i + 1))) = V' := by
    rw [kds_seg b1' b2' (Nat.le_add_right _ _) le2 hbad, hK, ← List.length_append, ← List.length_append, tk_l, dr_l]
  have p3 : kdsL (seg (moT (sgC x)) (rE x i) (rS x (i + 1))) = [] := by
    rw [kds_seg b2 b1' (Nat.le_refl _) le3 hbad]
    exact List.drop_of_length_le (by rw [List.length_take]; omega)
  have p4 : kdsL (seg (moT (sgC x)) (rS x i) (rE x i)) = V := by
    rw [kds_seg b1 b2 (Nat.le_add_right _ _) le1 hbad, hK, List.append_assoc, ← List.length_append, tk_l, dr_l]
  have p5 : kdsL (seg (moT (sgC x)) (rE x (i + 1)) (moT (sgC x)).length) = W' := by
    rw [seg_n, (kds_at b2' hbad).2, hK, ← List.length_append, ← List.length_append, dr_l]
  have j2 := kds_jn p1 u1 p2
  have a2 : auL (U ++ V') Z0 = some Z0 := (auL_app2 u1).trans v1'
  have j3 := kds_jn j2 a2 p3
  rw [List.append_nil] at j3
  have j4 := kds_jn j3 a2 p4
  have a4 : auL (U ++ V' ++ V) Z0 = some Z0 := (auL_app2 a2).trans v1
  have j5 := kds_jn j4 a4 p5
  have e : kdsL (swapD x i) = U ++ V' ++ V ++ W' := j5
  rw [e, auL_app2 a4, tcL_app a4, tcL_app a2, tcL_app u1]
  refine ⟨w1', by omega, ?_⟩
  rw [hK]
  simp only [List.length_append]
  omega
/-! ===== a NAME changed ===== -/
theorem tkBs_g {t : Nat → Int32} {x : Nat × Nat × Nat} {j : Nat} (h : j < x.2.2) : (tkBs t x)[j]? = some (t (x.2.1 + j)) := by
  unfold tkBs
  rw [List.getElem?_map, List.getElem?_range h]
  rfl
theorem alB_tk {t : Nat → Int32} {x y : Nat × Nat × Nat} : alB t x t y = true ↔ (x.1, tkBs t x) = (y.1, tkBs t y) := by
  unfold alB
  constructor
  · intro h
    obtain ⟨h12, h3⟩ := Bool.and_eq_true_iff.mp h
    obtain ⟨h1, h2⟩ := Bool.and_eq_true_iff.mp h12
    have h1 := of_decide_eq_true h1
    have h2 := of_decide_eq_true h2
    have h3 := List.all_eq_true.mp h3
    rw [h1, tkBs_cg (t := t) (t' := t) h2 (fun j hj => of_decide_eq_true (h3 j (List.mem_range.mpr hj)))]
  · intro h
    obtain ⟨h1, h2⟩ := Prod.mk.inj h
    have h3 : x.2.2 = y.2.2 := by
      have := congrArg List.length h2
      rw [tkBs_len, tkBs_len] at this
      exact this
    refine Bool.and_eq_true_iff.mpr ⟨Bool.and_eq_true_iff.mpr ⟨decide_eq_true h1, decide_eq_true h3⟩, List.all_eq_true.mpr (fun j hj => ?_)⟩
    have hj := List.mem_range.mp hj
    have e := congrArg (fun l : List Int32 => l[j]?) h2
    have e : (tkBs t x)[j]? = (tkBs t y)[j]? := e
    rw [tkBs_g hj, tkBs_g (by omega)] at e
    exact decide_eq_true (Option.some.inj e)
/-- the first byte is of no NAME, no INT -/
def StB (u : List Int32) : Prop := 1 ≤ u.length → isL (txF u 0) = false ∧ isD (txF u 0) = false
theorem StB_cl {u v : List Int32} (h : StB v) : ClB u v := fun _ hv => by
  obtain ⟨a, b⟩ := h hv
  rw [a, b]
  exact ⟨fun q => (nomatch q.2), fun q => (nomatch q.2)⟩
theorem toks_first {u : List Int32} (h : 1 ≤ u.length) : isB (txF u 0) = true ∨ ∃ x, (toks u)[0]? = some x ∧ x.2.1 = 0 := by
  have e := lexF_step (t := txF u) (n := u.length) (i := 0) h
  rw [Nat.sub_zero] at e
  by_cases hB : isB (txF u 0) = true
  · exact .inl hB
  · rw [if_neg hB] at e
    right
    unfold toks
    rw [e]
    exact ⟨_, rfl, rfl⟩
theorem StB_of {u : List Int32} (h : ∀ k, (kdsL u)[0]? = some k → k ≠ 0 ∧ k ≠ 1 ∧ k ≠ 11) : StB u := fun hu => by
  rcases toks_first hu with hB | ⟨x, hx, e⟩
  · exact isB_no hB
  · obtain ⟨k0, k1, k11⟩ := h x.1 (by
      unfold kdsL
      rw [List.getElem?_map, hx]
      rfl)
    obtain ⟨-, a, b⟩ := lexF_sign _ _ x (List.mem_of_getElem? hx) k0 k1 k11
    rw [e] at a b
    exact ⟨a, b⟩
theorem EnB_dr {u : List Int32} {f : Nat} (h : EnB u) : EnB (u.drop f) := fun hu => by
  rw [List.length_drop] at hu
  obtain ⟨a, b⟩ := h (by omega)
  rw [List.length_drop, txF_drop, show f + (u.length - f - 1) = u.length - 1 by omega]
  exact ⟨a, b⟩
theorem auN_to2 {s s' : AuZ} {y : Nat} (h : auN s y = some s') (h0 : s'.1 = 2) : y ≠ 0 ∧ y ≠ 1 ∧ y ≠ 11 := by
  unfold auN at h
  by_cases s0 : s.1 = 0
  · rw [if_pos s0] at h
    by_cases y0 : y = 0
    · rw [if_pos y0] at h
      cases h
      cases h0
    rw [if_neg y0] at h
    by_cases y8 : y = 8
    · omega
    rw [if_neg y8] at h
    by_cases y9 : y = 9 ∧ 0 < s.2.1
    · omega
    · rw [if_neg y9] at h
      cases h
  rw [if_neg s0] at h
  by_cases s1 : s.1 = 1
  · rw [if_pos s1] at h
    by_cases y2 : y = 2
    · omega
    · rw [if_neg y2] at h
      cases h
  rw [if_neg s1] at h
  by_cases s2 : s.1 = 2
  · rw [if_pos s2] at h
    by_cases y6 : y = 6
    · omega
    rw [if_neg y6] at h
    by_cases y1 : y < 2
    · rw [if_pos y1] at h
      cases h
      cases h0
    · rw [if_neg y1] at h
      cases h
  rw [if_neg s2] at h
  by_cases y4 : y = 4 ∨ y = 5
  · omega
  rw [if_neg y4] at h
  by_cases y7 : y = 7 ∧ 0 < s.2.2
  · omega
  rw [if_neg y7] at h
  by_cases y3 : y = 3 ∧ s.2.2 = 0
  · omega
  · rw [if_neg y3] at h
    cases h
theorem auN_nm {s s' : AuZ} (h : auN s 0 = some s') : (s.1 = 0 ∨ s.1 = 2) ∧ (s'.1 = 1 ∨ s'.1 = 3) := by
  unfold auN at h
  by_cases s0 : s.1 = 0
  · rw [if_pos s0, if_pos rfl] at h
    cases h
    exact ⟨.inl s0, .inl rfl⟩
  rw [if_neg s0] at h
  by_cases s1 : s.1 = 1
  · rw [if_pos s1, if_neg (by decide)] at h
    cases h
  rw [if_neg s1] at h
  by_cases s2 : s.1 = 2
  · rw [if_pos s2, if_neg (by decide), if_pos (by decide)] at h
    cases h
    exact ⟨.inr s2, .inr rfl⟩
  rw [if_neg s2, if_neg (show ¬ ((0 : Nat) = 4 ∨ (0 : Nat) = 5) by decide), if_neg (fun q => absurd q.1 (by decide)), if_neg (fun q => absurd q.1 (by decide))] at h
  cases h
theorem auN_fr {s s' : AuZ} {y : Nat} (h : auN s y = some s') (h0 : s.1 = 1 ∨ s.1 = 3) : y ≠ 0 ∧ y ≠ 1 ∧ y ≠ 11 := by
  refine ⟨fun q => ?_, fun q => ?_, auN_bad h⟩
  · subst q
    have := (auN_nm h).1
    omega
  · subst q
    unfold auN at h
    rcases h0 with e | e
    · rw [if_neg (show ¬ s.1 = 0 by omega), if_pos e, if_neg (by decide)] at h
      cases h
    · rw [if_neg (show ¬ s.1 = 0 by omega), if_neg (show ¬ s.1 = 1 by omega), if_neg (show ¬ s.1 = 2 by omega), if_neg (show ¬ ((1 : Nat) = 4 ∨ (1 : Nat) = 5) by decide), if_neg (fun q => absurd q.1 (by decide)), if_neg (fun q => absurd q.1 (by decide))] at h
      cases h
theorem EnB_of2 {u : List Int32} {s s' : AuZ} (h : auL (kdsL u) s = some s') (h0 : s'.1 = 0 ∨ s'.1 = 2) : EnB u := by
  rcases h0 with h0 | h0
  · exact EnB_of h h0
  · intro hu
    rcases toks_last hu with hB | ⟨x, hx, e⟩
    · exact isB_no hB
    · obtain ⟨j, hj⟩ := List.mem_iff_getElem?.mp hx
      have hl : j + 1 = (toks u).length := by
        have hlt := (List.getElem?_eq_some_iff.mp hj).1
        refine Nat.le_antisymm hlt (Nat.le_of_not_lt (fun q => ?_))
        have h2 := List.getElem?_eq_getElem q
        have h3 := toks_srt (Nat.lt_succ_self j) hj h2
        have h4 := toks_bd (List.mem_of_getElem? h2)
        omega
      have hk : kdsL u = (kdsL u).take j ++ [x.1] := by
        have e1 : (kdsL u)[j]? = some x.1 := by
          unfold kdsL
          rw [List.getElem?_map, hj]
          rfl
        have e2 : (kdsL u).length = j + 1 := by
          unfold kdsL
          rw [List.length_map, hl]
        have e3 := List.take_append_drop j (kdsL u)
        rw [List.drop_eq_getElem_cons (by omega), List.drop_of_length_le (by omega)] at e3
        rw [List.getElem?_eq_getElem (by omega)] at e1
        rw [Option.some.inj e1] at e3
        exact e3.symm
      rw [hk] at h
      obtain ⟨s1, h1⟩ := auL_last h
      obtain ⟨k0, k1, k11⟩ := auN_to2 h1 h0
      obtain ⟨w1, a, b⟩ := lexF_sign _ _ x hx k0 k1 k11
      rw [show u.length - 1 = x.2.1 by omega]
      exact ⟨a, b⟩
/-- a row of KINDS that is let through, cut at one of them -/
theorem auL_cut {l : List Nat} {s s' : AuZ} (h : auL l s = some s') (k : Nat) : ∃ s1, auL (l.take k) s = some s1 ∧ auL (l.drop k) s1 = some s' := by
  have e := List.take_append_drop k l
  rw [← e, auL_app] at h
  cases ha : auL (l.take k) s with
  | none =>
    rw [ha] at h
    cases h
  | some s1 =>
    rw [ha] at h
    exact ⟨s1, rfl, h⟩
theorem auL_hd {y : Nat} {l : List Nat} {s s' : AuZ} (h : auL (y :: l) s = some s') : ∃ s1, auN s y = some s1 ∧ auL l s1 = some s' := by
  have h : (auN s y).bind (auL l) = some s' := h
  cases ha : auN s y with
  | none =>
    rw [ha] at h
    cases h
  | some s1 =>
    rw [ha] at h
    exact ⟨s1, rfl, h⟩
/-- letters alone are one token -/
theorem tkx_name {tp : List Int32} (h : nmOk tp = true) : tkx tp = [(0, tp)] ∧ 1 ≤ tp.length ∧ tp.length ≤ 8 ∧ ∀ b ∈ tp, isL b = true := by
  unfold nmOk at h
  obtain ⟨h1, h23⟩ := Bool.and_eq_true_iff.mp h
  obtain ⟨h2, h3⟩ := Bool.and_eq_true_iff.mp h23
  have h1 := of_decide_eq_true h1
  have h2 := of_decide_eq_true h2
  have h3 := List.all_eq_true.mp h3
  have hL : ∀ j, j < tp.length → isL (txF tp j) = true := fun j hj => by
    refine h3 _ ?_
    show tp.getD j 0 ∈ tp
    rw [List.getD_eq_getElem?_getD, List.getElem?_eq_getElem hj]
    exact List.getElem_mem hj
  have hrun : ∀ f i, i + f = tp.length → runN isL (txF tp) f i = f := by
    intro f
    induction f with
    | zero => exact fun i _ => rfl
    | succ f ih =>
      intro i hi
      rw [runN, if_pos (hL i (by omega)), ih (i + 1) (by omega)]
  have htk : tkP (txF tp) tp.length 0 = (0, tp.length) := by
    unfold tkP
    rw [if_pos (hL 0 (by omega)), Nat.sub_zero, hrun tp.length 0 (Nat.zero_add _), if_neg (by omega)]
  have hnb : ¬ isB (txF tp 0) = true := fun q => by
    have := (isB_no q).1
    rw [hL 0 (by omega)] at this
    cases this
  have e := lexF_step (t := txF tp) (n := tp.length) (i := 0) h1
  rw [Nat.sub_zero, if_neg hnb, htk] at e
  have e2 : lexF (txF tp) tp.length (tp.length - (0 + tp.length)) (0 + tp.length) = [] := lexF_end (by omega)
  refine ⟨?_, h1, h2, h3⟩
  unfold tkx toks
  rw [e]
  show (0, tkBs (txF tp) (0, 0, tp.length)) :: (lexF (txF tp) tp.length (tp.length - (0 + tp.length)) (0 + tp.length)).map _ = _
  rw [e2]
  have : tkBs (txF tp) (0, 0, tp.length) = tp := by
    apply List.ext_getElem?
    intro j
    by_cases hj : j < tp.length
    · rw [tkBs_g (x := (0, 0, tp.length)) hj, List.getElem?_eq_getElem hj]
      show some (tp.getD (0 + j) 0) = _
      rw [Nat.zero_add, List.getD_eq_getElem?_getD, List.getElem?_eq_getElem hj]
      rfl
    · rw [List.getElem?_eq_none (by rw [tkBs_len]; show tp.length ≤ j; omega), List.getElem?_eq_none (by omega)]
  rw [this]
  rfl
/-- one KIND and bytes instead of another -/
def rhoT (p0 : Nat × List Int32) (tp : List Int32) (p : Nat × List Int32) : Nat × List Int32 := if p = p0 then (0, tp) else p
theorem rho_kd {p0 p : Nat × List Int32} {tp : List Int32} (h : p0.1 = 0) : (rhoT p0 tp p).1 = p.1 := by
  unfold rhoT
  by_cases e : p = p0
  · rw [if_pos e, e, h]
  · rw [if_neg e]
theorem map_no {α : Type} {f : α → α} : ∀ {l : List α}, (∀ x ∈ l, f x = x) → l.map f = l
  | [], _ => rfl
  | x :: l, h => by rw [List.map_cons, h x (List.mem_cons_self ..), map_no (fun y hy => h y (List.mem_cons_of_mem _ hy))]
theorem ren_tkx {T tp : List Int32} {p0 : Nat × List Int32} {sel : Nat × Nat × Nat → Bool} (hg : auL (kdsL T) Z0 = some Z0) (htp : nmOk tp = true) (h0 : p0.1 = 0) (hsel : ∀ y, sel y = true ↔ tkB T y = p0) : ∀ d k j f, (toks T).length - k = d → k ≤ (toks T).length → j ≤ k → BtwT T j f → (∀ y ∈ ((toks T).take k).drop j, sel y = false) →
    tkx (ren T tp sel ((toks T).drop k ++ [(10, T.length, 0)]) f) = ((tkx T).drop j).map (rhoT p0 tp) := by
  obtain ⟨n1, n2, n3, n4⟩ := tkx_name htp
  have hbad := kds_bad hg
  have hX : tkx T = (toks T).map (tkB T) := rfl
  have hun : ∀ (l : List (Nat × Nat × Nat)), (∀ y ∈ l, sel y = false) → (l.map (tkB T)).map (rhoT p0 tp) = l.map (tkB T) := fun l hl => map_no (fun p hp => by
    obtain ⟨y, hy, e⟩ := List.mem_map.mp hp
    unfold rhoT
    rw [if_neg]
    rw [← e]
    intro q
    have := (hsel y).mpr q
    rw [hl y hy] at this
    cases this)
  have hend : sel (10, T.length, 0) = false := by
    cases hs : sel (10, T.length, 0) with
    | false => rfl
    | true =>
      have := congrArg Prod.fst ((hsel _).mp hs)
      rw [h0] at this
      cases this
  intro d
  induction d with
  | zero =>
    intro k j f hd hk hj hf hno
    have hk : k = (toks T).length := by omega
    subst hk
    rw [List.drop_of_length_le (Nat.le_refl _), List.nil_append]
    show tkx (if sel (10, T.length, 0) = true then _ else ren T tp sel [] f) = _
    rw [hend, if_neg (by decide)]
    show tkx (seg T f T.length) = _
    rw [List.take_length] at hno
    rw [seg_n, (tkx_at hf hbad).2, hX, ← mp_dr, hun _ hno]
  | succ d ih =>
    intro k j f hd hk hj hf hno
    have hkl : k < (toks T).length := by omega
    rw [List.drop_eq_getElem_cons hkl, List.cons_append]
    generalize hy : (toks T)[k] = y
    have hyk : (toks T)[k]? = some y := by rw [List.getElem?_eq_getElem hkl, hy]
    show tkx (if sel y = true then seg T f y.2.1 ++ tp ++ ren T tp sel ((toks T).drop (k + 1) ++ [(10, T.length, 0)]) (y.2.1 + y.2.2) else ren T tp sel ((toks T).drop (k + 1) ++ [(10, T.length, 0)]) f) = _
    by_cases hs : sel y = true
    · rw [if_pos hs]
      have hp0 := (hsel y).mp hs
      have hyd : y ∈ (toks T).drop j := by
        rw [List.mem_iff_getElem?]
        refine ⟨k - j, ?_⟩
        rw [List.getElem?_drop, show j + (k - j) = k by omega]
        exact hyk
      have b1 : BtwT T k y.2.1 := by
        have := BtwT_s hkl
        have e : tkS0 T k = y.2.1 := by
          unfold tkS0
          rw [List.getD_eq_getElem?_getD, hyk]
          rfl
        rw [e] at this
        exact this
      have b2 : BtwT T (k + 1) (y.2.1 + y.2.2) := by
        have := BtwT_e (l := T) (f := k + 1) (by omega) (by omega)
        have e : tkE0 T (k + 1) = y.2.1 + y.2.2 := by
          unfold tkE0
          rw [List.getD_eq_getElem?_getD, Nat.add_sub_cancel, hyk]
          rfl
        rw [e] at this
        exact this
      have hfy : f ≤ y.2.1 := hf.2.2 y hyd
      have i1 := ih (k + 1) (k + 1) (y.2.1 + y.2.2) (by omega) (by omega) (Nat.le_refl _) b2 (fun z hz => by
        rw [List.drop_of_length_le (by rw [List.length_take]; omega)] at hz
        cases hz)
      -- KINDS around it
      obtain ⟨s1, c1, c2⟩ := auL_cut hg k
      have hky : (kdsL T).drop k = 0 :: (kdsL T).drop (k + 1) := by
        have hl : k < (kdsL T).length := by
          rw [kds_len]
          exact hkl
        rw [List.drop_eq_getElem_cons hl]
        congr 1
        have e : (kdsL T)[k]? = some y.1 := by
          unfold kdsL
          rw [List.getElem?_map, hyk]
          rfl
        rw [List.getElem?_eq_getElem hl] at e
        rw [Option.some.inj e, ← h0, ← hp0]
        rfl
      rw [hky] at c2
      obtain ⟨s2, c3, c4⟩ := auL_hd c2
      obtain ⟨g1, g2⟩ := auN_nm c3
      have hE : EnB (seg T f y.2.1) := by
        have e : seg T f y.2.1 = (T.take y.2.1).drop f := by
          unfold seg
          rw [drp_tk]
        rw [e]
        refine EnB_dr (EnB_of2 (s := Z0) (s' := s1) ?_ g1)
        rw [(kds_at b1 hbad).1]
        exact c1
      have hkr : kdsL (ren T tp sel ((toks T).drop (k + 1) ++ [(10, T.length, 0)]) (y.2.1 + y.2.2)) = (kdsL T).drop (k + 1) := by
        rw [← kds_tkx, i1, List.map_map, ← kds_tkx, ← mp_dr]
        exact List.map_congr_left (fun p _ => rho_kd h0)
      have hS : StB (ren T tp sel ((toks T).drop (k + 1) ++ [(10, T.length, 0)]) (y.2.1 + y.2.2)) := StB_of (fun q hq => by
        rw [hkr] at hq
        cases hd2 : (kdsL T).drop (k + 1) with
        | nil =>
          rw [hd2] at hq
          cases hq
        | cons z w =>
          rw [hd2] at hq c4
          cases hq
          obtain ⟨s3, c5, -⟩ := auL_hd c4
          exact auN_fr c5 g2)
      rw [tkx_join (StB_cl hS), EnB_jn hE, i1, n1, tkx_seg hf b1 hj hfy hbad]
      have e4 : (tkx T).drop j = ((tkx T).take k).drop j ++ (tkB T y :: (tkx T).drop (k + 1)) := by
        have e5 : (tkx T).drop k = tkB T y :: (tkx T).drop (k + 1) := by
          have hl : k < (tkx T).length := by
            rw [hX, List.length_map]
            exact hkl
          rw [List.drop_eq_getElem_cons hl]
          congr 1
          have e : (tkx T)[k]? = some (tkB T y) := by
            rw [hX, List.getElem?_map, hyk]
            rfl
          rw [List.getElem?_eq_getElem hl] at e
          exact Option.some.inj e
        have e6 := List.take_append_drop k (tkx T)
        rw [← e5]
        have hlen : j ≤ ((tkx T).take k).length := by
          rw [List.length_take, hX, List.length_map]
          omega
        rw [← List.drop_append_of_le_length hlen, e6]
      rw [e4, List.map_append, List.map_cons]
      have e7 : (((tkx T).take k).drop j).map (rhoT p0 tp) = ((tkx T).take k).drop j := by
        rw [hX, ← mp_tk, ← mp_dr]
        exact hun _ hno
      have e8 : rhoT p0 tp (tkB T y) = (0, tp) := by
        unfold rhoT
        rw [if_pos hp0]
      rw [e7, e8, List.append_assoc]
      rfl
    · rw [if_neg hs]
      refine ih (k + 1) j f (by omega) (by omega) (by omega) hf (fun z hz => ?_)
      obtain ⟨q, hq⟩ := List.mem_iff_getElem?.mp hz
      rw [List.getElem?_drop] at hq
      have hlt := (List.getElem?_eq_some_iff.mp hq).1
      rw [List.length_take] at hlt
      rw [List.getElem?_take_of_lt (by omega)] at hq
      by_cases hjk : j + q = k
      · rw [hjk, hyk] at hq
        cases hq
        exact Bool.eq_false_iff.mpr hs
      · refine hno z (List.mem_iff_getElem?.mpr ⟨q, ?_⟩)
        rw [List.getElem?_drop, List.getElem?_take_of_lt (by omega)]
        exact hq
/-- a good TEXT with a NAME changed -/
theorem renD_tkx {x : Sg} (hv : Iv x) (hb : moB (sgC x) = true) (htp : nmOk (sgT x) = true) {i : Nat} (hi : i < (toks (moT (sgC x))).length) (hk : ((toks (moT (sgC x))).getD i (10, 0, 0)).1 = 0) : tkx (renD x i) = (tkx (moT (sgC x))).map (rhoT (tkB (moT (sgC x)) ((toks (moT (sgC x))).getD i (10, 0, 0))) (sgT x)) := by
  obtain ⟨hTp, hN, hu, hm, hTk, hP, hE, hC, hA, hZ, hAZ⟩ := id hv
  have hg := au_good hN hC
  rw [← hC.2.2.1 hb] at hg
  have hxi : (lexL (moT (sgC x))).getD i (10, 0, 0) = (toks (moT (sgC x))).getD i (10, 0, 0) := by
    rw [lexL_toks, List.getD_eq_getElem?_getD, List.getD_eq_getElem?_getD, List.getElem?_append_left hi]
  have := ren_tkx (T := moT (sgC x)) (tp := sgT x) (p0 := tkB (moT (sgC x)) ((toks (moT (sgC x))).getD i (10, 0, 0))) (sel := selN (moT (sgC x)) i) hg htp hk (fun y => by
    unfold selN
    rw [hxi, alB_tk]
    exact ⟨fun q => q.symm, fun q => q.symm⟩) (toks (moT (sgC x))).length 0 0 0 (Nat.sub_zero _) (Nat.zero_le _) (Nat.le_refl _) ⟨Nat.zero_le _, fun z hz => (by rw [List.take_zero] at hz; cases hz), fun z _ => Nat.zero_le _⟩ (fun z hz => by rw [List.take_zero, List.drop_zero] at hz; cases hz)
  rw [List.drop_zero, List.drop_zero] at this
  exact this
theorem renD_kd {x : Sg} (hv : Iv x) (hb : moB (sgC x) = true) (htp : nmOk (sgT x) = true) {i : Nat} (hi : i < (toks (moT (sgC x))).length) (hk : ((toks (moT (sgC x))).getD i (10, 0, 0)).1 = 0) : kdsL (renD x i) = kdsL (moT (sgC x)) := by
  rw [← kds_tkx, renD_tkx hv hb htp hi hk, List.map_map, ← kds_tkx]
  exact List.map_congr_left (fun p _ => rho_kd hk)
/-! ===== IN THE WAY, MEND, EXPECTED: what they are between ===== -/
theorem wyA_is {l : List Nat} {m : Nat} : ∀ d a0 : Nat, (∀ a, wyA l m d a0 = some a → a0 ≤ a ∧ a < a0 + d ∧ wyP l m a = true) ∧ (wyA l m d a0 = none → ∀ a, a0 ≤ a → a < a0 + d → wyP l m a = false)
  | 0, a0 => ⟨fun a h => (by cases h), fun _ a h1 h2 => (by omega)⟩
  | d + 1, a0 => by
    obtain ⟨i1, i2⟩ := wyA_is (l := l) (m := m) d (a0 + 1)
    show (∀ a, (if wyP l m a0 = true then some a0 else wyA l m d (a0 + 1)) = some a → _) ∧ ((if wyP l m a0 = true then some a0 else wyA l m d (a0 + 1)) = none → _)
    by_cases hp : wyP l m a0 = true
    · rw [if_pos hp]
      refine ⟨fun a h => ?_, fun h => by cases h⟩
      cases h
      exact ⟨Nat.le_refl _, by omega, hp⟩
    · rw [if_neg hp]
      refine ⟨fun a h => ?_, fun h a h1 h2 => ?_⟩
      · have := i1 a h
        exact ⟨by omega, by omega, this.2.2⟩
      · by_cases e : a = a0
        · rw [e]
          exact Bool.eq_false_iff.mpr hp
        · exact i2 h a (by omega) (by omega)
theorem wyM_is {l : List Nat} : ∀ d m0 : Nat, (∀ a m, wyM l d m0 = some (a, m) → m0 ≤ m ∧ m < m0 + d ∧ a < l.length - m ∧ wyP l m a = true) ∧ (wyM l d m0 = none → ∀ m, m0 ≤ m → m < m0 + d → ∀ a, a < l.length - m → wyP l m a = false)
  | 0, m0 => ⟨fun a m h => (by cases h), fun _ m h1 h2 => (by omega)⟩
  | d + 1, m0 => by
    obtain ⟨i1, i2⟩ := wyM_is (l := l) d (m0 + 1)
    obtain ⟨j1, j2⟩ := wyA_is (l := l) (m := m0) (l.length - m0) 0
    show (∀ a m, (match wyA l m0 (l.length - m0) 0 with
      | some a => some (a, m0)
      | none => wyM l d (m0 + 1)) = some (a, m) → _) ∧ ((match wyA l m0 (l.length - m0) 0 with
      | some a => some (a, m0)
      | none => wyM l d (m0 + 1)) = none → _)
    cases hA : wyA l m0 (l.length - m0) 0 with
    | some b =>
      refine ⟨fun a m h => ?_, fun h => by cases h⟩
      cases h
      obtain ⟨-, k1, k2⟩ := j1 b hA
      exact ⟨Nat.le_refl _, by omega, by omega, k2⟩
    | none =>
      refine ⟨fun a m h => ?_, fun h m h1 h2 a ha => ?_⟩
      · have := i1 a m h
        exact ⟨by omega, by omega, this.2.2⟩
      · by_cases e : m = m0
        · subst e
          exact j2 hA a (Nat.zero_le _) (by omega)
        · exact i2 h m (by omega) (by omega) a ha
theorem kdsT_is {x : Sg} : kdsT x = kdsL (moT (sgC x)) ++ [10] := kds_lex
theorem acL_kds {l : List Int32} (h : ∀ j, j < l.length → byt (txF l j)) {u v : List Nat} (hu : ∀ y ∈ u, y ∈ kdsL l) (hv : ∀ y ∈ v, y ∈ kdsL l) : acL (u ++ (v ++ [10])) [(0, 0)] = true ↔ auL (u ++ v) Z0 = some Z0 := by
  have hk := kds_ne h
  have h12 : ∀ y ∈ u ++ (v ++ [10]), y < 12 := fun y hy => by
    rcases List.mem_append.mp hy with q | q
    · exact (hk y (hu y q)).1
    · rcases List.mem_append.mp q with q | q
      · exact (hk y (hv y q)).1
      · rw [List.mem_singleton.mp q]
        decide
  rw [au_acL au_0 h12, ← List.append_assoc]
  have h10 : ∀ y ∈ u ++ v, y ≠ 10 := fun y hy => by
    rcases List.mem_append.mp hy with q | q
    · exact (hk y (hu y q)).2
    · exact (hk y (hv y q)).2
  rw [auA_app h10]
  cases ha : auL (u ++ v) (0, 0, 0) with
  | none => exact ⟨fun q => (by cases q), fun q => (by cases q)⟩
  | some s' =>
    have ho := auL_o ha (fun _ => rfl)
    obtain ⟨n, b, o⟩ := s'
    dsimp only at ho ⊢
    show (if (10 : Nat) = 10 then decide (n = 0 ∧ b = 0) else _) = true ↔ _
    rw [if_pos rfl]
    constructor
    · intro q
      obtain ⟨q1, q2⟩ := of_decide_eq_true q
      subst q1
      subst q2
      have := ho (by decide)
      subst this
      rfl
    · intro q
      cases q
      rfl
/-- of a TEXT that is not good: there are tokens in the way; left out, the others are let through -/
theorem way_is {x : Sg} (hv : Iv x) (hl : Lv x) (hb : moB (sgC x) = false) : ∃ a m : Nat, wyM (kdsT x) ((kdsT x).length - 1) 1 = some (a, m) ∧ 1 ≤ m ∧ a + m ≤ (kdsL (moT (sgC x))).length ∧ auL ((kdsL (moT (sgC x))).take a ++ (kdsL (moT (sgC x))).drop (a + m)) Z0 = some Z0 := by
  obtain ⟨hTp, hN, hu, hm, hTk, hP, hE, hC, hA, hZ, hAZ⟩ := id hv
  have hi := moB_iff hN hC hl.1
  have hlen : (kdsT x).length = (kdsL (moT (sgC x))).length + 1 := by
    rw [kdsT_is, List.length_append]
    rfl
  have h1 : 1 ≤ (kdsL (moT (sgC x))).length := by
    cases hk : kdsL (moT (sgC x)) with
    | nil =>
      rw [hk] at hi
      have := hi.mpr rfl
      rw [hb] at this
      cases this
    | cons a l =>
      rw [List.length_cons]
      omega
  obtain ⟨i1, i2⟩ := wyM_is (l := kdsT x) ((kdsT x).length - 1) 1
  cases hM : wyM (kdsT x) ((kdsT x).length - 1) 1 with
  | none =>
    have := i2 hM ((kdsT x).length - 1) (by omega) (by omega) 0 (by omega)
    exfalso
    have e : wyP (kdsT x) ((kdsT x).length - 1) 0 = true := by
      unfold wyP
      rw [List.take_zero, Nat.zero_add, hlen, Nat.add_sub_cancel, kdsT_is, dr_l]
      rfl
    rw [e] at this
    cases this
  | some p =>
    obtain ⟨a, m⟩ := p
    obtain ⟨k1, k2, k3, k4⟩ := i1 a m hM
    refine ⟨a, m, rfl, k1, by omega, ?_⟩
    unfold wyP at k4
    have e1 : (kdsT x).take a = (kdsL (moT (sgC x))).take a := by
      rw [kdsT_is]
      exact List.take_append_of_le_length (by omega)
    have e2 : (kdsT x).drop (a + m) = (kdsL (moT (sgC x))).drop (a + m) ++ [10] := by
      rw [kdsT_is]
      exact List.drop_append_of_le_length (by omega)
    rw [e1, e2] at k4
    exact (acL_kds hC.1.2.1 (fun y hy => List.mem_of_mem_take hy) (fun y hy => List.mem_of_mem_drop hy)).mp k4
theorem mnK_is {l : List Nat} {i : Nat} : ∀ d k0 k : Nat, mnK l i d k0 = some k → k0 ≤ k ∧ k < k0 + d
  | 0, k0, k, h => by cases h
  | d + 1, k0, k, h => by
    have h : (if mnP l i k0 = true then some k0 else mnK l i d (k0 + 1)) = some k := h
    by_cases hp : mnP l i k0 = true
    · rw [if_pos hp] at h
      cases h
      exact ⟨Nat.le_refl _, by omega⟩
    · rw [if_neg hp] at h
      have := mnK_is d (k0 + 1) k h
      omega
theorem mnI_is {l : List Nat} : ∀ d i0 i k : Nat, mnI l d i0 = some (i, k) → i0 ≤ i ∧ i < i0 + d ∧ k < 10
  | 0, i0, i, k, h => by cases h
  | d + 1, i0, i, k, h => by
    have h : (match mnK l i0 10 0 with
      | some k => some (i0, k)
      | none => mnI l d (i0 + 1)) = some (i, k) := h
    cases hK : mnK l i0 10 0 with
    | some q =>
      rw [hK] at h
      cases h
      have := mnK_is 10 0 _ hK
      omega
    | none =>
      rw [hK] at h
      have := mnI_is d (i0 + 1) i k h
      omega
theorem mend_is {x : Sg} (hb : moB (sgC x) = false) : (vMend x 0 = -2 ∧ vMend x 1 = -2) ∨ ∃ i k : Nat, i < (kdsT x).length ∧ k < 10 ∧ vMend x 0 = zi i ∧ vMend x 1 = zi k := by
  have h0 : ixI 2 0 = some 0 := by decide +kernel
  have h1 : ixI 2 1 = some 1 := by decide +kernel
  have e0 : vMend x 0 = resA (mnI (kdsT x) (kdsT x).length 0) := by
    unfold vMend
    rw [h0]
    dsimp only
    rw [hb, if_neg (by decide), if_pos rfl]
  have e1 : vMend x 1 = resB (mnI (kdsT x) (kdsT x).length 0) := by
    unfold vMend
    rw [h1]
    dsimp only
    rw [hb, if_neg (by decide), if_neg (by decide)]
  rw [e0, e1]
  cases hM : mnI (kdsT x) (kdsT x).length 0 with
  | none => exact .inl ⟨rfl, rfl⟩
  | some p =>
    obtain ⟨i, k⟩ := p
    have := mnI_is _ _ _ _ hM
    exact .inr ⟨i, k, by omega, this.2.2, rfl, rfl⟩
theorem zi_or {n k : Nat} (hn : n < 2048) (hk : k < 11) : ∃ w, w < 2048 ∧ zi n ||| (1 <<< (zi k &&& 31)) = zi w := by
  refine ⟨n ||| 2 ^ k, ?_, ?_⟩
  · exact Nat.or_lt_two_pow (n := 11) hn (Nat.pow_lt_pow_right (by decide) hk)
  · have hs : ∀ k, k < 11 → ((1 : Int32) <<< (zi k &&& 31)).toBitVec.toNat = 2 ^ k := by decide +kernel
    apply Int32.toBitVec_inj.mp
    apply BitVec.eq_of_toNat_eq
    have h1 : n ||| 2 ^ k < 2048 := Nat.or_lt_two_pow (n := 11) hn (Nat.pow_lt_pow_right (by decide) hk)
    rw [or_nat, hs k hk, zi_bv (by omega), zi_bv (by omega)]
theorem bitF_is {st : List (Nat × Nat)} : ∀ d k n : Nat, k + d ≤ 11 → n < 2048 → ∃ w, w < 2048 ∧ bitF st d k (zi n) = zi w
  | 0, k, n, _, hn => ⟨n, hn, rfl⟩
  | d + 1, k, n, hk, hn => by
    show ∃ w, w < 2048 ∧ bitF st d (k + 1) (if acV k st = true then zi n ||| (1 <<< (zi k &&& 31)) else zi n) = zi w
    by_cases ha : acV k st = true
    · obtain ⟨w, hw, e⟩ := zi_or hn (show k < 11 by omega)
      rw [if_pos ha, e]
      exact bitF_is d (k + 1) w (by omega) hw
    · rw [if_neg ha]
      exact bitF_is d (k + 1) n (by omega) hn
theorem expected_is {x : Sg} (hb : moB (sgC x) = false) : ∃ w, w < 2048 ∧ vExpected x = zi w := by
  have e : vExpected x = vExp (kdsT x) := by
    unfold vExpected
    rw [hb, if_neg (by decide)]
  rw [e]
  exact bitF_is 11 0 0 (by decide) (by decide)
/-- what is read behind a place -/
theorem lexF_drp {l : List Int32} {q : Nat} (hq : q ≤ l.length) : ∀ k i, q - i ≤ k → i ≤ q → ∀ A B : List (Nat × Nat × Nat), lexF (txF l) l.length (l.length - i) i = A ++ B → (∀ x ∈ A, x.2.1 + x.2.2 ≤ q) → (∀ y ∈ B, q ≤ y.2.1) → lexF (txF l) l.length (l.length - q) q = B := by
  intro k
  induction k with
  | zero =>
    intro i h1 h2 A B e hA hB
    have : i = q := by omega
    subst this
    have hn : A = [] := by
      cases A with
      | nil => rfl
      | cons x A =>
        have hx := lexF_bd _ _ x (e ▸ List.mem_append_left _ (List.mem_cons_self ..))
        have := hA x (List.mem_cons_self ..)
        omega
    subst hn
    exact e
  | succ k ih =>
    intro i h1 h2 A B e hA hB
    by_cases hi : i = q
    · exact ih i (by omega) h2 A B e hA hB
    · have hi : i < q := by omega
      have hp := tkP_pos (t := txF l) (n := l.length) (i := i) (by omega)
      rw [lexF_step (show i < l.length by omega)] at e
      by_cases hbl : isB (txF l i) = true
      · rw [if_pos hbl] at e
        exact ih (i + 1) (by omega) (by omega) A B e hA hB
      · rw [if_neg hbl] at e
        cases A with
        | nil =>
          have := hB _ (e ▸ List.mem_cons_self ..)
          dsimp only at this
          omega
        | cons x A =>
          have e1 : ((tkP (txF l) l.length i).1, i, (tkP (txF l) l.length i).2) = x := (List.cons.inj e).1
          have e2 := (List.cons.inj e).2
          have hx := hA x (List.mem_cons_self ..)
          rw [← e1] at hx
          dsimp only at hx
          exact ih _ (by omega) hx A B e2 (fun z hz => hA z (List.mem_cons_of_mem _ hz)) hB
theorem kds_dr {l : List Int32} {f q : Nat} (hq : BtwT l f q) : kdsL (l.drop q) = (kdsL l).drop f := by
  obtain ⟨q1, q2, q3⟩ := hq
  have r2 := lexF_drp q1 q 0 (by omega) (by omega) ((toks l).take f) ((toks l).drop f) (by rw [Nat.sub_zero, List.take_append_drop]; rfl) q2 q3
  have := lexF_shf (T := txF l) (t := txF (l.drop q)) (a := q) (n := l.length - q) (fun j => txF_drop.symm) (l.length - q) 0
  rw [show q + (l.length - q) = l.length by omega, Nat.add_zero, r2] at this
  unfold kdsL
  rw [← mp_dr, this, List.map_map]
  unfold toks
  rw [List.length_drop]
  rfl
theorem kds_tk {l : List Int32} {f q : Nat} (hq : BtwT l f q) (hb : ∀ y ∈ (kdsL l).take f, y ≠ 11) : kdsL (l.take q) = (kdsL l).take f := by
  obtain ⟨q1, q2, q3⟩ := hq
  have h := (toks_cut q1 (List.take_append_drop f (toks l)).symm (fun x hx => ⟨q2 x hx, hb x.1 (by
    unfold kdsL
    rw [← mp_tk]
    exact List.mem_map.mpr ⟨x, hx, rfl⟩)⟩) q3).1
  unfold kdsL
  rw [h, mp_tk]
/-- a blank in the place of what is in the way -/
theorem way_kd {l : List Int32} {a m p q : Nat} (hp : BtwT l a p) (hq : BtwT l (a + m) q) (h : auL ((kdsL l).take a ++ (kdsL l).drop (a + m)) Z0 = some Z0) : kdsL (seg l 0 p ++ [32] ++ seg l q l.length) = (kdsL l).take a ++ (kdsL l).drop (a + m) := by
  have hb : ∀ y ∈ (kdsL l).take a, y ≠ 11 := fun y hy => auL_bad h y (List.mem_append_left _ hy)
  have e1 := kds_tk hp hb
  have e2 := kds_dr hq
  have k32 : tkx [32] = [] := by
    unfold tkx toks
    have e := lexF_step (t := txF [32]) (n := 1) (i := 0) (by decide)
    have hB : isB (txF [32] 0) = true := by decide +kernel
    rw [if_pos hB] at e
    show (lexF (txF [32]) 1 1 0).map _ = []
    rw [Nat.sub_zero] at e
    rw [e]
    rfl
  have hS : StB ([32] ++ seg l q l.length) := fun _ => by
    have e : txF ([32] ++ seg l q l.length) 0 = 32 := rfl
    rw [e]
    decide +kernel
  have hE : EnB [32] := fun _ => by
    show isL (txF [32] 0) = false ∧ isD (txF [32] 0) = false
    decide +kernel
  rw [List.append_assoc, ← kds_tkx, tkx_join (StB_cl hS), EnB_jn hE, k32, List.nil_append, List.map_append, kds_tkx, kds_tkx, seg_0, seg_n, e1, e2]
/-! ===== the PRINT, read again ===== -/
def ptF (N : Nat → Nd) : Nat → Nat → List (Nat × List Int32)
  | 0, _ => []
  | d + 1, c => if ndR (N c) < 0 then [ndX N c] else if ndR (N c) = 4 ∨ ndR (N c) = 6 then (6, [40]) :: ((ndU (N c)).flatMap (ptF N d) ++ [(7, [41])]) else (ndU (N c)).flatMap (ptF N d)
/-- the tokens of a node's PRINT: KINDS and bytes -/
def ptX (N : Nat → Nd) (c : Nat) : List (Nat × List Int32) := ptF N (c + 1) c
theorem ptF_fu {m : Nat} {N : Nat → Nd} (h : NdOk m N) : ∀ (d d' c : Nat), c < m → c < d → c < d' → ptF N d' c = ptF N d c
  | 0, _, c, _, h1, _ => by omega
  | _ + 1, 0, c, _, _, h2 => by omega
  | d + 1, d' + 1, c, hc, h1, h2 => by
    have e : (ndU (N c)).flatMap (ptF N d') = (ndU (N c)).flatMap (ptF N d) := flatMap_cg (fun z hz => by
      have hz2 := h.lt hc (ndU_sub hz)
      exact ptF_fu h d d' z (by omega) (by omega) (by omega))
    show (if ndR (N c) < 0 then [ndX N c] else if ndR (N c) = 4 ∨ ndR (N c) = 6 then (6, [40]) :: ((ndU (N c)).flatMap (ptF N d') ++ [(7, [41])]) else (ndU (N c)).flatMap (ptF N d')) = (if ndR (N c) < 0 then [ndX N c] else if ndR (N c) = 4 ∨ ndR (N c) = 6 then (6, [40]) :: ((ndU (N c)).flatMap (ptF N d) ++ [(7, [41])]) else (ndU (N c)).flatMap (ptF N d))
    rw [e]
theorem ptX_eq {m c : Nat} {N : Nat → Nd} (h : NdOk m N) (hc : c < m) : ptX N c = if ndR (N c) < 0 then [ndX N c] else if ndR (N c) = 4 ∨ ndR (N c) = 6 then (6, [40]) :: ((ndU (N c)).flatMap (ptX N) ++ [(7, [41])]) else (ndU (N c)).flatMap (ptX N) := by
  have e : (ndU (N c)).flatMap (ptF N c) = (ndU (N c)).flatMap (ptX N) := flatMap_cg (fun z hz => by
    have hz2 := h.lt hc (ndU_sub hz)
    exact ptF_fu h _ _ z (by omega) (Nat.lt_succ_self _) hz2)
  show (if ndR (N c) < 0 then [ndX N c] else if ndR (N c) = 4 ∨ ndR (N c) = 6 then (6, [40]) :: ((ndU (N c)).flatMap (ptF N c) ++ [(7, [41])]) else (ndU (N c)).flatMap (ptF N c)) = _
  rw [e]
theorem ndU_r {m c r : Nat} {N : Nat → Nd} (h : NdOk m N) (hc : c < m) (hr : ndR (N c) = (r : Int)) (h10 : r ≠ 10) : ndU (N c) = (List.range (rhS r).length).map (chN (N c)) := by
  unfold ndU
  rw [if_neg (show ¬ ndR (N c) = 10 by omega)]
  exact kidsL h hc hr
theorem ndU_10 {m c : Nat} {N : Nat → Nd} (h : NdOk m N) (hc : c < m) (hr : ndR (N c) = 10) : ndU (N c) = [chN (N c) 1] := by
  unfold ndU
  rw [if_pos hr, kidsL (r := 10) h hc hr]
  rfl
/-- read as what it stands for: a value; a statement; statements -/
def PtV (N : Nat → Nd) (c : Nat) : Prop := ∀ (b : Nat) (f : FrZ) (fs : List FrZ) (nm : Int64) (dn : List (Int64 × VaZ)), vmL ((ptX N c).map tvX) (2, b, f :: fs, va0, nm, dn) = some (3, b, (f.1, none) :: fs, vaMo f.2 (vaC N c), nm, dn)
def PtS (N : Nat → Nd) (c : Nat) : Prop := ∀ (b : Nat) (dn : List (Int64 × VaZ)), vmL ((ptX N c).map tvX) (0, b, [], va0, 0, dn) = some (0, b, [], va0, 0, dn ++ stVz N c)
theorem ptX_tk {m z k : Nat} {N : Nat → Nd} (h : NdOk m N) (hz : z < m) (hM : ndM (N z) = 5 + k) : (ptX N z).map tvX = [(k, nmV N z, numY (N z))] := by
  rw [← tvs_tk h hz hM]
  obtain ⟨hr, -⟩ := nd_tk5 h hz (show 5 ≤ ndM (N z) by omega)
  rw [ptX_eq h hz, if_pos hr]
  rcases h z hz with ⟨e1, -⟩ | ⟨r, s, -, -, e3, -⟩
  · unfold tvs
    rw [yl_tok h hz e1]
    rfl
  · omega
theorem pt_nd {m : Nat} {N : Nat → Nd} (h : NdOk m N) (c : Nat) : c < m → (ndM (N c) = 4 ∨ ndM (N c) = 3 ∨ ndM (N c) = 2 → PtV N c) ∧ (ndM (N c) = 1 ∨ ndM (N c) = 0 → PtS N c) := by
  induction c using Nat.strongRecOn with
  | ind c ih =>
    intro hc
    rcases h c hc with ⟨e1, -⟩ | ⟨r, s, hr, -, e3, -⟩
    · have : ndM (N c) = 5 + ndK (N c) := by
        unfold ndM
        rw [if_pos (by omega)]
      exact ⟨fun q => by omega, fun q => by omega⟩
    · have hM : ndM (N c) = syN r := by
        unfold ndM
        rw [e3, if_neg (by omega)]
        rfl
      have kid : ∀ k y : Nat, (rhS r)[k]? = some y → ndM (N (chN (N c) k)) = y ∧ chN (N c) k < c ∧ chN (N c) k < m := fun k y hk => by
        obtain ⟨-, a, b⟩ := chN_is h hc e3 hk
        exact ⟨a, b, by omega⟩
      have tk : ∀ k y : Nat, (rhS r)[k]? = some (5 + y) → (ptX N (chN (N c) k)).map tvX = [(y, nmV N (chN (N c) k), numY (N (chN (N c) k)))] := fun k y hk => by
        obtain ⟨a, -, b⟩ := kid k _ hk
        exact ptX_tk h b a
      have kv : ∀ k y : Nat, (rhS r)[k]? = some y → (y = 4 ∨ y = 3 ∨ y = 2) → PtV N (chN (N c) k) := fun k y hk hy => by
        obtain ⟨a, b, d⟩ := kid k _ hk
        exact (ih _ b d).1 (by rw [a]; exact hy)
      have ks : ∀ k y : Nat, (rhS r)[k]? = some y → (y = 1 ∨ y = 0) → PtS N (chN (N c) k) := fun k y hk hy => by
        obtain ⟨a, b, d⟩ := kid k _ hk
        exact (ih _ b d).2 (by rw [a]; exact hy)
      have hv := vaC_r h hc e3
      have ht := ptX_eq h hc
      rw [if_neg (show ¬ ndR (N c) < 0 by omega)] at ht
      have h11 : r = 0 ∨ r = 1 ∨ r = 2 ∨ r = 3 ∨ r = 4 ∨ r = 5 ∨ r = 6 ∨ r = 7 ∨ r = 8 ∨ r = 9 ∨ r = 10 := by omega
      rcases h11 with e | e | e | e | e | e | e | e | e | e | e <;> subst e
      · have hS : syN 0 = 0 := by decide +kernel
        refine ⟨fun q => by omega, fun _ b dn => ?_⟩
        have hs : stVz N c = [] := by
          unfold stVz
          rw [s2L_eq h hc, if_neg (by omega), kidsL h hc e3]
          rfl
        rw [ht, if_neg (show ¬ (ndR (N c) = 4 ∨ ndR (N c) = 6) by omega), ndU_r h hc e3 (by decide), hs, List.append_nil]
        rfl
      · have hS : syN 1 = 0 := by decide +kernel
        refine ⟨fun q => by omega, fun _ b dn => ?_⟩
        have hs : stVz N c = stVz N (chN (N c) 0) ++ stVz N (chN (N c) 1) := by
          unfold stVz
          rw [s2L_eq h hc, if_neg (by omega), kidsL h hc e3, ← List.map_append]
          show ((s2L N (chN (N c) 0) ++ (s2L N (chN (N c) 1) ++ []))).map _ = _
          rw [List.append_nil]
        rw [ht, if_neg (show ¬ (ndR (N c) = 4 ∨ ndR (N c) = 6) by omega), ndU_r h hc e3 (by decide), hs]
        show vmL ((ptX N (chN (N c) 0) ++ (ptX N (chN (N c) 1) ++ [])).map tvX) _ = _
        rw [List.append_nil, List.map_append, vmL_then (ks 0 0 rfl (.inr rfl) b dn), ks 1 1 rfl (.inl rfl) b _, List.append_assoc]
      · have hS : syN 2 = 1 := by decide +kernel
        refine ⟨fun q => by omega, fun _ b dn => ?_⟩
        obtain ⟨a1, a2, a3⟩ := kid 2 2 rfl
        have hs : stVz N c = [(nmV N (chN (N c) 0), vaC N (chN (N c) 2))] := by
          obtain ⟨z1, -, z3⟩ := kid 0 5 rfl
          obtain ⟨y1, -, y3⟩ := kid 1 7 rfl
          obtain ⟨x1, -, x3⟩ := kid 3 8 rfl
          unfold stVz
          rw [s2L_eq h hc, if_pos (by omega), kidsL h hc e3]
          show (c :: (s2L N (chN (N c) 0) ++ (s2L N (chN (N c) 1) ++ (s2L N (chN (N c) 2) ++ (s2L N (chN (N c) 3) ++ []))))).map _ = _
          rw [s2L_no h _ z3 (by omega), s2L_no h _ y3 (by omega), s2L_no h _ a3 (by omega), s2L_no h _ x3 (by omega)]
          rfl
        rw [ht, if_neg (show ¬ (ndR (N c) = 4 ∨ ndR (N c) = 6) by omega), ndU_r h hc e3 (by decide), hs]
        show vmL ((ptX N (chN (N c) 0) ++ (ptX N (chN (N c) 1) ++ (ptX N (chN (N c) 2) ++ (ptX N (chN (N c) 3) ++ [])))).map tvX) _ = _
        rw [List.append_nil, List.map_append, List.map_append, List.map_append, tk 0 0 rfl, tk 1 2 rfl, tk 3 3 rfl]
        show vmL ((0, nmV N (chN (N c) 0), numY (N (chN (N c) 0))) :: (2, nmV N (chN (N c) 1), numY (N (chN (N c) 1))) :: ((ptX N (chN (N c) 2)).map tvX ++ [(3, nmV N (chN (N c) 3), numY (N (chN (N c) 3)))])) _ = _
        rw [vmL_cons (s' := (1, b, [], va0, nmV N (chN (N c) 0), dn)) rfl, vmL_cons (s' := (2, b, [(none, none)], va0, nmV N (chN (N c) 0), dn)) rfl, vmL_then (kv 2 2 rfl (.inr (.inr rfl)) b (none, none) [] _ dn), vmL_cons vm_semi]
        rfl
      · have hS : syN 3 = 1 := by decide +kernel
        refine ⟨fun q => by omega, fun _ b dn => ?_⟩
        have hs : stVz N c = stVz N (chN (N c) 1) := by
          obtain ⟨z1, -, z3⟩ := kid 0 13 rfl
          obtain ⟨x1, -, x3⟩ := kid 2 14 rfl
          unfold stVz
          rw [s2L_eq h hc, if_neg (by omega), kidsL h hc e3]
          show ((s2L N (chN (N c) 0) ++ (s2L N (chN (N c) 1) ++ (s2L N (chN (N c) 2) ++ [])))).map _ = _
          rw [s2L_no h _ z3 (by omega), s2L_no h _ x3 (by omega), List.nil_append, List.nil_append, List.append_nil]
        rw [ht, if_neg (show ¬ (ndR (N c) = 4 ∨ ndR (N c) = 6) by omega), ndU_r h hc e3 (by decide), hs]
        show vmL ((ptX N (chN (N c) 0) ++ (ptX N (chN (N c) 1) ++ (ptX N (chN (N c) 2) ++ []))).map tvX) _ = _
        rw [List.append_nil, List.map_append, List.map_append, tk 0 8 rfl, tk 2 9 rfl]
        show vmL ((8, nmV N (chN (N c) 0), numY (N (chN (N c) 0))) :: ((ptX N (chN (N c) 1)).map tvX ++ [(9, nmV N (chN (N c) 2), numY (N (chN (N c) 2)))])) _ = _
        rw [vmL_cons (s' := (0, b + 1, [], va0, 0, dn)) rfl, vmL_then (ks 1 0 rfl (.inr rfl) (b + 1) dn), vmL_cons vm_rb]
        rfl
      · have hS : syN 4 = 2 := by decide +kernel
        refine ⟨fun _ b f fs nm dn => ?_, fun q => by omega⟩
        rw [ht, if_pos (show ndR (N c) = 4 ∨ ndR (N c) = 6 from .inl e3), ndU_r h hc e3 (by decide), hv]
        show vmL (((6, [40]) :: ((ptX N (chN (N c) 0) ++ (ptX N (chN (N c) 1) ++ (ptX N (chN (N c) 2) ++ []))) ++ [(7, [41])])).map tvX) _ = _
        rw [List.append_nil, List.map_cons, List.map_append, List.map_append, List.map_append, tk 1 4 rfl, vmL_cons (s' := (2, b, (none, none) :: f :: fs, va0, nm, dn)) rfl, List.append_assoc, vmL_then (kv 0 2 rfl (.inr (.inr rfl)) b (none, none) (f :: fs) nm dn)]
        show vmL ((4, nmV N (chN (N c) 1), numY (N (chN (N c) 1))) :: ((ptX N (chN (N c) 2)).map tvX ++ [tvX (7, [41])])) _ = _
        rw [vmL_cons (s' := (2, b, (some (vaC N (chN (N c) 0)), none) :: f :: fs, va0, nm, dn)) rfl, vmL_then (kv 2 3 rfl (.inr (.inl rfl)) b _ (f :: fs) nm dn), vmL_cons (s' := (3, b, (f.1, none) :: fs, vaMo f.2 (vaA (vaC N (chN (N c) 0)) (vaC N (chN (N c) 2))), nm, dn)) rfl]
        rfl
      · have hS : syN 5 = 2 := by decide +kernel
        refine ⟨fun _ b f fs nm dn => ?_, fun q => by omega⟩
        rw [ht, if_neg (show ¬ (ndR (N c) = 4 ∨ ndR (N c) = 6) by omega), ndU_r h hc e3 (by decide), hv]
        show vmL ((ptX N (chN (N c) 0) ++ []).map tvX) _ = _
        rw [List.append_nil]
        exact kv 0 3 rfl (.inr (.inl rfl)) b f fs nm dn
      · have hS : syN 6 = 3 := by decide +kernel
        refine ⟨fun _ b f fs nm dn => ?_, fun q => by omega⟩
        rw [ht, if_pos (show ndR (N c) = 4 ∨ ndR (N c) = 6 from .inr e3), ndU_r h hc e3 (by decide), hv]
        show vmL (((6, [40]) :: ((ptX N (chN (N c) 0) ++ (ptX N (chN (N c) 1) ++ (ptX N (chN (N c) 2) ++ []))) ++ [(7, [41])])).map tvX) _ = _
        rw [List.append_nil, List.map_cons, List.map_append, List.map_append, List.map_append, tk 1 5 rfl, vmL_cons (s' := (2, b, (none, none) :: f :: fs, va0, nm, dn)) rfl, List.append_assoc, vmL_then (kv 0 3 rfl (.inr (.inl rfl)) b (none, none) (f :: fs) nm dn)]
        show vmL ((5, nmV N (chN (N c) 1), numY (N (chN (N c) 1))) :: ((ptX N (chN (N c) 2)).map tvX ++ [tvX (7, [41])])) _ = _
        rw [vmL_cons (s' := (2, b, (none, some (vaC N (chN (N c) 0))) :: f :: fs, va0, nm, dn)) rfl, vmL_then (kv 2 4 rfl (.inl rfl) b _ (f :: fs) nm dn), vmL_cons (s' := (3, b, (f.1, none) :: fs, vaMo f.2 (vaM (vaC N (chN (N c) 0)) (vaC N (chN (N c) 2))), nm, dn)) rfl]
        rfl
      · have hS : syN 7 = 3 := by decide +kernel
        refine ⟨fun _ b f fs nm dn => ?_, fun q => by omega⟩
        rw [ht, if_neg (show ¬ (ndR (N c) = 4 ∨ ndR (N c) = 6) by omega), ndU_r h hc e3 (by decide), hv]
        show vmL ((ptX N (chN (N c) 0) ++ []).map tvX) _ = _
        rw [List.append_nil]
        exact kv 0 4 rfl (.inl rfl) b f fs nm dn
      · have hS : syN 8 = 4 := by decide +kernel
        refine ⟨fun _ b f fs nm dn => ?_, fun q => by omega⟩
        rw [ht, if_neg (show ¬ (ndR (N c) = 4 ∨ ndR (N c) = 6) by omega), ndU_r h hc e3 (by decide), hv]
        show vmL ((ptX N (chN (N c) 0) ++ []).map tvX) _ = _
        rw [List.append_nil, tk 0 0 rfl]
        rfl
      · have hS : syN 9 = 4 := by decide +kernel
        refine ⟨fun _ b f fs nm dn => ?_, fun q => by omega⟩
        rw [ht, if_neg (show ¬ (ndR (N c) = 4 ∨ ndR (N c) = 6) by omega), ndU_r h hc e3 (by decide), hv]
        show vmL ((ptX N (chN (N c) 0) ++ []).map tvX) _ = _
        rw [List.append_nil, tk 0 1 rfl]
        rfl
      · have hS : syN 10 = 4 := by decide +kernel
        refine ⟨fun _ b f fs nm dn => ?_, fun q => by omega⟩
        rw [ht, if_neg (show ¬ (ndR (N c) = 4 ∨ ndR (N c) = 6) by omega), ndU_10 h hc e3, hv]
        show vmL ((ptX N (chN (N c) 1) ++ []).map tvX) _ = _
        rw [List.append_nil]
        exact kv 1 2 rfl (.inr (.inr rfl)) b f fs nm dn
/-! ===== the PRINT's bytes, read into its tokens ===== -/
theorem prt_pt {m : Nat} {N : Nat → Nd} (h : NdOk m N) (c : Nat) : c < m → prt N c = (ptX N c).flatMap (fun p => p.2) := by
  induction c using Nat.strongRecOn with
  | ind c ih =>
    intro hc
    have e : (ndU (N c)).flatMap (prt N) = ((ndU (N c)).flatMap (ptX N)).flatMap (fun p => p.2) := by
      have hz : ∀ z ∈ ndU (N c), prt N z = (ptX N z).flatMap (fun p => p.2) := fun z hz => by
        have := h.lt hc (ndU_sub hz)
        exact ih z this (by omega)
      generalize ndU (N c) = l at hz
      induction l with
      | nil => rfl
      | cons a l ihl =>
        rw [List.flatMap_cons, List.flatMap_cons, List.flatMap_append, hz a (List.mem_cons_self ..), ihl (fun z q => hz z (List.mem_cons_of_mem _ q))]
    rw [prt_eq h hc, ptX_eq h hc]
    by_cases h0 : ndR (N c) < 0
    · rw [if_pos h0, if_pos h0]
      show ndY (N c) = ndY (N c) ++ []
      rw [List.append_nil]
    · rw [if_neg h0, if_neg h0]
      by_cases h4 : ndR (N c) = 4 ∨ ndR (N c) = 6
      · rw [if_pos h4, if_pos h4, e, List.flatMap_cons, List.flatMap_append]
        rfl
      · rw [if_neg h4, if_neg h4, e]
/-- tokens whose bytes, one behind the other, are read as they are -/
def TkW (p : Nat × List Int32) : Prop := tkx p.2 = [p] ∧ p.1 ≠ 11
theorem tkx_cat : ∀ {ps : List (Nat × List Int32)} {s s' : AuZ}, (∀ p ∈ ps, TkW p) → auL (ps.map (fun p => p.1)) s = some s' → tkx (ps.flatMap (fun p => p.2)) = ps
  | [], _, _, _, _ => rfl
  | p :: ps, s, s', hw, ha => by
    obtain ⟨w1, w2⟩ := hw p (List.mem_cons_self ..)
    obtain ⟨s1, a1, a2⟩ := auL_hd ha
    have a1 : auN s p.1 = some s1 := a1
    have ih := tkx_cat (fun q hq => hw q (List.mem_cons_of_mem _ hq)) a2
    have hcl : ClB p.2 (ps.flatMap (fun p => p.2)) := by
      by_cases h01 : p.1 = 0 ∨ p.1 = 1
      · refine StB_cl (StB_of (fun k hk => ?_))
        have e : kdsL (ps.flatMap (fun p => p.2)) = ps.map (fun p => p.1) := by rw [← kds_tkx, ih]
        rw [e] at hk
        cases ps with
        | nil => cases hk
        | cons q qs =>
          cases hk
          obtain ⟨s2, b1, -⟩ := auL_hd a2
          refine auN_fr b1 ?_
          rcases h01 with h0 | h0
          · rw [h0] at a1
            exact (auN_nm a1).2
          · rw [h0] at a1
            unfold auN at a1
            by_cases s0 : s.1 = 0
            · rw [if_pos s0, if_neg (by decide), if_neg (by decide), if_neg (fun q => absurd q.1 (by decide))] at a1
              cases a1
            rw [if_neg s0] at a1
            by_cases s01 : s.1 = 1
            · rw [if_pos s01, if_neg (by decide)] at a1
              cases a1
            rw [if_neg s01] at a1
            by_cases s2 : s.1 = 2
            · rw [if_pos s2, if_neg (by decide), if_pos (by decide)] at a1
              cases a1
              exact .inr rfl
            rw [if_neg s2, if_neg (show ¬ ((1 : Nat) = 4 ∨ (1 : Nat) = 5) by decide), if_neg (fun q => absurd q.1 (by decide)), if_neg (fun q => absurd q.1 (by decide))] at a1
            cases a1
      · refine EnB_cl (fun hu => ?_) _
        have hk : kdsL p.2 = [p.1] := by rw [← kds_tkx, w1]; rfl
        rcases toks_last hu with hB | ⟨x, hx, e⟩
        · exact isB_no hB
        · have hx1 : x.1 = p.1 := by
            have : x.1 ∈ kdsL p.2 := List.mem_map.mpr ⟨x, hx, rfl⟩
            rw [hk] at this
            exact List.mem_singleton.mp this
          obtain ⟨v1, a, b⟩ := lexF_sign _ _ x hx (by omega) (by omega) (by omega)
          rw [show p.2.length - 1 = x.2.1 by omega]
          exact ⟨a, b⟩
    rw [List.flatMap_cons, tkx_join hcl, w1, ih]
    rfl
/-- each token of a good text is read as it is -/
theorem good_tkw {l : List Int32} {s s' : AuZ} (h : auL (kdsL l) s = some s') : ∀ p ∈ tkx l, TkW p := fun p hp => by
  have hbad := kds_bad h
  obtain ⟨k, hk⟩ := List.mem_iff_getElem?.mp hp
  have hX : tkx l = (toks l).map (tkB l) := rfl
  have hlt : k < (toks l).length := by
    have := (List.getElem?_eq_some_iff.mp hk).1
    rw [hX, List.length_map] at this
    exact this
  have hy := List.getElem?_eq_getElem hlt
  generalize (toks l)[k] = y at hy
  have hpy : p = tkB l y := by
    rw [hX, List.getElem?_map, hy] at hk
    exact (Option.some.inj hk).symm
  have b1 : BtwT l k y.2.1 := by
    have := BtwT_s hlt
    have e : tkS0 l k = y.2.1 := by
      unfold tkS0
      rw [List.getD_eq_getElem?_getD, hy]
      rfl
    rw [e] at this
    exact this
  have b2 : BtwT l (k + 1) (y.2.1 + y.2.2) := by
    have := BtwT_e (l := l) (f := k + 1) (by omega) (by omega)
    have e : tkE0 l (k + 1) = y.2.1 + y.2.2 := by
      unfold tkE0
      rw [List.getD_eq_getElem?_getD, Nat.add_sub_cancel, hy]
      rfl
    rw [e] at this
    exact this
  have hseg : seg l y.2.1 (y.2.1 + y.2.2) = p.2 := by
    rw [hpy]
    show _ = tkBs (txF l) y
    have hb := b2.1
    apply List.ext_getElem?
    intro j
    unfold seg
    by_cases hj : j < y.2.2
    · rw [tkBs_g hj, List.getElem?_take_of_lt (by omega), List.getElem?_drop, List.getElem?_eq_getElem (by omega)]
      show _ = some (l.getD (y.2.1 + j) 0)
      rw [List.getD_eq_getElem?_getD, List.getElem?_eq_getElem (by omega)]
      rfl
    · rw [List.getElem?_eq_none (by rw [List.length_take]; omega), List.getElem?_eq_none (by rw [tkBs_len]; omega)]
  refine ⟨?_, ?_⟩
  · rw [← hseg, tkx_seg b1 b2 (Nat.le_succ _) (Nat.le_add_right _ _) hbad]
    have hl : k < ((tkx l).take (k + 1)).length := by
      rw [List.length_take, hX, List.length_map]
      omega
    rw [List.drop_eq_getElem_cons hl, List.drop_of_length_le (by rw [List.length_take]; omega)]
    congr 1
    have e := List.getElem?_eq_getElem hl
    rw [List.getElem?_take_of_lt (by omega), hk] at e
    exact (Option.some.inj e).symm
  · rw [hpy]
    exact hbad y (List.mem_of_getElem? hy)
theorem ptX_in {m : Nat} {N : Nat → Nd} (h : NdOk m N) (c : Nat) : c < m → ∀ p ∈ ptX N c, p = (6, [40]) ∨ p = (7, [41]) ∨ ∃ z ∈ yl N c, p = ndX N z := by
  induction c using Nat.strongRecOn with
  | ind c ih =>
    intro hc p hp
    rw [ptX_eq h hc] at hp
    by_cases h0 : ndR (N c) < 0
    · rw [if_pos h0] at hp
      rw [List.mem_singleton.mp hp, yl_eq h hc, if_pos h0]
      exact .inr (.inr ⟨c, List.mem_singleton.mpr rfl, rfl⟩)
    · rw [if_neg h0] at hp
      have key : p ∈ (ndU (N c)).flatMap (ptX N) → p = (6, [40]) ∨ p = (7, [41]) ∨ ∃ z ∈ yl N c, p = ndX N z := fun hp => by
        obtain ⟨a, ha, hq⟩ := List.mem_flatMap.mp hp
        have hlt := h.lt hc (ndU_sub ha)
        rcases ih a hlt (by omega) p hq with q | q | ⟨z, hz, q⟩
        · exact .inl q
        · exact .inr (.inl q)
        · refine .inr (.inr ⟨z, ?_, q⟩)
          rw [yl_eq h hc, if_neg h0]
          exact List.mem_flatMap.mpr ⟨a, ndU_sub ha, hz⟩
      by_cases h4 : ndR (N c) = 4 ∨ ndR (N c) = 6
      · rw [if_pos h4] at hp
        rcases List.mem_cons.mp hp with q | hp
        · exact .inl q
        · rcases List.mem_append.mp hp with hp | q
          · exact key hp
          · exact .inr (.inl (List.mem_singleton.mp q))
      · rw [if_neg h4] at hp
        exact key hp
/-- the PRINT of a good TEXT is read into tokens as it should -/
theorem print_tkx {m : Nat} {N : Nat → Nd} {y : Mo} (hN : NdOk m N) (o : MoOk m N y) : tkx (prt N (moR y)) = ptX N (moR y) ∧ auL (kdsL (prt N (moR y))) Z0 = some Z0 ∧ vmL ((tkx (prt N (moR y))).map tvX) (0, 0, [], va0, 0, []) = some (0, 0, [], va0, 0, stVz N (moR y)) := by
  have hR := o.2.2.2.1.1
  have hg := au_good hN o
  have hpt := (pt_nd hN (moR y) hR).2 (.inr o.2.2.2.1.2.1) 0 []
  rw [List.nil_append] at hpt
  have hau := (vmL_au (l := (ptX N (moR y)).map tvX) (s := (0, 0, [], va0, 0, [])) (vmW_lo (by decide))).1
  rw [hpt, List.map_map] at hau
  have hau : auL ((ptX N (moR y)).map (fun p => p.1)) Z0 = some Z0 := hau.symm
  have hW : ∀ p ∈ ptX N (moR y), TkW p := fun p hp => by
    rcases ptX_in hN (moR y) hR p hp with e | e | ⟨z, hz, e⟩
    · subst e
      exact ⟨by decide +kernel, by decide⟩
    · subst e
      exact ⟨by decide +kernel, by decide⟩
    · rw [e]
      refine good_tkw hg _ ?_
      rw [← yl_tkx o]
      exact List.mem_map.mpr ⟨z, hz, rfl⟩
  have e : tkx (prt N (moR y)) = ptX N (moR y) := by
    rw [prt_pt hN (moR y) hR]
    exact tkx_cat hW hau
  refine ⟨e, ?_, ?_⟩
  · rw [← kds_tkx, e]
    exact hau
  · rw [e]
    exact hpt
/-! ===== how long it is; its NAMES ===== -/
def w67 (p : Nat × List Int32) : Nat := if p.1 = 6 ∨ p.1 = 7 then 0 else p.2.length
def w45 (p : Nat × List Int32) : Nat := if p.1 = 4 ∨ p.1 = 5 then 1 else 0
def isNX (p : Nat × List Int32) : Bool := decide (p.1 = 0)
def wS7 (l : List (Nat × List Int32)) : Nat := (l.map w67).sum
def wS5 (l : List (Nat × List Int32)) : Nat := (l.map w45).sum
theorem wS7_app {u v : List (Nat × List Int32)} : wS7 (u ++ v) = wS7 u + wS7 v := by
  unfold wS7
  rw [List.map_append, List.sum_append]
theorem wS5_app {u v : List (Nat × List Int32)} : wS5 (u ++ v) = wS5 u + wS5 v := by
  unfold wS5
  rw [List.map_append, List.sum_append]
def byL (l : List (Nat × List Int32)) : Nat := (l.flatMap (fun p => p.2)).length
theorem byL_app {u v : List (Nat × List Int32)} : byL (u ++ v) = byL u + byL v := by
  unfold byL
  rw [List.flatMap_append, List.length_append]
/-- what of a row of tokens doesn't change in a PRINT -/
def SmT (u v : List (Nat × List Int32)) : Prop := wS7 u = wS7 v ∧ wS5 u = wS5 v ∧ byL u = wS7 v + 2 * wS5 v ∧ u.filter isNX = v.filter isNX
theorem SmT_app {u v u' v' : List (Nat × List Int32)} (h : SmT u v) (h' : SmT u' v') : SmT (u ++ u') (v ++ v') := by
  obtain ⟨a1, a2, a3, a4⟩ := h
  obtain ⟨b1, b2, b3, b4⟩ := h'
  refine ⟨by rw [wS7_app, wS7_app, a1, b1], by rw [wS5_app, wS5_app, a2, b2], ?_, by rw [flt_ap, flt_ap, a4, b4]⟩
  rw [byL_app, wS7_app, wS5_app, a3, b3]
  omega
theorem SmT_nil : SmT [] [] := ⟨rfl, rfl, rfl, rfl⟩
theorem SmT_one {p : Nat × List Int32} (h : p.1 ≠ 4 ∧ p.1 ≠ 5 ∧ p.1 ≠ 6 ∧ p.1 ≠ 7) : SmT [p] [p] := by
  refine ⟨rfl, rfl, ?_, rfl⟩
  have e1 : w67 p = p.2.length := by
    unfold w67
    rw [if_neg (by omega)]
  have e2 : w45 p = 0 := by
    unfold w45
    rw [if_neg (by omega)]
  show (p.2 ++ []).length = (w67 p + 0) + 2 * (w45 p + 0)
  rw [List.append_nil, e1, e2]
  omega
theorem wS7_c {p : Nat × List Int32} {l : List (Nat × List Int32)} : wS7 (p :: l) = w67 p + wS7 l := by
  unfold wS7
  rw [List.map_cons, List.sum_cons]
theorem wS5_c {p : Nat × List Int32} {l : List (Nat × List Int32)} : wS5 (p :: l) = w45 p + wS5 l := by
  unfold wS5
  rw [List.map_cons, List.sum_cons]
theorem byL_c {p : Nat × List Int32} {l : List (Nat × List Int32)} : byL (p :: l) = p.2.length + byL l := by
  unfold byL
  rw [List.flatMap_cons, List.length_append]
theorem flt_no {p : Nat × List Int32} {l : List (Nat × List Int32)} (h : p.1 ≠ 0) : (p :: l).filter isNX = l.filter isNX := by
  rw [List.filter_cons, if_neg]
  unfold isNX
  rw [decide_eq_false h]
  decide
theorem SmT_op {a b u v : List (Nat × List Int32)} {p : Nat × List Int32} (ha : SmT a u) (hb : SmT b v) (hp : p.1 = 4 ∨ p.1 = 5) : SmT ((6, [40]) :: ((a ++ (p :: b)) ++ [(7, [41])])) (u ++ (p :: v)) := by
  obtain ⟨a1, a2, a3, a4⟩ := ha
  obtain ⟨b1, b2, b3, b4⟩ := hb
  have p1 : w67 p = p.2.length := by
    unfold w67
    rw [if_neg (by omega)]
  have p2 : w45 p = 1 := by
    unfold w45
    rw [if_pos hp]
  have q1 : wS7 [((7, [41]) : Nat × List Int32)] = 0 := rfl
  have q2 : wS5 [((7, [41]) : Nat × List Int32)] = 0 := rfl
  have q3 : byL [((7, [41]) : Nat × List Int32)] = 1 := rfl
  have r1 : w67 (6, [40]) = 0 := rfl
  have r2 : w45 (6, [40]) = 0 := rfl
  refine ⟨?_, ?_, ?_, ?_⟩
  · rw [wS7_c, wS7_app, wS7_app, wS7_app, wS7_c (p := p) (l := b), wS7_c (p := p) (l := v), q1, r1, a1, b1]
    omega
  · rw [wS5_c, wS5_app, wS5_app, wS5_app, wS5_c (p := p) (l := b), wS5_c (p := p) (l := v), q2, r2, a2, b2]
    omega
  · rw [byL_c, byL_app, byL_app, byL_c, q3, a3, b3, wS7_app, wS5_app, wS7_c, wS5_c, p1, p2]
    show 1 + _ = _
    omega
  · rw [flt_no (show ((6, [40]) : Nat × List Int32).1 ≠ 0 by decide), flt_ap, flt_ap, flt_ap, flt_no (show p.1 ≠ 0 by omega), flt_no (show p.1 ≠ 0 by omega), flt_no (show ((7, [41]) : Nat × List Int32).1 ≠ 0 by decide), a4, b4]
    show (u.filter isNX ++ v.filter isNX) ++ [] = _
    rw [List.append_nil]
theorem SmT_10 {a u : List (Nat × List Int32)} {p q : Nat × List Int32} (ha : SmT a u) (hp : p.1 = 6) (hq : q.1 = 7) : SmT a (p :: (u ++ [q])) := by
  obtain ⟨a1, a2, a3, a4⟩ := ha
  have p1 : w67 p = 0 := by
    unfold w67
    rw [if_pos (.inl hp)]
  have p2 : w45 p = 0 := by
    unfold w45
    rw [if_neg (by omega)]
  have q1 : w67 q = 0 := by
    unfold w67
    rw [if_pos (.inr hq)]
  have q2 : w45 q = 0 := by
    unfold w45
    rw [if_neg (by omega)]
  have e1 : wS7 (p :: (u ++ [q])) = wS7 u := by
    rw [wS7_c, wS7_app, wS7_c, p1, q1]
    show 0 + (wS7 u + (0 + 0)) = wS7 u
    omega
  have e2 : wS5 (p :: (u ++ [q])) = wS5 u := by
    rw [wS5_c, wS5_app, wS5_c, p2, q2]
    show 0 + (wS5 u + (0 + 0)) = wS5 u
    omega
  refine ⟨by rw [e1, a1], by rw [e2, a2], by rw [e1, e2, a3], ?_⟩
  rw [flt_no (show p.1 ≠ 0 by omega), flt_ap, flt_no (show q.1 ≠ 0 by omega), a4]
  show _ = u.filter isNX ++ []
  rw [List.append_nil]
def ylx (N : Nat → Nd) (c : Nat) : List (Nat × List Int32) := (yl N c).map (ndX N)
theorem ylx_rl {m c r : Nat} {N : Nat → Nd} (h : NdOk m N) (hc : c < m) (hr : ndR (N c) = (r : Int)) : ylx N c = ((List.range (rhS r).length).map (chN (N c))).flatMap (ylx N) := by
  unfold ylx
  rw [yl_eq h hc, if_neg (by omega), kidsL h hc hr]
  generalize (List.range (rhS r).length).map (chN (N c)) = l
  induction l with
  | nil => rfl
  | cons a l ih =>
    show (yl N a ++ l.flatMap (yl N)).map (ndX N) = (yl N a).map (ndX N) ++ l.flatMap (fun c => (yl N c).map (ndX N))
    rw [List.map_append, ih]
theorem tk_one {m z k : Nat} {N : Nat → Nd} (h : NdOk m N) (hz : z < m) (hM : ndM (N z) = 5 + k) : ptX N z = [ndX N z] ∧ ylx N z = [ndX N z] ∧ (ndX N z).1 = k := by
  obtain ⟨hr, -⟩ := nd_tk5 h hz (show 5 ≤ ndM (N z) by omega)
  refine ⟨by rw [ptX_eq h hz, if_pos hr], ?_, ?_⟩
  · unfold ylx
    rw [yl_eq h hz, if_pos hr]
    rfl
  · unfold ndM at hM
    rw [if_pos hr] at hM
    show ndK (N z) = k
    omega
theorem sm_nd {m : Nat} {N : Nat → Nd} (h : NdOk m N) (c : Nat) : c < m → ndM (N c) < 5 → SmT (ptX N c) (ylx N c) := by
  induction c using Nat.strongRecOn with
  | ind c ih =>
    intro hc h5
    rcases h c hc with ⟨e1, -⟩ | ⟨r, s, hr, -, e3, -⟩
    · unfold ndM at h5
      rw [if_pos (by omega)] at h5
      omega
    · have kid : ∀ k y : Nat, (rhS r)[k]? = some y → ndM (N (chN (N c) k)) = y ∧ chN (N c) k < c ∧ chN (N c) k < m := fun k y hk => by
        obtain ⟨-, a, b⟩ := chN_is h hc e3 hk
        exact ⟨a, b, by omega⟩
      have tk : ∀ k y : Nat, (rhS r)[k]? = some (5 + y) → ptX N (chN (N c) k) = [ndX N (chN (N c) k)] ∧ ylx N (chN (N c) k) = [ndX N (chN (N c) k)] ∧ (ndX N (chN (N c) k)).1 = y := fun k y hk => by
        obtain ⟨a, -, b⟩ := kid k _ hk
        exact tk_one h b a
      have kx : ∀ k y : Nat, (rhS r)[k]? = some y → y < 5 → SmT (ptX N (chN (N c) k)) (ylx N (chN (N c) k)) := fun k y hk hy => by
        obtain ⟨a, b, d⟩ := kid k _ hk
        exact ih _ b d (by omega)
      have t1 : ∀ k y : Nat, (rhS r)[k]? = some (5 + y) → (y ≠ 4 ∧ y ≠ 5 ∧ y ≠ 6 ∧ y ≠ 7) → SmT (ptX N (chN (N c) k)) (ylx N (chN (N c) k)) := fun k y hk hy => by
        obtain ⟨a, b, d⟩ := tk k y hk
        rw [a, b]
        exact SmT_one (by rw [d]; exact hy)
      have ht := ptX_eq h hc
      rw [if_neg (show ¬ ndR (N c) < 0 by omega)] at ht
      have hy := ylx_rl h hc e3
      have h11 : r = 0 ∨ r = 1 ∨ r = 2 ∨ r = 3 ∨ r = 4 ∨ r = 5 ∨ r = 6 ∨ r = 7 ∨ r = 8 ∨ r = 9 ∨ r = 10 := by omega
      rcases h11 with e | e | e | e | e | e | e | e | e | e | e <;> subst e
      · rw [ht, if_neg (show ¬ (ndR (N c) = 4 ∨ ndR (N c) = 6) by omega), ndU_r h hc e3 (by decide), hy]
        exact SmT_nil
      · rw [ht, if_neg (show ¬ (ndR (N c) = 4 ∨ ndR (N c) = 6) by omega), ndU_r h hc e3 (by decide), hy]
        exact SmT_app (kx 0 0 rfl (by decide)) (SmT_app (kx 1 1 rfl (by decide)) SmT_nil)
      · rw [ht, if_neg (show ¬ (ndR (N c) = 4 ∨ ndR (N c) = 6) by omega), ndU_r h hc e3 (by decide), hy]
        exact SmT_app (t1 0 0 rfl (by decide)) (SmT_app (t1 1 2 rfl (by decide)) (SmT_app (kx 2 2 rfl (by decide)) (SmT_app (t1 3 3 rfl (by decide)) SmT_nil)))
      · rw [ht, if_neg (show ¬ (ndR (N c) = 4 ∨ ndR (N c) = 6) by omega), ndU_r h hc e3 (by decide), hy]
        exact SmT_app (t1 0 8 rfl (by decide)) (SmT_app (kx 1 0 rfl (by decide)) (SmT_app (t1 2 9 rfl (by decide)) SmT_nil))
      · rw [ht, if_pos (show ndR (N c) = 4 ∨ ndR (N c) = 6 from .inl e3), ndU_r h hc e3 (by decide), hy]
        show SmT ((6, [40]) :: ((ptX N (chN (N c) 0) ++ (ptX N (chN (N c) 1) ++ (ptX N (chN (N c) 2) ++ []))) ++ [(7, [41])])) (ylx N (chN (N c) 0) ++ (ylx N (chN (N c) 1) ++ (ylx N (chN (N c) 2) ++ [])))
        obtain ⟨a, b, d⟩ := tk 1 4 rfl
        rw [List.append_nil, List.append_nil, a, b]
        exact SmT_op (kx 0 2 rfl (by decide)) (kx 2 3 rfl (by decide)) (.inl d)
      · rw [ht, if_neg (show ¬ (ndR (N c) = 4 ∨ ndR (N c) = 6) by omega), ndU_r h hc e3 (by decide), hy]
        exact SmT_app (kx 0 3 rfl (by decide)) SmT_nil
      · rw [ht, if_pos (show ndR (N c) = 4 ∨ ndR (N c) = 6 from .inr e3), ndU_r h hc e3 (by decide), hy]
        show SmT ((6, [40]) :: ((ptX N (chN (N c) 0) ++ (ptX N (chN (N c) 1) ++ (ptX N (chN (N c) 2) ++ []))) ++ [(7, [41])])) (ylx N (chN (N c) 0) ++ (ylx N (chN (N c) 1) ++ (ylx N (chN (N c) 2) ++ [])))
        obtain ⟨a, b, d⟩ := tk 1 5 rfl
        rw [List.append_nil, List.append_nil, a, b]
        exact SmT_op (kx 0 3 rfl (by decide)) (kx 2 4 rfl (by decide)) (.inr d)
      · rw [ht, if_neg (show ¬ (ndR (N c) = 4 ∨ ndR (N c) = 6) by omega), ndU_r h hc e3 (by decide), hy]
        exact SmT_app (kx 0 4 rfl (by decide)) SmT_nil
      · rw [ht, if_neg (show ¬ (ndR (N c) = 4 ∨ ndR (N c) = 6) by omega), ndU_r h hc e3 (by decide), hy]
        exact SmT_app (t1 0 0 rfl (by decide)) SmT_nil
      · rw [ht, if_neg (show ¬ (ndR (N c) = 4 ∨ ndR (N c) = 6) by omega), ndU_r h hc e3 (by decide), hy]
        exact SmT_app (t1 0 1 rfl (by decide)) SmT_nil
      · rw [ht, if_neg (show ¬ (ndR (N c) = 4 ∨ ndR (N c) = 6) by omega), ndU_10 h hc e3, hy]
        show SmT (ptX N (chN (N c) 1) ++ []) (ylx N (chN (N c) 0) ++ (ylx N (chN (N c) 1) ++ (ylx N (chN (N c) 2) ++ [])))
        obtain ⟨-, b, d⟩ := tk 0 6 rfl
        obtain ⟨-, b', d'⟩ := tk 2 7 rfl
        rw [List.append_nil, List.append_nil, b, b']
        exact SmT_10 (kx 1 2 rfl (by decide)) d d'
/-- the PRINT of the PRINT is as long -/
theorem print_len {m m' : Nat} {N N' : Nat → Nd} {y y' : Mo} (hN : NdOk m N) (o : MoOk m N y) (hN' : NdOk m' N') (o' : MoOk m' N' y') (e : moG y' = prt N (moR y)) : (prt N' (moR y')).length = (prt N (moR y)).length ∧ (tkx (moG y')).filter isNX = (tkx (moG y)).filter isNX := by
  have hR := o.2.2.2.1.1
  have hR' := o'.2.2.2.1.1
  have s1 := sm_nd hN (moR y) hR (by rw [o.2.2.2.1.2.1]; decide)
  have s2 := sm_nd hN' (moR y') hR' (by rw [o'.2.2.2.1.2.1]; decide)
  have y1 : ylx N (moR y) = tkx (moG y) := yl_tkx o
  have y2 : ylx N' (moR y') = ptX N (moR y) := by
    rw [← (print_tkx hN o).1, ← e]
    exact yl_tkx o'
  obtain ⟨a1, a2, a3, a4⟩ := s1
  obtain ⟨b1, b2, b3, b4⟩ := s2
  have l1 : (prt N (moR y)).length = byL (ptX N (moR y)) := by rw [prt_pt hN _ hR]; rfl
  have l2 : (prt N' (moR y')).length = byL (ptX N' (moR y')) := by rw [prt_pt hN' _ hR']; rfl
  rw [y2] at b3
  refine ⟨by rw [l1, l2, b3, a3, a1, a2], ?_⟩
  rw [e, (print_tkx hN o).1, a4, y1]
/-! ===== the TREE stands: what is told of a node of it ===== -/
theorem ix9z {j : Nat} (h : j < 9) : ixI 9 (zi j) = some j := ixI_some (by decide) h
theorem vNode_at {x : Sg} (hv : Iv x) {c j : Nat} (hc : c < sgM x) (hj : j < 9) : vNode x (zi c) (zi j) = nodV x c (zi c) j := by
  have hm := hv.2.2.2.1
  unfold vNode
  rw [ixI_some (by omega) hc, ix9z hj]
theorem inT_h {x : Sg} (hv : Iv x) {i c q t d : Nat} (h : (FF x)[i]? = some (flH (sgN x) c q t d)) : inT x (zi c) = some i := inT_at hv h
/-- a node that is the i-th of the TREE laid flat -/
theorem st_at {x : Sg} (hv : Iv x) {i c q d t : Nat} {w : List (Nat × Nat × Nat)} (hc : c < sgM x) (hF : (FF x).drop i = flS (sgN x) ((c, q, d) :: w) i t) : (FF x)[i]? = some (flH (sgN x) c q t d) ∧ (FF x).drop (i + 1) = flS (sgN x) ((ndC (sgN x c)).map (fun z => (z, i, d + 1)) ++ w) (i + 1) (t + if ndR (sgN x c) < 0 then 1 else 0) := by
  have hN := hv.2.1
  rw [flS_step hN hc] at hF
  have h0 : ((FF x).drop i)[0]? = some (flH (sgN x) c q t d) := by
    rw [hF]
    rfl
  rw [List.getElem?_drop, Nat.add_zero] at h0
  refine ⟨h0, ?_⟩
  have := congrArg (fun l : List Fl => l.drop 1) hF
  have this : ((FF x).drop i).drop 1 = _ := this
  rw [List.drop_drop] at this
  exact this
theorem st_fs {x : Sg} {i c q d t : Nat} (h : (FF x)[i]? = some (flH (sgN x) c q t d)) (hT : 1 ≤ ndT (sgN x c)) : fsT x i = t := by
  unfold fsT
  rw [ffA_at h]
  show (if ndT (sgN x c) = 0 then (-2 : Int) else (t : Int)).toNat = t
  rw [if_neg (by omega)]
  rfl
theorem st_yl {x : Sg} (hv : Iv x) {i c q d t : Nat} (h : (FF x)[i]? = some (flH (sgN x) c q t d)) (hT : 1 ≤ ndT (sgN x c)) : t + ndT (sgN x c) < nG x ∧ ∀ z j, (yl (sgN x) c)[j]? = some z → moO (sgC x) (t + j) = z ∧ t + j + 1 < nG x := by
  have hN := hv.2.1
  have hC := hv.2.2.2.2.2.2.2.1
  have hR := hC.2.2.2.1.1
  obtain ⟨-, -, o, o1, o2, o3, -⟩ := fl_in hN (moR (sgC x)) hR 0 0 0 1 i _ h
  have ho : o = t := by
    have e := congrArg (fun z : Fl => z.2.2.1) o2
    dsimp only [flH] at e
    rw [if_neg (by omega), if_neg (by omega)] at e
    omega
  subst ho
  obtain ⟨-, -, y1, -, -, -, n1, -⟩ := hC.2.2.2.1
  have hl := yl_len hN (moR (sgC x)) hR
  have hl2 : (yl (sgN x) (moR (sgC x))).length = nG x - 1 := by
    rw [y1, List.length_map, List.length_range]
  have o1 : o + ndT (sgN x c) ≤ ndT (sgN x (moR (sgC x))) := o1
  have hnn : (lexL (moG (sgC x))).length = nG x := rfl
  refine ⟨by omega, fun z j hz => ?_⟩
  have o3 : yl (sgN x) c = ((yl (sgN x) (moR (sgC x))).drop o).take (ndT (sgN x c)) := o3
  have hlt := (List.getElem?_eq_some_iff.mp hz).1
  rw [o3, List.length_take] at hlt
  rw [o3, List.getElem?_take_of_lt (by omega), List.getElem?_drop, y1, List.getElem?_map, List.getElem?_range (by omega)] at hz
  exact ⟨Option.some.inj hz, by omega⟩
theorem st_ne0 {x : Sg} (hv : Iv x) (hw : Ev x) {i c q d t : Nat} (hc : c < sgM x) (h : (FF x)[i]? = some (flH (sgN x) c q t d)) : c ≠ 0 := by
  intro e0
  have hN := hv.2.1
  have hC := hv.2.2.2.2.2.2.2.1
  have h15 := (hw.2.1 c hc).mpr e0
  rcases hN c hc with ⟨e1, -, -, e4, -⟩ | ⟨r, s, hr, -, e3, -⟩
  · obtain ⟨a, b⟩ := st_yl hv h (by omega)
    obtain ⟨b1, b2⟩ := b c 0 (by rw [yl_tok hN hc e1]; rfl)
    have hlt : t < (lexL (moG (sgC x))).length := by
      have := b2
      show t < nG x
      omega
    have hj := List.getElem?_eq_getElem hlt
    have hk := (hC.2.2.2.2 t _ hj).1
    rw [Nat.add_zero] at b1
    rw [b1] at hk
    have h10 := ((lex_lxo hC.2.1).2.2.2 t _ hj)
    unfold ndM at h15
    rw [if_pos (by omega), hk] at h15
    have := h10.mp (by omega)
    have b2 : t + 0 + 1 < (lexL (moG (sgC x))).length := b2
    omega
  · have hf : ∀ r, r < 11 → syN r < 5 := by decide +kernel
    have := hf r hr
    unfold ndM at h15
    rw [e3, if_neg (by omega)] at h15
    have e : ((r : Int)).toNat = r := rfl
    rw [e] at h15
    omega
/-- in the TREE, with a STATE -/
theorem st_in {x : Sg} (hv : Iv x) {i c q d t : Nat} (hc : c < sgM x) (h : (FF x)[i]? = some (flH (sgN x) c q t d)) : vNode x (zi c) 6 = 1 ∧ ∃ s : Nat, s < 21 ∧ vNode x (zi c) 3 = zi s := by
  have hN := hv.2.1
  have hC := hv.2.2.2.2.2.2.2.1
  constructor
  · have e := vNode_at hv hc (show 6 < 9 by decide)
    show vNode x (zi c) (zi 6) = 1
    rw [e]
    show (if c = 0 then (1 : Int32) else (match inT x (zi c) with
      | some _ => 1
      | none => 0)) = 1
    by_cases h0 : c = 0
    · rw [if_pos h0]
    · rw [if_neg h0]
      rw [inT_h hv h]
  · have e := vNode_at hv hc (show 3 < 9 by decide)
    have hs : ∃ s : Nat, s < 21 ∧ ndS (sgN x c) = s := by
      rcases hN c hc with ⟨e1, -, -, e4, e5⟩ | ⟨r, s, -, hs, -, e4, -⟩
      · rcases e5 with e5 | e5
        · exfalso
          obtain ⟨a, b⟩ := st_yl hv h (by omega)
          obtain ⟨b1, b2⟩ := b c 0 (by rw [yl_tok hN hc e1]; rfl)
          obtain ⟨-, -, y1, -, -, y2, -⟩ := hC.2.2.2.1
          have := y2 c (by
            rw [y1]
            refine List.mem_map.mpr ⟨t, List.mem_range.mpr ?_, b1⟩
            show t < nG x - 1
            omega)
          omega
        · exact e5
      · exact ⟨s, hs, e4⟩
    obtain ⟨s, s1, s2⟩ := hs
    refine ⟨s, s1, ?_⟩
    show vNode x (zi c) (zi 3) = zi s
    rw [e]
    show Int32.ofInt (ndS (sgN x c)) = zi s
    rw [s2]
    rfl
/-- a token of it -/
theorem st_tok {x : Sg} (hv : Iv x) (hw : Ev x) {i c q d t : Nat} (hc : c < sgM x) (h : (FF x)[i]? = some (flH (sgN x) c q t d)) (hr : ndR (sgN x c) < 0) : vNode x (zi c) 0 = -2 ∧ vNode x (zi c) 2 = 0 ∧ vGood x (zi t) = zi c ∧ vNode x (zi c) 4 = 1 ∧ vNode x (zi c) 8 = zi t ∧ 0 < vSpan x (zi c) 1 ∧ t + 1 < nG x := by
  have hN := hv.2.1
  have hC := hv.2.2.2.2.2.2.2.1
  have hm := hv.2.2.2.1
  have h0 := st_ne0 hv hw hc h
  rcases hN c hc with ⟨e1, e2, e3, e4, e5⟩ | ⟨r, s, -, hs, e3, -⟩
  · obtain ⟨a, b⟩ := st_yl hv h (by omega)
    obtain ⟨b1, b2⟩ := b c 0 (by rw [yl_tok hN hc e1]; rfl)
    rw [Nat.add_zero] at b1
    have hn : nG x ≤ 100 := hC.2.2.2.1.2.2.2.2.2.2.2
    refine ⟨?_, ?_, ?_, ?_, ?_, ?_, by omega⟩
    · show vNode x (zi c) (zi 0) = -2
      rw [vNode_at hv hc (by decide)]
      show Int32.ofInt (ndR (sgN x c)) = -2
      rw [e1]
      rfl
    · show vNode x (zi c) (zi 2) = 0
      rw [vNode_at hv hc (by decide)]
      show zi (ndC (sgN x c)).length = 0
      rw [e2]
      rfl
    · unfold vGood
      rw [ixI_some (by omega) (show t < nG x by omega)]
      show zi (moO (sgC x) t) = zi c
      rw [b1]
    · show vNode x (zi c) (zi 4) = 1
      rw [vNode_at hv hc (by decide)]
      show zi (ndT (sgN x c)) = 1
      rw [e4]
      rfl
    · show vNode x (zi c) (zi 8) = zi t
      rw [vNode_at hv hc (by decide)]
      show (if c = 0 then zi (nG x - 1) else (match inT x (zi c) with
        | some p => if ndT (sgN x c) = 0 then -2 else zi (fsT x p)
        | none => -2)) = zi t
      have hi : inT x (zi c) = some i := inT_h hv h
      rw [if_neg h0, hi]
      dsimp only
      rw [if_neg (by omega), st_fs h (by omega)]
    · have hi : inT x (zi c) = some i := inT_h hv h
      have h2 : ixI 2 1 = some 1 := by decide +kernel
      unfold vSpan
      rw [h2, hi]
      dsimp only
      rw [ffA_at h]
      show 0 < (if ndT (sgN x c) = 0 then (-1 : Int32) else if (1 : Nat) = 0 then zi (spS x i) else zi (spE x i) - zi (spS x i))
      rw [if_neg (by omega), if_neg (by decide)]
      have hfs := st_fs h (show 1 ≤ ndT (sgN x c) by omega)
      have hla : laT x i = t := by
        unfold laT
        rw [hfs, ffA_at h]
        show t + ndT (sgN x c) - 1 = t
        omega
      have hlt : t < (lexL (moG (sgC x))).length := by
        show t < nG x
        omega
      have hg := tkG_at hlt
      have e6 : spS x i = (tkG x t).2.1 := by
        unfold spS
        rw [hfs]
      have e7 : spE x i = (tkG x t).2.1 + (tkG x t).2.2 := by
        unfold spE
        rw [hla]
      have hmem : tkG x t ∈ toks (moG (sgC x)) := by
        have hl2 : t < (toks (moG (sgC x))).length := by
          have : (lexL (moG (sgC x))).length = (toks (moG (sgC x))).length + 1 := by
            rw [lexL_toks, List.length_append]
            rfl
          have b3 : t + 0 + 1 < (lexL (moG (sgC x))).length := b2
          omega
        rw [lexL_toks, List.getElem?_append_left hl2] at hg
        exact List.mem_of_getElem? hg
      have hb := toks_bd hmem
      have h300 := hC.2.1.1
      rw [e6, e7, zi_sub (Nat.le_add_right _ _), Nat.add_sub_cancel_left]
      show zi 0 < zi (tkG x t).2.2
      exact (zi_lt (by decide) (by omega)).mpr (by omega)
  · omega
/-- a node of a RULE of it -/
theorem st_rul {x : Sg} (hv : Iv x) (hw : Ev x) {i c q d t r : Nat} (hc : c < sgM x) (h : (FF x)[i]? = some (flH (sgN x) c q t d)) (hr : ndR (sgN x c) = (r : Int)) : r < 11 ∧ (ndC (sgN x c)).length = (rhS r).length ∧ vNode x (zi c) 0 = zi r ∧ vNode x (zi c) 2 = zi (rhS r).length ∧ vNode x (zi c) 1 = zi (syN r) ∧ vNode x (zi c) 4 = zi (ndT (sgN x c)) ∧ vNode x (zi c) 8 = (if ndT (sgN x c) = 0 then -2 else zi t) ∧ vChild x (zi c) (zi (rhS r).length) = -1 ∧ ndT (sgN x c) = tkS (sgN x) (ndC (sgN x c)) := by
  have hN := hv.2.1
  have hm := hv.2.2.2.1
  have h0 := st_ne0 hv hw hc h
  rcases hN c hc with ⟨e1, -⟩ | ⟨r', s, hr1, -, e3, -, -, e6, e7, e8⟩
  · omega
  · have : r' = r := by omega
    subst this
    have hl : (ndC (sgN x c)).length = (rhS r').length := by rw [← e6, List.length_map]
    have hi : inT x (zi c) = some i := inT_h hv h
    have hl4 := hN.ch c hc
    refine ⟨hr1, hl, ?_, ?_, ?_, ?_, ?_, ?_, e8⟩
    · show vNode x (zi c) (zi 0) = zi r'
      rw [vNode_at hv hc (by decide)]
      show Int32.ofInt (ndR (sgN x c)) = zi r'
      rw [e3]
      rfl
    · show vNode x (zi c) (zi 2) = zi (rhS r').length
      rw [vNode_at hv hc (by decide), ← hl]
      rfl
    · show vNode x (zi c) (zi 1) = zi (syN r')
      rw [vNode_at hv hc (by decide)]
      show zi (ndM (sgN x c)) = zi (syN r')
      unfold ndM
      rw [e3, if_neg (by omega)]
      rfl
    · show vNode x (zi c) (zi 4) = zi (ndT (sgN x c))
      rw [vNode_at hv hc (by decide)]
      rfl
    · show vNode x (zi c) (zi 8) = _
      rw [vNode_at hv hc (by decide)]
      show (if c = 0 then zi (nG x - 1) else (match inT x (zi c) with
        | some p => if ndT (sgN x c) = 0 then -2 else zi (fsT x p)
        | none => -2)) = _
      rw [if_neg h0, hi]
      dsimp only
      by_cases hT : ndT (sgN x c) = 0
      · rw [if_pos hT, if_pos hT]
      · rw [if_neg hT, if_neg hT, st_fs h (by omega)]
    · unfold vChild
      rw [ixI_some (by omega) hc]
      dsimp only
      rw [hl, ixI_none (fun u => by
        have := (zi_lt (by omega) (by omega)).mp u.2
        omega)]
/-- a CHILD of it -/
theorem st_kid {x : Sg} (hv : Iv x) {i c q d t k z : Nat} (hc : c < sgM x) (h : (FF x)[i]? = some (flH (sgN x) c q t d)) (hk : (ndC (sgN x c))[k]? = some z) : z < sgM x ∧ vChild x (zi c) (zi k) = zi z ∧ vNode x (zi z) 7 = zi c ∧ vNode x (zi z) 1 = zi (ndM (sgN x z)) ∧ vNode x (zi z) 4 = zi (ndT (sgN x z)) ∧
    vBes x (zi z) true = (if k + 1 < (ndC (sgN x c)).length then zi ((ndC (sgN x c)).getD (k + 1) 0) else -2) ∧ vBes x (zi z) false = (if 1 ≤ k then zi ((ndC (sgN x c)).getD (k - 1) 0) else -2) := by
  have hN := hv.2.1
  have hC := hv.2.2.2.2.2.2.2.1
  have hR := hC.2.2.2.1.1
  have hm := hv.2.2.2.1
  have hz : z < sgM x := by
    have := hN.lt hc (List.mem_of_getElem? hk)
    omega
  have hl4 := hN.ch c hc
  have hkl := (List.getElem?_eq_some_iff.mp hk).1
  obtain ⟨i', y, g1, g2, g3, g4, -⟩ := fl_ch hN hR h hk
  rw [Nat.zero_add] at g4
  have g2 : (FF x)[i']? = some y := g2
  have hi : inT x (zi z) = some i' := by
    have := inT_at hv g2
    rw [g3] at this
    exact this
  have hA : ffA x i' = y := ffA_at g2
  have hB : ffA x i = flH (sgN x) c q t d := ffA_at h
  have hne : ¬ i' = 0 := by omega
  have hch : chU x i' = ndC (sgN x c) := by
    unfold chU
    rw [hA, g4, hB]
    rfl
  have hix : (chU x i').findIdx? (fun w => w == (ffA x i').1) = some k := by
    rw [hch, hA, g3]
    exact idx_at (fun j hj => ch_one hv h hj hk) hk
  refine ⟨hz, ?_, ?_, ?_, ?_, ?_, ?_⟩
  · unfold vChild
    rw [ixI_some (by omega) hc]
    dsimp only
    rw [ixI_some (by omega) hkl]
    show zi ((ndC (sgN x c)).getD k 0) = zi z
    rw [List.getD_eq_getElem?_getD, hk]
    rfl
  · show vNode x (zi z) (zi 7) = zi c
    rw [vNode_at hv hz (by decide)]
    show (match inT x (zi z) with
      | some p => if p = 0 then -2 else zi (ffA x (ffA x p).2.1).1
      | none => -2) = zi c
    rw [hi]
    dsimp only
    rw [if_neg hne, hA, g4, hB]
    rfl
  · show vNode x (zi z) (zi 1) = _
    rw [vNode_at hv hz (by decide)]
    rfl
  · show vNode x (zi z) (zi 4) = _
    rw [vNode_at hv hz (by decide)]
    rfl
  · unfold vBes
    rw [hi]
    dsimp only
    rw [if_neg hne]
    unfold sblV
    rw [hix, hch]
    dsimp only
    rw [if_pos rfl]
  · unfold vBes
    rw [hi]
    dsimp only
    rw [if_neg hne]
    unfold sblV
    rw [hix, hch]
    dsimp only
    rw [if_neg (by decide)]
/-- the TREE itself, and where it begins -/
theorem st_root {x : Sg} (hv : Iv x) (hw : Ev x) : (FF x).drop 0 = flS (sgN x) [(moR (sgC x), 0, 1)] 0 0 ∧ vNode x (zi (moR (sgC x))) 1 = 0 ∧ vNode x (zi (moR (sgC x))) 7 = -2 ∧ vGood x (zi (nG x - 1)) = 0 := by
  have hN := hv.2.1
  have hC := hv.2.2.2.2.2.2.2.1
  obtain ⟨t1, t2, t3, t4, t5, t6, t7, t8⟩ := hC.2.2.2.1
  have hF : (FF x).drop 0 = flS (sgN x) [(moR (sgC x), 0, 1)] 0 0 := by
    rw [List.drop_zero]
    show fl (sgN x) (moR (sgC x)) 0 0 0 1 = fl (sgN x) (moR (sgC x)) 0 0 0 1 ++ []
    rw [List.append_nil]
  have h0 := (st_at hv t1 hF).1
  refine ⟨hF, ?_, ?_, ?_⟩
  · show vNode x (zi (moR (sgC x))) (zi 1) = 0
    rw [vNode_at hv t1 (by decide)]
    show zi (ndM (sgN x (moR (sgC x)))) = 0
    rw [t2]
    rfl
  · show vNode x (zi (moR (sgC x))) (zi 7) = -2
    rw [vNode_at hv t1 (by decide)]
    show (match inT x (zi (moR (sgC x))) with
      | some p => if p = 0 then -2 else zi (ffA x (ffA x p).2.1).1
      | none => -2) = -2
    have hi : inT x (zi (moR (sgC x))) = some 0 := inT_h hv h0
    rw [hi]
    dsimp only
    rw [if_pos rfl]
  · have h1n : 1 ≤ nG x := t7
    have hlt : nG x - 1 < (lexL (moG (sgC x))).length := by
      show nG x - 1 < nG x
      omega
    have hj := List.getElem?_eq_getElem hlt
    have hk := (hC.2.2.2.2 _ _ hj).1
    have h10 := (lex_lxo hC.2.1).2.2.2 _ _ hj
    have hk10 : ndK (sgN x (moO (sgC x) (nG x - 1))) = 10 := by
      rw [hk]
      refine h10.mpr ?_
      show nG x - 1 + 1 = nG x
      omega
    obtain ⟨o1, o2⟩ := t5 (nG x - 1) hlt
    have hz : moO (sgC x) (nG x - 1) = 0 := by
      refine (hw.2.1 _ o1).mp ?_
      unfold ndM
      rw [if_pos (by omega), hk10]
    unfold vGood
    rw [ixI_some (by omega) (show nG x - 1 < nG x by omega)]
    show zi (moO (sgC x) (nG x - 1)) = 0
    rw [hz]
    rfl
/-! ===== what all comes to, told by the statements that are read ===== -/
theorem any_ap {α : Type} {p : α → Bool} {v : List α} : ∀ {u : List α}, (u ++ v).any p = (u.any p || v.any p)
  | [] => (Bool.false_or _).symm
  | x :: u => by
    show (p x || (u ++ v).any p) = ((p x || u.any p) || v.any p)
    rw [any_ap, Bool.or_assoc]
def enV : List (Int64 × VaZ) → (Int64 → Int32) → Int64 → Int32
  | [], en => en
  | q :: l, en => enV l (up6 en q.1 (q.2.1 en))
def tmV (v : Int64) : List (Int64 × VaZ) → Nat
  | [] => 0
  | q :: l => (if q.1 = v then 1 else 0) + tmV v l
def hsV (v : Int64) (a : VaZ) : Bool := a.2.1.any (fun w => w == v)
def idW (v : Int64) : List (Int64 × VaZ) → Bool
  | [] => false
  | q :: l => if hsV v q.2 = true then false else if q.1 = v then true else idW v l
def idV : List (Int64 × VaZ) → Nat
  | [] => 0
  | q :: l => (if idW q.1 l = true then 1 else 0) + idV l
def rdSz (l : List (Int64 × VaZ)) : Nat := (l.map (fun q => q.2.2.1.length)).sum
def stO (N : Nat → Nd) (s : Nat) : Int64 × VaZ := (nmC N s, vaC N (chN (N s) 2))
theorem sets_s2 {m R : Nat} {N : Nat → Nd} (h : NdOk m N) (hR : R < m) : setsOf N R = s2L N R := by
  have e : ∀ L : List Fl, st2 N L = (L.map (fun x => x.1)).filter (fun z => decide (ndR (N z) = 2)) := fun L => by
    induction L with
    | nil => rfl
    | cons x L ih =>
      show (if ndR (N x.1) = 2 then x.1 :: st2 N L else st2 N L) = _
      rw [List.map_cons, List.filter_cons, ih]
      by_cases h2 : ndR (N x.1) = 2
      · rw [if_pos h2, if_pos (decide_eq_true h2)]
      · rw [if_neg h2, if_neg (by rw [decide_eq_false h2]; decide)]
  unfold setsOf s2L
  rw [e, show (flR N R).map (fun x => x.1) = po N R from fl_map h R hR 0 0 0 1]
theorem enL_V {N : Nat → Nd} : ∀ {l : List Nat} {en : Int64 → Int32}, enL N l en = enV (l.map (stO N)) en
  | [], en => rfl
  | s :: l, en => by
    show enL N l (up6 en (nmC N s) (evN N en (chN (N s) 2))) = enV (l.map (stO N)) (up6 en (nmC N s) ((vaC N (chN (N s) 2)).1 en))
    rw [vaC_is, enL_V]
theorem tmL_V {N : Nat → Nd} {v : Int64} : ∀ {l : List Nat}, tmL N v l = tmV v (l.map (stO N))
  | [] => rfl
  | s :: l => by
    show (if nmC N s = v then 1 else 0) + tmL N v l = (if nmC N s = v then 1 else 0) + tmV v (l.map (stO N))
    rw [tmL_V]
/-- the NAMES that a node reads -/
theorem has_V {m : Nat} {N : Nat → Nd} (h : NdOk m N) (v : Int64) (c : Nat) : c < m → (ndM (N c) = 4 ∨ ndM (N c) = 3 ∨ ndM (N c) = 2) → hasN N v c = hsV v (vaC N c) := by
  induction c using Nat.strongRecOn with
  | ind c ih =>
    intro hc hM
    rcases h c hc with ⟨e1, -⟩ | ⟨r, s, hr, -, e3, -⟩
    · have : ndM (N c) = 5 + ndK (N c) := by
        unfold ndM
        rw [if_pos (by omega)]
      omega
    · have hMr : ndM (N c) = syN r := by
        unfold ndM
        rw [e3, if_neg (by omega)]
        rfl
      have kid : ∀ k y : Nat, (rhS r)[k]? = some y → ndM (N (chN (N c) k)) = y ∧ chN (N c) k < c ∧ chN (N c) k < m := fun k y hk => by
        obtain ⟨-, a, b⟩ := chN_is h hc e3 hk
        exact ⟨a, b, by omega⟩
      have tk : ∀ k y : Nat, (rhS r)[k]? = some (5 + y) → hasN N v (chN (N c) k) = false := fun k y hk => by
        obtain ⟨a, -, b⟩ := kid k _ hk
        obtain ⟨hr0, -⟩ := nd_tk5 h b (show 5 ≤ ndM (N (chN (N c) k)) by omega)
        unfold hasN
        rcases h _ b with ⟨f1, f2, -⟩ | ⟨r2, s2, -, -, f3, -⟩
        · rw [po_eq h b, f2]
          show (rdB N v (chN (N c) k) || false) = false
          rw [Bool.or_false]
          unfold rdB
          exact decide_eq_false (fun q => by omega)
        · omega
      have kx : ∀ k y : Nat, (rhS r)[k]? = some y → (y = 4 ∨ y = 3 ∨ y = 2) → hasN N v (chN (N c) k) = hsV v (vaC N (chN (N c) k)) := fun k y hk hy => by
        obtain ⟨a, b, d⟩ := kid k _ hk
        exact ih _ b d (by rw [a]; exact hy)
      have hv := vaC_r h hc e3
      have hp : hasN N v c = (rdB N v c || (((List.range (rhS r).length).map (chN (N c))).any (hasN N v))) := by
        unfold hasN
        rw [po_eq h hc, kidsL h hc e3]
        show (rdB N v c || (List.flatMap (po N) ((List.range (rhS r).length).map (chN (N c)))).any (rdB N v)) = _
        congr 1
        generalize (List.range (rhS r).length).map (chN (N c)) = l
        induction l with
        | nil => rfl
        | cons a l ihl =>
          rw [List.flatMap_cons, any_ap, ihl]
          rfl
      have hrd : r ≠ 8 → rdB N v c = false := fun h8 => decide_eq_false (fun q => by omega)
      have hap : ∀ a b : VaZ, hsV v (vaA a b) = (hsV v a || hsV v b) ∧ hsV v (vaM a b) = (hsV v a || hsV v b) := fun a b => ⟨any_ap, any_ap⟩
      have h11 : r = 0 ∨ r = 1 ∨ r = 2 ∨ r = 3 ∨ r = 4 ∨ r = 5 ∨ r = 6 ∨ r = 7 ∨ r = 8 ∨ r = 9 ∨ r = 10 := by omega
      rcases h11 with e | e | e | e | e | e | e | e | e | e | e <;> subst e
      · have hS : syN 0 = 0 := by decide +kernel
        omega
      · have hS : syN 1 = 0 := by decide +kernel
        omega
      · have hS : syN 2 = 1 := by decide +kernel
        omega
      · have hS : syN 3 = 1 := by decide +kernel
        omega
      · rw [hp, hv, hrd (by decide)]
        show (false || (hasN N v (chN (N c) 0) || (hasN N v (chN (N c) 1) || (hasN N v (chN (N c) 2) || false)))) = hsV v (vaA (vaC N (chN (N c) 0)) (vaC N (chN (N c) 2)))
        rw [(hap _ _).1, kx 0 2 rfl (.inr (.inr rfl)), tk 1 4 rfl, kx 2 3 rfl (.inr (.inl rfl)), Bool.false_or, Bool.false_or, Bool.or_false]
      · rw [hp, hv, hrd (by decide)]
        show (false || (hasN N v (chN (N c) 0) || false)) = hsV v (vaC N (chN (N c) 0))
        rw [kx 0 3 rfl (.inr (.inl rfl)), Bool.false_or, Bool.or_false]
      · rw [hp, hv, hrd (by decide)]
        show (false || (hasN N v (chN (N c) 0) || (hasN N v (chN (N c) 1) || (hasN N v (chN (N c) 2) || false)))) = hsV v (vaM (vaC N (chN (N c) 0)) (vaC N (chN (N c) 2)))
        rw [(hap _ _).2, kx 0 3 rfl (.inr (.inl rfl)), tk 1 5 rfl, kx 2 4 rfl (.inl rfl), Bool.false_or, Bool.false_or, Bool.or_false]
      · rw [hp, hv, hrd (by decide)]
        show (false || (hasN N v (chN (N c) 0) || false)) = hsV v (vaC N (chN (N c) 0))
        rw [kx 0 4 rfl (.inl rfl), Bool.false_or, Bool.or_false]
      · rw [hp, hv]
        show (rdB N v c || (hasN N v (chN (N c) 0) || false)) = hsV v (vaN (nmV N (chN (N c) 0)))
        rw [tk 0 0 rfl, Bool.or_false, Bool.or_false]
        show decide (ndR (N c) = 8 ∧ nmC N c = v) = ((nmV N (chN (N c) 0) == v) || false)
        rw [Bool.or_false]
        by_cases q : nmV N (chN (N c) 0) = v
        · rw [decide_eq_true (show ndR (N c) = 8 ∧ nmC N c = v from ⟨e3, q⟩), q, beq_self_eq_true]
        · rw [decide_eq_false (fun u => q u.2)]
          exact (beq_eq_false_iff_ne.mpr q).symm
      · rw [hp, hv, hrd (by decide)]
        show (false || (hasN N v (chN (N c) 0) || false)) = false
        rw [tk 0 1 rfl]
        rfl
      · rw [hp, hv, hrd (by decide)]
        show (false || (hasN N v (chN (N c) 0) || (hasN N v (chN (N c) 1) || (hasN N v (chN (N c) 2) || false)))) = hsV v (vaC N (chN (N c) 1))
        rw [kx 1 2 rfl (.inr (.inr rfl)), tk 0 6 rfl, tk 2 7 rfl, Bool.false_or, Bool.false_or, Bool.or_false, Bool.or_false]
theorem idB_V {m : Nat} {N : Nat → Nd} (h : NdOk m N) {s : Nat} : ∀ {l : List Nat}, (∀ z ∈ l, z < m ∧ ndR (N z) = 2) → idB N s l = idW (nmC N s) (l.map (stO N))
  | [], _ => rfl
  | z :: l, hz => by
    obtain ⟨z1, z2⟩ := hz z (List.mem_cons_self ..)
    obtain ⟨-, a1, a2⟩ := chN_is (k := 2) (y := 2) h z1 (r := 2) z2 rfl
    show (if hasN N (nmC N s) (chN (N z) 2) = true then false else if nmC N z = nmC N s then true else idB N s l) = (if hsV (nmC N s) (vaC N (chN (N z) 2)) = true then false else if nmC N z = nmC N s then true else idW (nmC N s) (l.map (stO N)))
    rw [has_V h _ _ (by omega) (.inr (.inr a1)), idB_V h (fun y hy => hz y (List.mem_cons_of_mem _ hy))]
theorem idN_V {m : Nat} {N : Nat → Nd} (h : NdOk m N) : ∀ {l : List Nat}, (∀ z ∈ l, z < m ∧ ndR (N z) = 2) → (idN N l).length = idV (l.map (stO N))
  | [], _ => rfl
  | s :: l, hz => by
    show (if idB N s l = true then s :: idN N l else idN N l).length = (if idW (nmC N s) (l.map (stO N)) = true then 1 else 0) + idV (l.map (stO N))
    have hl : ∀ z ∈ l, z < m ∧ ndR (N z) = 2 := fun y hy => hz y (List.mem_cons_of_mem _ hy)
    rw [← idB_V h hl, ← idN_V h hl]
    by_cases hi : idB N s l = true
    · rw [if_pos hi, if_pos hi, List.length_cons, Nat.add_comm]
    · rw [if_neg hi, if_neg hi, Nat.zero_add]
theorem stV_all {m c : Nat} {N : Nat → Nd} (h : NdOk m N) (hc : c < m) : stVz N c = (s2L N c).map (stO N) ∧ ∀ z ∈ s2L N c, z < m ∧ ndR (N z) = 2 := by
  refine ⟨rfl, fun z hz => ?_⟩
  obtain ⟨a, b⟩ := List.mem_filter.mp hz
  have hpo : ∀ c, c < m → ∀ z ∈ po N c, z ≤ c := fun c => by
    induction c using Nat.strongRecOn with
    | ind c ih =>
      intro hc z hz
      rw [po_eq h hc] at hz
      rcases List.mem_cons.mp hz with e | hz
      · exact Nat.le_of_eq e
      · obtain ⟨y, hy, hz⟩ := List.mem_flatMap.mp hz
        have hlt := h.lt hc hy
        have := ih y hlt (by omega) z hz
        omega
  have := hpo c hc z a
  exact ⟨by omega, of_decide_eq_true b⟩
/-- of a state: what is read of it is what it tells -/
theorem vals_is {x : Sg} (hv : Iv x) : ruE (ruR x) = enV (stVz (sgN x) (moR (sgC x))) (fun _ => 0) ∧ (∀ v, ruT (ruR x) v = tmV v (stVz (sgN x) (moR (sgC x)))) ∧ (ruD (ruR x)).length = idV (stVz (sgN x) (moR (sgC x))) := by
  have hN := hv.2.1
  have hR := hv.2.2.2.2.2.2.2.1.2.2.2.1.1
  obtain ⟨a1, -, a3⟩ := ruN_l (N := sgN x) (R := moR (sgC x))
  obtain ⟨s1, s2⟩ := stV_all hN hR
  have hs := sets_s2 hN hR
  refine ⟨?_, fun v => ?_, ?_⟩
  · show ruE (ruN (sgN x) (moR (sgC x))) = _
    rw [a1, enL_V, hs, s1]
  · show ruT (ruN (sgN x) (moR (sgC x))) v = _
    rw [a3, tmL_V, hs, s1]
  · rw [(idle_is hv).1, hs, idN_V hN s2, s1]
/-! ===== what comes to what when a NAME is changed ===== -/
def mpV (th : Int64 → Int64) (a : VaZ) : VaZ := (fun en => a.1 (fun v => en (th v)), a.2.1.map th, a.2.2)
def mpF (th : Int64 → Int64) (f : FrZ) : FrZ := (f.1.map (mpV th), f.2.map (mpV th))
def mpQ (th : Int64 → Int64) (q : Int64 × VaZ) : Int64 × VaZ := (th q.1, mpV th q.2)
def mpS (th : Int64 → Int64) (s : VmZ) : VmZ := (s.1, s.2.1, s.2.2.1.map (mpF th), mpV th s.2.2.2.1, th s.2.2.2.2.1, s.2.2.2.2.2.map (mpQ th))
def mpT (th : Int64 → Int64) (t : TkV) : TkV := (t.1, th t.2.1, t.2.2)
theorem mpV_A {th : Int64 → Int64} {a b : VaZ} : mpV th (vaA a b) = vaA (mpV th a) (mpV th b) := by
  unfold mpV vaA
  dsimp only
  rw [List.map_append]
theorem mpV_M {th : Int64 → Int64} {a b : VaZ} : mpV th (vaM a b) = vaM (mpV th a) (mpV th b) := by
  unfold mpV vaM
  dsimp only
  rw [List.map_append]
theorem mpV_Ao {th : Int64 → Int64} {o : Option VaZ} {b : VaZ} : mpV th (vaAo o b) = vaAo (o.map (mpV th)) (mpV th b) := by
  cases o with
  | none => rfl
  | some a => exact mpV_A
theorem mpV_Mo {th : Int64 → Int64} {o : Option VaZ} {b : VaZ} : mpV th (vaMo o b) = vaMo (o.map (mpV th)) (mpV th b) := by
  cases o with
  | none => rfl
  | some a => exact mpV_M
theorem vmV_mp {th : Int64 → Int64} {b : Nat} {fs : List FrZ} {w : VaZ} {nm : Int64} {dn : List (Int64 × VaZ)} : vmV b (fs.map (mpF th)) (mpV th w) (th nm) (dn.map (mpQ th)) = (vmV b fs w nm dn).map (mpS th) := by
  cases fs with
  | nil => rfl
  | cons f r =>
    show some (3, b, ((f.1.map (mpV th)), none) :: r.map (mpF th), vaMo (f.2.map (mpV th)) (mpV th w), th nm, dn.map (mpQ th)) = some (3, b, (mpF th (f.1, none)) :: r.map (mpF th), mpV th (vaMo f.2 w), th nm, dn.map (mpQ th))
    rw [mpV_Mo]
    rfl
theorem vm_mp {th : Int64 → Int64} (h0 : th 0 = 0) {s : VmZ} {t : TkV} : vmN (mpS th s) (mpT th t) = (vmN s t).map (mpS th) := by
  obtain ⟨n, b, fs, cur, nm, dn⟩ := s
  obtain ⟨k, v, w⟩ := t
  show vmN (n, b, fs.map (mpF th), mpV th cur, th nm, dn.map (mpQ th)) (k, th v, w) = (vmN (n, b, fs, cur, nm, dn) (k, v, w)).map (mpS th)
  unfold vmN
  dsimp only
  by_cases n0 : n = 0
  · rw [if_pos n0, if_pos n0]
    by_cases k0 : k = 0
    · rw [if_pos k0, if_pos k0]
      rfl
    rw [if_neg k0, if_neg k0]
    by_cases k8 : k = 8
    · rw [if_pos k8, if_pos k8]
      show some (0, b + 1, [], va0, (0 : Int64), dn.map (mpQ th)) = some (0, b + 1, [], va0, th 0, dn.map (mpQ th))
      rw [h0]
    rw [if_neg k8, if_neg k8]
    by_cases k9 : k = 9 ∧ 0 < b
    · rw [if_pos k9, if_pos k9]
      show some (0, b - 1, [], va0, (0 : Int64), dn.map (mpQ th)) = some (0, b - 1, [], va0, th 0, dn.map (mpQ th))
      rw [h0]
    · rw [if_neg k9, if_neg k9]
      rfl
  rw [if_neg n0, if_neg n0]
  by_cases n1 : n = 1
  · rw [if_pos n1, if_pos n1]
    by_cases k2 : k = 2
    · rw [if_pos k2, if_pos k2]
      rfl
    · rw [if_neg k2, if_neg k2]
      rfl
  rw [if_neg n1, if_neg n1]
  by_cases n2 : n = 2
  · rw [if_pos n2, if_pos n2]
    by_cases k6 : k = 6
    · rw [if_pos k6, if_pos k6]
      rfl
    rw [if_neg k6, if_neg k6]
    by_cases k0 : k = 0
    · rw [if_pos k0, if_pos k0]
      exact vmV_mp (w := vaN v)
    rw [if_neg k0, if_neg k0]
    by_cases k1 : k = 1
    · rw [if_pos k1, if_pos k1]
      exact vmV_mp (w := vaI w)
    · rw [if_neg k1, if_neg k1]
      rfl
  rw [if_neg n2, if_neg n2]
  cases fs with
  | nil => rfl
  | cons f r =>
    show vmE k b (mpF th f :: r.map (mpF th)) (mpV th cur) (th nm) (dn.map (mpQ th)) = (vmE k b (f :: r) cur nm dn).map (mpS th)
    unfold vmE
    dsimp only
    by_cases k4 : k = 4
    · rw [if_pos k4, if_pos k4]
      show some (2, b, (some (vaAo (f.1.map (mpV th)) (mpV th cur)), none) :: r.map (mpF th), va0, th nm, dn.map (mpQ th)) = some (2, b, (some (mpV th (vaAo f.1 cur)), none) :: r.map (mpF th), va0, th nm, dn.map (mpQ th))
      rw [mpV_Ao]
    rw [if_neg k4, if_neg k4]
    by_cases k5 : k = 5
    · rw [if_pos k5, if_pos k5]
      rfl
    rw [if_neg k5, if_neg k5]
    by_cases k7 : k = 7
    · rw [if_pos k7, if_pos k7]
      show vmV b (r.map (mpF th)) (vaAo (f.1.map (mpV th)) (mpV th cur)) (th nm) (dn.map (mpQ th)) = _
      rw [← mpV_Ao]
      exact vmV_mp
    rw [if_neg k7, if_neg k7]
    by_cases k3 : k = 3 ∧ r = []
    · obtain ⟨k3, hr⟩ := k3
      subst hr
      rw [if_pos (show k = 3 ∧ ([] : List FrZ).map (mpF th) = [] from ⟨k3, rfl⟩), if_pos (show k = 3 ∧ ([] : List FrZ) = [] from ⟨k3, rfl⟩)]
      show some (0, b, [], va0, (0 : Int64), dn.map (mpQ th) ++ [(th nm, vaAo (f.1.map (mpV th)) (mpV th cur))]) = some (0, b, [], va0, th 0, (dn ++ [(nm, vaAo f.1 cur)]).map (mpQ th))
      rw [h0, List.map_append, ← mpV_Ao]
      rfl
    · rw [if_neg k3, if_neg (show ¬ (k = 3 ∧ r.map (mpF th) = []) from fun q => k3 ⟨q.1, List.map_eq_nil_iff.mp q.2⟩)]
      rfl
theorem vmL_mp {th : Int64 → Int64} (h0 : th 0 = 0) : ∀ {l : List TkV} {s : VmZ}, vmL (l.map (mpT th)) (mpS th s) = (vmL l s).map (mpS th)
  | [], _ => rfl
  | t :: l, s => by
    show (vmN (mpS th s) (mpT th t)).bind (vmL (l.map (mpT th))) = ((vmN s t).bind (vmL l)).map (mpS th)
    rw [vm_mp h0]
    cases vmN s t with
    | none => rfl
    | some s' => exact vmL_mp h0
/-- what an expression comes to rests on the NAMES that it reads alone -/
def VaK (a : VaZ) : Prop := ∀ en en' : Int64 → Int32, (∀ v ∈ a.2.1, en v = en' v) → a.1 en = a.1 en'
theorem VaK_A {a b : VaZ} (ha : VaK a) (hb : VaK b) : VaK (vaA a b) ∧ VaK (vaM a b) := by
  constructor
  · intro en en' h
    show a.1 en + b.1 en = a.1 en' + b.1 en'
    rw [ha en en' (fun v hv => h v (List.mem_append_left _ hv)), hb en en' (fun v hv => h v (List.mem_append_right _ hv))]
  · intro en en' h
    show a.1 en * b.1 en = a.1 en' * b.1 en'
    rw [ha en en' (fun v hv => h v (List.mem_append_left _ hv)), hb en en' (fun v hv => h v (List.mem_append_right _ hv))]
theorem VaK_F {N : Nat → Nd} : ∀ (d c : Nat), VaK (vaF N d c)
  | 0, _ => fun _ _ _ => rfl
  | d + 1, c => by
    show VaK (if ndR (N c) = 4 then vaA (vaF N d (chN (N c) 0)) (vaF N d (chN (N c) 2)) else if ndR (N c) = 5 then vaF N d (chN (N c) 0) else if ndR (N c) = 6 then vaM (vaF N d (chN (N c) 0)) (vaF N d (chN (N c) 2)) else if ndR (N c) = 7 then vaF N d (chN (N c) 0) else if ndR (N c) = 8 then vaN (nmV N (chN (N c) 0)) else if ndR (N c) = 9 then vaI (numY (N (chN (N c) 0))) else if ndR (N c) = 10 then vaF N d (chN (N c) 1) else va0)
    by_cases r4 : ndR (N c) = 4
    · rw [if_pos r4]
      exact (VaK_A (VaK_F d _) (VaK_F d _)).1
    rw [if_neg r4]
    by_cases r5 : ndR (N c) = 5
    · rw [if_pos r5]
      exact VaK_F d _
    rw [if_neg r5]
    by_cases r6 : ndR (N c) = 6
    · rw [if_pos r6]
      exact (VaK_A (VaK_F d _) (VaK_F d _)).2
    rw [if_neg r6]
    by_cases r7 : ndR (N c) = 7
    · rw [if_pos r7]
      exact VaK_F d _
    rw [if_neg r7]
    by_cases r8 : ndR (N c) = 8
    · rw [if_pos r8]
      intro en en' h
      exact h _ (List.mem_cons_self ..)
    rw [if_neg r8]
    by_cases r9 : ndR (N c) = 9
    · rw [if_pos r9]
      exact fun _ _ _ => rfl
    rw [if_neg r9]
    by_cases r10 : ndR (N c) = 10
    · rw [if_pos r10]
      exact VaK_F d _
    · rw [if_neg r10]
      exact fun _ _ _ => rfl
/-- one NAME instead of another -/
def thV (v0 v1 : Int64) (v : Int64) : Int64 := if v = v0 then v1 else v
/-- where the other does not stand, all comes to the same -/
theorem enV_mp {v0 v1 : Int64} : ∀ {l : List (Int64 × VaZ)} {en en' : Int64 → Int32}, (∀ q ∈ l, q.1 ≠ v1 ∧ VaK q.2 ∧ ∀ v ∈ q.2.2.1, v ≠ v1) → (∀ v, v ≠ v1 → en' (thV v0 v1 v) = en v) → ∀ v, v ≠ v1 → enV (l.map (mpQ (thV v0 v1))) en' (thV v0 v1 v) = enV l en v
  | [], en, en', _, h => h
  | q :: l, en, en', hl, h => by
    obtain ⟨q1, q2, q3⟩ := hl q (List.mem_cons_self ..)
    have e : (mpV (thV v0 v1) q.2).1 en' = q.2.1 en := by
      show q.2.1 (fun v => en' (thV v0 v1 v)) = q.2.1 en
      exact q2 _ _ (fun v hv => h v (q3 v hv))
    refine enV_mp (en := up6 en q.1 (q.2.1 en)) (en' := up6 en' (thV v0 v1 q.1) ((mpV (thV v0 v1) q.2).1 en')) (fun p hp => hl p (List.mem_cons_of_mem _ hp)) (fun v hv => ?_)
    rw [e]
    unfold up6
    by_cases hq : v = q.1
    · rw [if_pos hq, if_pos (by rw [hq])]
    · rw [if_neg hq, if_neg]
      · exact h v hv
      · intro u
        unfold thV at u
        by_cases a : v = v0
        · rw [if_pos a] at u
          by_cases b : q.1 = v0
          · exact hq (a.trans b.symm)
          · rw [if_neg b] at u
            exact q1 u.symm
        · rw [if_neg a] at u
          by_cases b : q.1 = v0
          · rw [if_pos b] at u
            exact hv u
          · rw [if_neg b] at u
            exact hq u
theorem tmV_le {v0 v1 : Int64} {v : Int64} : ∀ {l : List (Int64 × VaZ)}, tmV v l ≤ tmV (thV v0 v1 v) (l.map (mpQ (thV v0 v1)))
  | [] => Nat.le_refl _
  | q :: l => by
    show (if q.1 = v then 1 else 0) + tmV v l ≤ (if thV v0 v1 q.1 = thV v0 v1 v then 1 else 0) + tmV (thV v0 v1 v) (l.map (mpQ (thV v0 v1)))
    have ih := tmV_le (v0 := v0) (v1 := v1) (v := v) (l := l)
    by_cases h : q.1 = v
    · rw [if_pos h, if_pos (by rw [h])]
      omega
    · rw [if_neg h]
      omega
theorem tmV_eq {v0 v1 : Int64} {v : Int64} (hv : v ≠ v1) : ∀ {l : List (Int64 × VaZ)}, (∀ q ∈ l, q.1 ≠ v1) → tmV (thV v0 v1 v) (l.map (mpQ (thV v0 v1))) = tmV v l
  | [], _ => rfl
  | q :: l, hl => by
    show (if thV v0 v1 q.1 = thV v0 v1 v then 1 else 0) + tmV (thV v0 v1 v) (l.map (mpQ (thV v0 v1))) = (if q.1 = v then 1 else 0) + tmV v l
    rw [tmV_eq hv (fun p hp => hl p (List.mem_cons_of_mem _ hp))]
    have q1 := hl q (List.mem_cons_self ..)
    by_cases h : q.1 = v
    · rw [if_pos h, if_pos (by rw [h])]
    · rw [if_neg h, if_neg]
      intro u
      unfold thV at u
      by_cases a : q.1 = v0
      · rw [if_pos a] at u
        by_cases b : v = v0
        · exact h (a.trans b.symm)
        · rw [if_neg b] at u
          exact hv u.symm
      · rw [if_neg a] at u
        by_cases b : v = v0
        · rw [if_pos b] at u
          exact q1 u
        · rw [if_neg b] at u
          exact h u
/-! ===== a NAME changed: which NAMES there are then, what they come to ===== -/
theorem nm_inj {u v : List Int32} (hu : ∀ j, j < u.length → isL (bsF u j) = true) (hv : ∀ j, j < v.length → isL (bsF v j) = true) (u8 : u.length ≤ 8) (v8 : v.length ≤ 8) (h : isV (bsF u) (0, 0, u.length) = isV (bsF v) (0, 0, v.length)) : u = v := by
  unfold isV at h
  dsimp only at h
  rw [if_pos rfl, if_pos rfl] at h
  obtain ⟨h1, h2⟩ := (valL_iff (t := bsF u) (t' := bsF v) (s := 0) (s' := 0) (fun j hj => by rw [Nat.zero_add]; exact hu j hj) (fun j hj => by rw [Nat.zero_add]; exact hv j hj) u8 v8).mp h
  apply List.ext_getElem?
  intro j
  by_cases hj : j < u.length
  · have := h2 j hj
    rw [Nat.zero_add] at this
    have this : u.getD j 0 = v.getD j 0 := this
    rw [List.getD_eq_getElem?_getD, List.getD_eq_getElem?_getD, List.getElem?_eq_getElem hj, List.getElem?_eq_getElem (by omega)] at this
    rw [List.getElem?_eq_getElem hj, List.getElem?_eq_getElem (by omega)]
    exact congrArg some this
  · rw [List.getElem?_eq_none (by omega), List.getElem?_eq_none (by omega)]
/-- what of a token is read -/
def TkQ (t t' : TkV) : Prop := t.1 = t'.1 ∧ (t.1 = 0 → t.2.1 = t'.2.1) ∧ (t.1 = 1 → t.2.2 = t'.2.2)
theorem vm_q {s : VmZ} {t t' : TkV} (h : TkQ t t') : vmN s t = vmN s t' := by
  obtain ⟨k, v, w⟩ := t
  obtain ⟨k', v', w'⟩ := t'
  obtain ⟨h1, h2, h3⟩ := h
  dsimp only at h1 h2 h3
  subst h1
  by_cases k0 : k = 0
  · have := h2 k0
    subst this
    subst k0
    rfl
  · by_cases k1 : k = 1
    · have := h3 k1
      subst this
      subst k1
      rfl
    · unfold vmN
      dsimp only
      rw [if_neg k0, if_neg k0, if_neg k0, if_neg k0, if_neg k1, if_neg k1]
theorem vmL_q {α : Type} {f g : α → TkV} : ∀ {l : List α} {s : VmZ}, (∀ a ∈ l, TkQ (f a) (g a)) → vmL (l.map f) s = vmL (l.map g) s
  | [], _, _ => rfl
  | a :: l, s, h => by
    show (vmN s (f a)).bind (vmL (l.map f)) = (vmN s (g a)).bind (vmL (l.map g))
    rw [vm_q (h a (List.mem_cons_self ..))]
    cases vmN s (g a) with
    | none => rfl
    | some s' => exact vmL_q (fun b hb => h b (List.mem_cons_of_mem _ hb))
/-- all NAMES that are kept are of the tokens that were read -/
def NmA (P : Int64 → Prop) (a : VaZ) : Prop := ∀ v ∈ a.2.1, P v
def NmO (P : Int64 → Prop) : Option VaZ → Prop
  | none => True
  | some a => NmA P a
def NmS (P : Int64 → Prop) (s : VmZ) : Prop := (∀ f ∈ s.2.2.1, NmO P f.1 ∧ NmO P f.2) ∧ NmA P s.2.2.2.1 ∧ (1 ≤ s.1 → P s.2.2.2.2.1) ∧ ∀ q ∈ s.2.2.2.2.2, P q.1 ∧ NmA P q.2
theorem NmA_0 {P : Int64 → Prop} : NmA P va0 := fun v hv => (by cases hv)
theorem NmA_Ao {P : Int64 → Prop} {o : Option VaZ} {b : VaZ} (ho : NmO P o) (hb : NmA P b) : NmA P (vaAo o b) := by
  cases o with
  | none => exact hb
  | some a => exact fun v hv => (List.mem_append.mp hv).elim (ho v) (hb v)
theorem NmA_Mo {P : Int64 → Prop} {o : Option VaZ} {b : VaZ} (ho : NmO P o) (hb : NmA P b) : NmA P (vaMo o b) := by
  cases o with
  | none => exact hb
  | some a => exact fun v hv => (List.mem_append.mp hv).elim (ho v) (hb v)
theorem NmS_V {P : Int64 → Prop} {b : Nat} {fs : List FrZ} {w : VaZ} {nm : Int64} {dn : List (Int64 × VaZ)} {s' : VmZ} (h1 : ∀ f ∈ fs, NmO P f.1 ∧ NmO P f.2) (h2 : NmA P w) (h3 : P nm) (h4 : ∀ q ∈ dn, P q.1 ∧ NmA P q.2) (h : vmV b fs w nm dn = some s') : NmS P s' := by
  cases fs with
  | nil => cases h
  | cons f r =>
    have h : some (3, b, (f.1, none) :: r, vaMo f.2 w, nm, dn) = some s' := h
    cases h
    obtain ⟨f1, f2⟩ := h1 f (List.mem_cons_self ..)
    refine ⟨fun g hg => ?_, NmA_Mo f2 h2, fun _ => h3, h4⟩
    rcases List.mem_cons.mp hg with e | hg
    · rw [e]
      exact ⟨f1, trivial⟩
    · exact h1 g (List.mem_cons_of_mem _ hg)
theorem NmS_N {P : Int64 → Prop} {s s' : VmZ} {t : TkV} (hs : NmS P s) (ht : t.1 = 0 → P t.2.1) (h : vmN s t = some s') : NmS P s' := by
  obtain ⟨n, b, fs, cur, nm, dn⟩ := s
  obtain ⟨k, v, w⟩ := t
  obtain ⟨h1, h2, h3, h4⟩ := hs
  dsimp only at h1 h2 h3 h4 ht
  have nil : ∀ f ∈ ([] : List FrZ), NmO P f.1 ∧ NmO P f.2 := fun f hf => (by cases hf)
  unfold vmN at h
  dsimp only at h
  by_cases n0 : n = 0
  · rw [if_pos n0] at h
    by_cases k0 : k = 0
    · rw [if_pos k0] at h
      cases h
      exact ⟨nil, NmA_0, fun _ => ht k0, h4⟩
    rw [if_neg k0] at h
    by_cases k8 : k = 8
    · rw [if_pos k8] at h
      cases h
      exact ⟨nil, NmA_0, fun q => absurd (show 1 ≤ (0 : Nat) from q) (by decide), h4⟩
    rw [if_neg k8] at h
    by_cases k9 : k = 9 ∧ 0 < b
    · rw [if_pos k9] at h
      cases h
      exact ⟨nil, NmA_0, fun q => absurd (show 1 ≤ (0 : Nat) from q) (by decide), h4⟩
    · rw [if_neg k9] at h
      cases h
  rw [if_neg n0] at h
  have h3 := h3 (by omega)
  by_cases n1 : n = 1
  · rw [if_pos n1] at h
    by_cases k2 : k = 2
    · rw [if_pos k2] at h
      cases h
      refine ⟨fun f hf => ?_, NmA_0, fun _ => h3, h4⟩
      rw [List.mem_singleton.mp hf]
      exact ⟨trivial, trivial⟩
    · rw [if_neg k2] at h
      cases h
  rw [if_neg n1] at h
  by_cases n2 : n = 2
  · rw [if_pos n2] at h
    by_cases k6 : k = 6
    · rw [if_pos k6] at h
      cases h
      refine ⟨fun f hf => ?_, NmA_0, fun _ => h3, h4⟩
      rcases List.mem_cons.mp hf with e | hf
      · rw [e]
        exact ⟨trivial, trivial⟩
      · exact h1 f hf
    rw [if_neg k6] at h
    by_cases k0 : k = 0
    · rw [if_pos k0] at h
      refine NmS_V h1 (fun u hu => ?_) h3 h4 h
      rw [List.mem_singleton.mp hu]
      exact ht k0
    rw [if_neg k0] at h
    by_cases k1 : k = 1
    · rw [if_pos k1] at h
      exact NmS_V h1 (fun u hu => (by cases hu)) h3 h4 h
    · rw [if_neg k1] at h
      cases h
  rw [if_neg n2] at h
  cases fs with
  | nil => cases h
  | cons f r =>
    obtain ⟨f1, f2⟩ := h1 f (List.mem_cons_self ..)
    have hr : ∀ g ∈ r, NmO P g.1 ∧ NmO P g.2 := fun g hg => h1 g (List.mem_cons_of_mem _ hg)
    unfold vmE at h
    dsimp only at h
    by_cases k4 : k = 4
    · rw [if_pos k4] at h
      cases h
      refine ⟨fun g hg => ?_, NmA_0, fun _ => h3, h4⟩
      rcases List.mem_cons.mp hg with e | hg
      · rw [e]
        exact ⟨NmA_Ao f1 h2, trivial⟩
      · exact hr g hg
    rw [if_neg k4] at h
    by_cases k5 : k = 5
    · rw [if_pos k5] at h
      cases h
      refine ⟨fun g hg => ?_, NmA_0, fun _ => h3, h4⟩
      rcases List.mem_cons.mp hg with e | hg
      · rw [e]
        exact ⟨f1, h2⟩
      · exact hr g hg
    rw [if_neg k5] at h
    by_cases k7 : k = 7
    · rw [if_pos k7] at h
      exact NmS_V hr (NmA_Ao f1 h2) h3 h4 h
    rw [if_neg k7] at h
    by_cases k3 : k = 3 ∧ r = []
    · rw [if_pos k3] at h
      cases h
      refine ⟨nil, NmA_0, fun q => absurd (show 1 ≤ (0 : Nat) from q) (by decide), fun q hq => ?_⟩
      rcases List.mem_append.mp hq with hq | hq
      · exact h4 q hq
      · rw [List.mem_singleton.mp hq]
        exact ⟨h3, NmA_Ao f1 h2⟩
    · rw [if_neg k3] at h
      cases h
theorem NmS_L {P : Int64 → Prop} : ∀ {l : List TkV} {s s' : VmZ}, NmS P s → (∀ t ∈ l, t.1 = 0 → P t.2.1) → vmL l s = some s' → NmS P s'
  | [], s, s', hs, _, h => by
    cases h
    exact hs
  | t :: l, s, s', hs, ht, h => by
    have h : (vmN s t).bind (vmL l) = some s' := h
    cases ha : vmN s t with
    | none =>
      rw [ha] at h
      cases h
    | some s1 =>
      rw [ha] at h
      exact NmS_L (NmS_N hs (ht t (List.mem_cons_self ..)) ha) (fun u hu => ht u (List.mem_cons_of_mem _ hu)) h
theorem NmS_0 {P : Int64 → Prop} : NmS P (0, 0, [], va0, 0, []) := ⟨fun f hf => (by cases hf), NmA_0, fun q => absurd (show 1 ≤ (0 : Nat) from q) (by decide), fun q hq => (by cases hq)⟩
/-- a token of a NAME is letters alone, 8 at most -/
theorem tkx_nm {l : List Int32} : ∀ p ∈ tkx l, p.1 = 0 → 1 ≤ p.2.length ∧ p.2.length ≤ 8 ∧ ∀ j, j < p.2.length → isL (bsF p.2 j) = true := fun p hp h0 => by
  obtain ⟨x, hx, e⟩ := List.mem_map.mp hp
  have hb := lexF_bd _ _ x hx
  have hk : ∀ f i, ∀ x ∈ lexF (txF l) l.length f i, x.1 = 0 → ∀ j, j < x.2.2 → isL (txF l (x.2.1 + j)) = true := by
    intro f
    induction f with
    | zero => exact fun i x hx => (by cases hx)
    | succ f ih =>
      intro i x hx h0 j hj
      rw [lexF] at hx
      by_cases h : l.length ≤ i
      · rw [if_pos h] at hx
        cases hx
      · rw [if_neg h] at hx
        by_cases hB : isB (txF l i) = true
        · rw [if_pos hB] at hx
          exact ih (i + 1) x hx h0 j hj
        · rw [if_neg hB] at hx
          rcases List.mem_cons.mp hx with rfl | hx
          · dsimp only at h0 hj ⊢
            unfold tkP at h0 hj
            by_cases hL : isL (txF l i) = true
            · rw [if_pos hL] at h0 hj
              by_cases h8 : 8 < runN isL (txF l) (l.length - i) i
              · rw [if_pos h8] at h0
                cases h0
              · rw [if_neg h8] at hj
                exact runN_all isL (txF l) _ i j hj
            · rw [if_neg hL] at h0
              by_cases hD : isD (txF l i) = true
              · rw [if_pos hD] at h0
                by_cases h8 : 4 < runN isD (txF l) (l.length - i) i
                · rw [if_pos h8] at h0
                  cases h0
                · rw [if_neg h8] at h0
                  cases h0
              · rw [if_neg hD] at h0
                exact absurd h0 (sgn_not _).1
          · exact ih _ x hx h0 j hj
  rw [← e] at h0 ⊢
  refine ⟨?_, ?_, fun j hj => ?_⟩
  · show 1 ≤ (tkBs (txF l) x).length
    rw [tkBs_len]
    exact hb.2.1
  · show (tkBs (txF l) x).length ≤ 8
    rw [tkBs_len]
    exact hb.2.2.2
  · have hj : j < (tkBs (txF l) x).length := hj
    rw [tkBs_len] at hj
    show isL (bsF (tkBs (txF l) x) j) = true
    rw [tkBs_at hj]
    exact hk _ _ x hx h0 j hj
theorem nm_ne0 {u : List Int32} (h1 : 1 ≤ u.length) (h8 : u.length ≤ 8) (hu : ∀ j, j < u.length → isL (bsF u j) = true) : isV (bsF u) (0, 0, u.length) ≠ 0 := fun h => by
  have := nm_inj (u := u) (v := []) hu (fun j hj => absurd hj (Nat.not_lt_zero _)) h8 (Nat.zero_le _) (h.trans rfl)
  rw [this] at h1
  exact absurd h1 (by decide)
/-- with a NAME changed, what is read is as it was, with that NAME changed -/
theorem ren_vm {T tp : List Int32} {p0 : Nat × List Int32} {dn : List (Int64 × VaZ)} (hp : p0 ∈ tkx T) (h0 : p0.1 = 0) (htp : nmOk tp = true) (h : vmL ((tkx T).map tvX) (0, 0, [], va0, 0, []) = some (0, 0, [], va0, 0, dn)) :
    vmL (((tkx T).map (rhoT p0 tp)).map tvX) (0, 0, [], va0, 0, []) = some (0, 0, [], va0, 0, dn.map (mpQ (thV (tvX p0).2.1 (tvX (0, tp)).2.1))) := by
  obtain ⟨p1, p8, pL⟩ := tkx_nm p0 hp h0
  have ev : ∀ p : Nat × List Int32, p.1 = 0 → (tvX p).2.1 = isV (bsF p.2) (0, 0, p.2.length) := fun p hp0 => by
    show isV (bsF p.2) (p.1, 0, p.2.length) = _
    rw [hp0]
  have hne : (tvX p0).2.1 ≠ 0 := by
    rw [ev p0 h0]
    exact nm_ne0 p1 p8 pL
  have h00 : thV (tvX p0).2.1 (tvX (0, tp)).2.1 0 = 0 := by
    unfold thV
    rw [if_neg (fun q => hne q.symm)]
  rw [List.map_map, vmL_q (f := tvX ∘ rhoT p0 tp) (g := fun p => mpT (thV (tvX p0).2.1 (tvX (0, tp)).2.1) (tvX p)) (fun p hpT => ?_)]
  · have := vmL_mp h00 (l := (tkx T).map tvX) (s := (0, 0, [], va0, 0, []))
    rw [h, List.map_map] at this
    have e0 : mpS (thV (tvX p0).2.1 (tvX (0, tp)).2.1) (0, 0, [], va0, 0, []) = (0, 0, [], va0, 0, []) := by
      show ((0 : Nat), (0 : Nat), ([] : List FrZ), va0, thV (tvX p0).2.1 (tvX (0, tp)).2.1 0, ([] : List (Int64 × VaZ))) = _
      rw [h00]
    rw [e0] at this
    refine this.trans ?_
    show some ((0 : Nat), (0 : Nat), ([] : List FrZ), va0, thV (tvX p0).2.1 (tvX (0, tp)).2.1 0, dn.map (mpQ (thV (tvX p0).2.1 (tvX (0, tp)).2.1))) = _
    rw [h00]
  · show TkQ (tvX (rhoT p0 tp p)) (mpT (thV (tvX p0).2.1 (tvX (0, tp)).2.1) (tvX p))
    have hk : (rhoT p0 tp p).1 = p.1 := rho_kd h0
    refine ⟨hk, fun q => ?_, fun q => ?_⟩
    · have q : p.1 = 0 := hk.symm.trans q
      show (tvX (rhoT p0 tp p)).2.1 = thV (tvX p0).2.1 (tvX (0, tp)).2.1 (tvX p).2.1
      unfold rhoT thV
      by_cases e : p = p0
      · rw [if_pos e, if_pos (by rw [e])]
      · rw [if_neg e, if_neg]
        intro u
        rw [ev p q, ev p0 h0] at u
        obtain ⟨r1, r8, rL⟩ := tkx_nm p hpT q
        have := nm_inj rL pL r8 p8 u
        exact e (Prod.ext (q.trans h0.symm) this)
    · have q : p.1 = 1 := hk.symm.trans q
      show (tvX (rhoT p0 tp p)).2.2 = (tvX p).2.2
      unfold rhoT
      rw [if_neg]
      intro e
      rw [e, h0] at q
      cases q
/-! ===== FRESH by the KINDS alone; NAMES read ===== -/
theorem kdF_mp {l : List (Nat × Nat × Nat)} {i : Nat} : kdF l i = (l.map (fun x => x.1)).getD i 10 := by
  unfold kdF
  rw [List.getD_eq_getElem?_getD, List.getD_eq_getElem?_getD, List.getElem?_map]
  cases l[i]? with
  | none => rfl
  | some x => rfl
theorem kdF_cg {l l' : List Int32} (h : kdsL l' = kdsL l) : kdF (lexL l') = kdF (lexL l) ∧ (lexL l').length = (lexL l).length := by
  constructor
  · funext i
    rw [kdF_mp, kdF_mp, kds_lex, kds_lex, h]
  · have := congrArg List.length h
    rw [kds_len, kds_len] at this
    rw [lexL_toks, lexL_toks, List.length_append, List.length_append, this]
    rfl
theorem sz_kds {N N' : Nat → Nd} {y y' : Mo} (hd : txOk (moG y)) (f : FrM N y) (f' : FrM N' y') (h : kdsL (moG y') = kdsL (moG y)) : sz N' (moR y') = sz N (moR y) := by
  obtain ⟨e1, e2⟩ := kdF_cg h
  unfold FrM at f f'
  rw [e1, e2] at f'
  have hx := lex_lxo hd
  have h1 := hx.2.1
  have hlt : (lexL (moG y)).length - 1 < (lexL (moG y)).length := by omega
  have hj := List.getElem?_eq_getElem hlt
  have h10 : kdF (lexL (moG y)) ((lexL (moG y)).length - 1) = 10 := by
    rw [kdF_at hj]
    exact (hx.2.2.2 _ _ hj).mpr (by omega)
  have hn : lNx (kdF (lexL (moG y))) ((lexL (moG y)).length - 1) [(0, 0), (0, 1)] = none := by
    unfold lNx
    rw [h10]
    have ht : topS [(0, 0), (0, 1)] = 1 := rfl
    rw [ht]
    have a : ldN 1 (5 + 10) = 0 := by decide +kernel
    have b : rlN 1 = none := by decide +kernel
    rw [if_pos a, b]
  exact RC.cnt f' f hn hn
theorem fresh_kds {x x' : Sg} (hv : Iv x) (hv' : Iv x') (f : Fr x) (f' : Fr x') (h : kdsL (moG (sgC x')) = kdsL (moG (sgC x))) : vFresh x' = vFresh x := by
  have hN := hv.2.1
  have hN' := hv'.2.1
  have hC := hv.2.2.2.2.2.2.2.1
  have hC' := hv'.2.2.2.2.2.2.2.1
  have e := sz_kds hC.2.1 f.1 f'.1 h
  have l1 : (FF x).length = sz (sgN x) (moR (sgC x)) := fl_len hN _ hC.2.2.2.1.1 0 0 0 1
  have l2 : (FF x').length = sz (sgN x') (moR (sgC x')) := fl_len hN' _ hC'.2.2.2.1.1 0 0 0 1
  unfold vFresh
  rw [l1, l2, e]
/-- nodes by which a NAME is read -/
def c8N (N : Nat → Nd) (c : Nat) : Nat := ((po N c).map (fun z => if ndR (N z) = 8 then 1 else 0)).sum
theorem c8_eq {m c : Nat} {N : Nat → Nd} (h : NdOk m N) (hc : c < m) : c8N N c = (if ndR (N c) = 8 then 1 else 0) + ((ndC (N c)).map (c8N N)).sum := by
  unfold c8N
  rw [po_eq h hc, List.map_cons, List.sum_cons]
  congr 1
  generalize ndC (N c) = l
  induction l with
  | nil => rfl
  | cons a l ih => rw [List.flatMap_cons, List.map_append, List.sum_append, List.map_cons, List.sum_cons, ih]
theorem rdSz_app {u v : List (Int64 × VaZ)} : rdSz (u ++ v) = rdSz u + rdSz v := by
  unfold rdSz
  rw [List.map_append, List.sum_append]
theorem c8_nd {m : Nat} {N : Nat → Nd} (h : NdOk m N) (c : Nat) : c < m → (ndM (N c) = 4 ∨ ndM (N c) = 3 ∨ ndM (N c) = 2 → c8N N c = (vaC N c).2.1.length) ∧ (ndM (N c) = 1 ∨ ndM (N c) = 0 → c8N N c = rdSz (stVz N c)) ∧ (5 ≤ ndM (N c) → c8N N c = 0) := by
  induction c using Nat.strongRecOn with
  | ind c ih =>
    intro hc
    have he := c8_eq h hc
    rcases h c hc with ⟨e1, e2, -⟩ | ⟨r, s, hr, -, e3, -⟩
    · have : ndM (N c) = 5 + ndK (N c) := by
        unfold ndM
        rw [if_pos (by omega)]
      refine ⟨fun q => by omega, fun q => by omega, fun _ => ?_⟩
      rw [he, e2, if_neg (by omega)]
      rfl
    · have hM : ndM (N c) = syN r := by
        unfold ndM
        rw [e3, if_neg (by omega)]
        rfl
      have kid : ∀ k y : Nat, (rhS r)[k]? = some y → ndM (N (chN (N c) k)) = y ∧ chN (N c) k < c ∧ chN (N c) k < m := fun k y hk => by
        obtain ⟨-, a, b⟩ := chN_is h hc e3 hk
        exact ⟨a, b, by omega⟩
      have tk : ∀ k y : Nat, (rhS r)[k]? = some y → 5 ≤ y → c8N N (chN (N c) k) = 0 := fun k y hk hy => by
        obtain ⟨a, b, d⟩ := kid k _ hk
        exact (ih _ b d).2.2 (by omega)
      have kv : ∀ k y : Nat, (rhS r)[k]? = some y → (y = 4 ∨ y = 3 ∨ y = 2) → c8N N (chN (N c) k) = (vaC N (chN (N c) k)).2.1.length := fun k y hk hy => by
        obtain ⟨a, b, d⟩ := kid k _ hk
        exact (ih _ b d).1 (by rw [a]; exact hy)
      have ks : ∀ k y : Nat, (rhS r)[k]? = some y → (y = 1 ∨ y = 0) → c8N N (chN (N c) k) = rdSz (stVz N (chN (N c) k)) := fun k y hk hy => by
        obtain ⟨a, b, d⟩ := kid k _ hk
        exact (ih _ b d).2.1 (by rw [a]; exact hy)
      have hv := vaC_r h hc e3
      rw [kidsL h hc e3] at he
      have h5 : syN r < 5 := by
        have hf : ∀ r, r < 11 → syN r < 5 := by decide +kernel
        exact hf r hr
      have h11 : r = 0 ∨ r = 1 ∨ r = 2 ∨ r = 3 ∨ r = 4 ∨ r = 5 ∨ r = 6 ∨ r = 7 ∨ r = 8 ∨ r = 9 ∨ r = 10 := by omega
      rcases h11 with e | e | e | e | e | e | e | e | e | e | e <;> subst e
      · have hS : syN 0 = 0 := by decide +kernel
        refine ⟨fun q => by omega, fun _ => ?_, fun q => by omega⟩
        have hs : stVz N c = [] := by
          unfold stVz
          rw [s2L_eq h hc, if_neg (by omega), kidsL h hc e3]
          rfl
        rw [he, hs, if_neg (by omega)]
        rfl
      · have hS : syN 1 = 0 := by decide +kernel
        refine ⟨fun q => by omega, fun _ => ?_, fun q => by omega⟩
        have hs : stVz N c = stVz N (chN (N c) 0) ++ stVz N (chN (N c) 1) := by
          unfold stVz
          rw [s2L_eq h hc, if_neg (by omega), kidsL h hc e3, ← List.map_append]
          show ((s2L N (chN (N c) 0) ++ (s2L N (chN (N c) 1) ++ []))).map _ = _
          rw [List.append_nil]
        have he : c8N N c = (if ndR (N c) = 8 then 1 else 0) + (c8N N (chN (N c) 0) + (c8N N (chN (N c) 1) + 0)) := he
        rw [he, hs, rdSz_app, if_neg (by omega), ks 0 0 rfl (.inr rfl), ks 1 1 rfl (.inl rfl)]
        omega
      · have hS : syN 2 = 1 := by decide +kernel
        refine ⟨fun q => by omega, fun _ => ?_, fun q => by omega⟩
        obtain ⟨a1, a2, a3⟩ := kid 2 2 rfl
        have hs : stVz N c = [(nmV N (chN (N c) 0), vaC N (chN (N c) 2))] := by
          obtain ⟨z1, -, z3⟩ := kid 0 5 rfl
          obtain ⟨y1, -, y3⟩ := kid 1 7 rfl
          obtain ⟨x1, -, x3⟩ := kid 3 8 rfl
          unfold stVz
          rw [s2L_eq h hc, if_pos (by omega), kidsL h hc e3]
          show (c :: (s2L N (chN (N c) 0) ++ (s2L N (chN (N c) 1) ++ (s2L N (chN (N c) 2) ++ (s2L N (chN (N c) 3) ++ []))))).map _ = _
          rw [s2L_no h _ z3 (by omega), s2L_no h _ y3 (by omega), s2L_no h _ a3 (by omega), s2L_no h _ x3 (by omega)]
          rfl
        have he : c8N N c = (if ndR (N c) = 8 then 1 else 0) + (c8N N (chN (N c) 0) + (c8N N (chN (N c) 1) + (c8N N (chN (N c) 2) + (c8N N (chN (N c) 3) + 0)))) := he
        rw [he, hs, if_neg (by omega), tk 0 5 rfl (by decide), tk 1 7 rfl (by decide), tk 3 8 rfl (by decide), kv 2 2 rfl (.inr (.inr rfl))]
        show _ = (vaC N (chN (N c) 2)).2.1.length + 0
        omega
      · have hS : syN 3 = 1 := by decide +kernel
        refine ⟨fun q => by omega, fun _ => ?_, fun q => by omega⟩
        have hs : stVz N c = stVz N (chN (N c) 1) := by
          obtain ⟨z1, -, z3⟩ := kid 0 13 rfl
          obtain ⟨x1, -, x3⟩ := kid 2 14 rfl
          unfold stVz
          rw [s2L_eq h hc, if_neg (by omega), kidsL h hc e3]
          show ((s2L N (chN (N c) 0) ++ (s2L N (chN (N c) 1) ++ (s2L N (chN (N c) 2) ++ [])))).map _ = _
          rw [s2L_no h _ z3 (by omega), s2L_no h _ x3 (by omega), List.nil_append, List.nil_append, List.append_nil]
        have he : c8N N c = (if ndR (N c) = 8 then 1 else 0) + (c8N N (chN (N c) 0) + (c8N N (chN (N c) 1) + (c8N N (chN (N c) 2) + 0))) := he
        rw [he, hs, if_neg (by omega), tk 0 13 rfl (by decide), tk 2 14 rfl (by decide), ks 1 0 rfl (.inr rfl)]
        omega
      · have hS : syN 4 = 2 := by decide +kernel
        refine ⟨fun _ => ?_, fun q => by omega, fun q => by omega⟩
        have he : c8N N c = (if ndR (N c) = 8 then 1 else 0) + (c8N N (chN (N c) 0) + (c8N N (chN (N c) 1) + (c8N N (chN (N c) 2) + 0))) := he
        rw [he, hv, if_neg (by omega), tk 1 9 rfl (by decide), kv 0 2 rfl (.inr (.inr rfl)), kv 2 3 rfl (.inr (.inl rfl))]
        show _ = ((vaC N (chN (N c) 0)).2.1 ++ (vaC N (chN (N c) 2)).2.1).length
        rw [List.length_append]
        omega
      · have hS : syN 5 = 2 := by decide +kernel
        refine ⟨fun _ => ?_, fun q => by omega, fun q => by omega⟩
        have he : c8N N c = (if ndR (N c) = 8 then 1 else 0) + (c8N N (chN (N c) 0) + 0) := he
        rw [he, hv, if_neg (by omega), kv 0 3 rfl (.inr (.inl rfl))]
        show _ = (vaC N (chN (N c) 0)).2.1.length
        omega
      · have hS : syN 6 = 3 := by decide +kernel
        refine ⟨fun _ => ?_, fun q => by omega, fun q => by omega⟩
        have he : c8N N c = (if ndR (N c) = 8 then 1 else 0) + (c8N N (chN (N c) 0) + (c8N N (chN (N c) 1) + (c8N N (chN (N c) 2) + 0))) := he
        rw [he, hv, if_neg (by omega), tk 1 10 rfl (by decide), kv 0 3 rfl (.inr (.inl rfl)), kv 2 4 rfl (.inl rfl)]
        show _ = ((vaC N (chN (N c) 0)).2.1 ++ (vaC N (chN (N c) 2)).2.1).length
        rw [List.length_append]
        omega
      · have hS : syN 7 = 3 := by decide +kernel
        refine ⟨fun _ => ?_, fun q => by omega, fun q => by omega⟩
        have he : c8N N c = (if ndR (N c) = 8 then 1 else 0) + (c8N N (chN (N c) 0) + 0) := he
        rw [he, hv, if_neg (by omega), kv 0 4 rfl (.inl rfl)]
        show _ = (vaC N (chN (N c) 0)).2.1.length
        omega
      · have hS : syN 8 = 4 := by decide +kernel
        refine ⟨fun _ => ?_, fun q => by omega, fun q => by omega⟩
        have he : c8N N c = (if ndR (N c) = 8 then 1 else 0) + (c8N N (chN (N c) 0) + 0) := he
        rw [he, hv, if_pos (by omega), tk 0 5 rfl (by decide)]
        rfl
      · have hS : syN 9 = 4 := by decide +kernel
        refine ⟨fun _ => ?_, fun q => by omega, fun q => by omega⟩
        have he : c8N N c = (if ndR (N c) = 8 then 1 else 0) + (c8N N (chN (N c) 0) + 0) := he
        rw [he, hv, if_neg (by omega), tk 0 6 rfl (by decide)]
        rfl
      · have hS : syN 10 = 4 := by decide +kernel
        refine ⟨fun _ => ?_, fun q => by omega, fun q => by omega⟩
        have he : c8N N c = (if ndR (N c) = 8 then 1 else 0) + (c8N N (chN (N c) 0) + (c8N N (chN (N c) 1) + (c8N N (chN (N c) 2) + 0))) := he
        rw [he, hv, if_neg (by omega), tk 0 11 rfl (by decide), tk 2 12 rfl (by decide), kv 1 2 rfl (.inr (.inr rfl))]
        show _ = (vaC N (chN (N c) 1)).2.1.length
        omega
/-- NAMES read, as often as they are -/
theorem reads_is {x : Sg} (hv : Iv x) : cnR (sgN x) 8 (FF x) = rdSz (stVz (sgN x) (moR (sgC x))) := by
  have hN := hv.2.1
  have hC := hv.2.2.2.2.2.2.2.1
  have hR := hC.2.2.2.1.1
  rw [← (c8_nd hN _ hR).2.1 (.inr hC.2.2.2.1.2.1)]
  unfold cnR c8N
  rw [← fl_map hN _ hR 0 0 0 1, List.map_map]
  rfl
/-! ===== the first that can not stand there, as the law tells it; undone and done again ===== -/
def wrG : List Nat → AuZ → Nat → Int32
  | [], _, i => zi i
  | y :: l, s, i => match auN s y with
    | some s' => wrG l s' (i + 1)
    | none => if s.1 = 0 ∧ y = 10 ∧ s.2.1 = 0 then -1 else zi i
theorem auN_10 {s : AuZ} : auN s 10 = none := by
  unfold auN
  by_cases s0 : s.1 = 0
  · rw [if_pos s0, if_neg (by decide), if_neg (by decide), if_neg (fun q => absurd q.1 (by decide))]
  rw [if_neg s0]
  by_cases s1 : s.1 = 1
  · rw [if_pos s1, if_neg (by decide)]
  rw [if_neg s1]
  by_cases s2 : s.1 = 2
  · rw [if_pos s2, if_neg (by decide), if_neg (by decide)]
  rw [if_neg s2, if_neg (show ¬ ((10 : Nat) = 4 ∨ (10 : Nat) = 5) by decide), if_neg (fun q => absurd q.1 (by decide)), if_neg (fun q => absurd q.1 (by decide))]
theorem wrG_is : ∀ {u : List Nat} {s : AuZ} {i : Nat}, (∀ y ∈ u, y ≠ 10) → i + u.length < 2147483647 → (wrG (u ++ [10]) s i < 0 ↔ auA (u ++ [10]) s = true) ∧ -1 ≤ wrG (u ++ [10]) s i
  | [], s, i, _, hi => by
    show ((match auN s 10 with
      | some s' => wrG [] s' (i + 1)
      | none => if s.1 = 0 ∧ (10 : Nat) = 10 ∧ s.2.1 = 0 then -1 else zi i) < 0 ↔ (if (10 : Nat) = 10 then decide (s.1 = 0 ∧ s.2.1 = 0) else _) = true) ∧ -1 ≤ (match auN s 10 with
      | some s' => wrG [] s' (i + 1)
      | none => if s.1 = 0 ∧ (10 : Nat) = 10 ∧ s.2.1 = 0 then -1 else zi i)
    rw [auN_10]
    dsimp only
    have hi : i < 2147483648 := by
      have : i + 0 < 2147483647 := hi
      omega
    have h1 : (-1 : Int32) < 0 := by decide +kernel
    have h2 : (-1 : Int32) ≤ -1 := by decide +kernel
    by_cases h : s.1 = 0 ∧ s.2.1 = 0
    · rw [if_pos (show s.1 = 0 ∧ (10 : Nat) = 10 ∧ s.2.1 = 0 from ⟨h.1, rfl, h.2⟩), if_pos rfl, decide_eq_true h]
      exact ⟨⟨fun _ => rfl, fun _ => h1⟩, h2⟩
    · rw [if_neg (show ¬ (s.1 = 0 ∧ (10 : Nat) = 10 ∧ s.2.1 = 0) from fun q => h ⟨q.1, q.2.2⟩), if_pos rfl, decide_eq_false h]
      refine ⟨⟨fun q => absurd q (zi_pos hi), fun q => (by cases q)⟩, ?_⟩
      have := zi_ge hi
      exact Int32.le_trans (by decide +kernel) this
  | y :: u, s, i, hu, hi => by
    have hy := hu y (List.mem_cons_self ..)
    have hi2 : i + (u.length + 1) < 2147483647 := hi
    show ((match auN s y with
      | some s' => wrG (u ++ [10]) s' (i + 1)
      | none => if s.1 = 0 ∧ y = 10 ∧ s.2.1 = 0 then -1 else zi i) < 0 ↔ (if y = 10 then _ else (match auN s y with
      | some s' => auA (u ++ [10]) s'
      | none => false)) = true) ∧ -1 ≤ (match auN s y with
      | some s' => wrG (u ++ [10]) s' (i + 1)
      | none => if s.1 = 0 ∧ y = 10 ∧ s.2.1 = 0 then -1 else zi i)
    rw [if_neg hy]
    cases auN s y with
    | some s' => exact wrG_is (fun z hz => hu z (List.mem_cons_of_mem _ hz)) (by omega)
    | none =>
      dsimp only
      rw [if_neg (show ¬ (s.1 = 0 ∧ y = 10 ∧ s.2.1 = 0) from fun q => hy q.2.1)]
      refine ⟨⟨fun q => absurd q (zi_pos (by omega)), fun q => (by cases q)⟩, ?_⟩
      exact Int32.le_trans (by decide +kernel) (zi_ge (by omega))
/-- of a text: that it is let through -/
theorem wrong_is {l : List Int32} (h : txOk l) : wrG ((lexL l).map (fun x => x.1)) (0, 0, 0) 0 < 0 ↔ auL (kdsL l) Z0 = some Z0 := by
  rw [kds_lex, ← auA_kds h.2.1]
  refine (wrG_is (fun y hy => (kds_ne h.2.1 y hy).2) ?_).1
  have := h.2.2
  rw [lexL_toks, List.length_append] at this
  rw [kds_len]
  have : (toks l).length + 1 ≤ 100 := this
  omega
theorem undo_red {x : Sg} (h : 1 ≤ (sgA x).length) : (undoR x).1 = 1 ∧ (sgA (undoR x).2).length + 1 = (sgA x).length ∧ (sgZ (undoR x).2).length = (sgZ x).length + 1 ∧ redoR (undoR x).2 = (1, x) := by
  obtain ⟨T, ⟨M, N⟩, P, E, A, C, Z⟩ := x
  have h : 1 ≤ A.length := h
  cases A with
  | nil => exact absurd h (by decide)
  | cons y A => exact ⟨rfl, rfl, rfl, rfl⟩
theorem undo_no {x : Sg} (h : (sgA x).length = 0) : undoR x = (0, x) := by
  obtain ⟨T, ⟨M, N⟩, P, E, A, C, Z⟩ := x
  have h : A.length = 0 := h
  cases A with
  | nil => rfl
  | cons y A => exact absurd h (Nat.succ_ne_zero _)
theorem redo_no {x : Sg} (h : (sgZ x).length = 0) : redoR x = (0, x) := by
  obtain ⟨T, ⟨M, N⟩, P, E, A, C, Z⟩ := x
  have h : Z.length = 0 := h
  cases Z with
  | nil => rfl
  | cons y Z => exact absurd h (Nat.succ_ne_zero _)
theorem redo_red {x : Sg} (h : 1 ≤ (sgZ x).length) : (redoR x).1 = 1 ∧ (sgA (redoR x).2).length = (sgA x).length + 1 ∧ (sgZ (redoR x).2).length + 1 = (sgZ x).length := by
  obtain ⟨T, ⟨M, N⟩, P, E, A, C, Z⟩ := x
  have h : 1 ≤ Z.length := h
  cases Z with
  | nil => exact absurd h (by decide)
  | cons y Z => exact ⟨rfl, rfl, rfl⟩
/-- so many undone -/
def undK : Nat → Sg → Sg
  | 0, x => x
  | k + 1, x => undK k (undoR x).2
theorem undK_s {x : Sg} : ∀ k, undK (k + 1) x = (undoR (undK k x)).2
  | 0 => rfl
  | k + 1 => undK_s (x := (undoR x).2) k
theorem undK_len {x : Sg} : ∀ k, k ≤ (sgA x).length → (sgA (undK k x)).length + k = (sgA x).length ∧ (sgZ (undK k x)).length = (sgZ x).length + k
  | 0, _ => ⟨rfl, rfl⟩
  | k + 1, h => by
    obtain ⟨i1, i2⟩ := undK_len (x := x) k (by omega)
    obtain ⟨-, a2, a3, -⟩ := undo_red (x := undK k x) (by omega)
    rw [undK_s]
    exact ⟨by omega, by omega⟩
theorem undK_redo {x : Sg} {k : Nat} (h : k + 1 ≤ (sgA x).length) : redoR (undK (k + 1) x) = (1, undK k x) := by
  obtain ⟨i1, -⟩ := undK_len (x := x) k (by omega)
  rw [undK_s]
  exact (undo_red (by omega)).2.2.2
/-! ===== what a state tells behind a NAME changed, behind the PRINT in the place of all ===== -/
theorem tok_x {m : Nat} {N : Nat → Nd} {y : Mo} (o : MoOk m N y) {i : Nat} (hi : i < (toks (moG y)).length) : (tkx (moG y))[i]? = some (ndX N (moO y i)) := by
  have hlen : (lexL (moG y)).length = (toks (moG y)).length + 1 := by
    rw [lexL_toks, List.length_append]
    rfl
  rw [← yl_tkx o, o.2.2.2.1.2.2.1, List.getElem?_map, List.getElem?_map, List.getElem?_range (by omega)]
  rfl
/-- the number of a token's NAME -/
theorem tok_v {m : Nat} {N : Nat → Nd} {y : Mo} (o : MoOk m N y) {i : Nat} {p : Nat × List Int32} (hp : (tkx (moG y))[i]? = some p) : nmV N (moO y i) = (tvX p).2.1 ∧ ndK (N (moO y i)) = p.1 := by
  have hi : i < (toks (moG y)).length := by
    have := (List.getElem?_eq_some_iff.mp hp).1
    have hX : tkx (moG y) = (toks (moG y)).map (tkB (moG y)) := rfl
    rw [hX, List.length_map] at this
    exact this
  rw [tok_x o hi] at hp
  have e := Option.some.inj hp
  subst e
  exact ⟨rfl, rfl⟩
theorem gnI_is {x : Sg} (hv : Iv x) {i : Nat} {p : Nat × List Int32} (hp : (tkx (moG (sgC x)))[i]? = some p) : gnI x (zi i) = if p.1 = 0 then some i else none := by
  have hN := hv.2.1
  have hC := hv.2.2.2.2.2.2.2.1
  have hlen : nG x = (toks (moG (sgC x))).length + 1 := by
    show (lexL (moG (sgC x))).length = _
    rw [lexL_toks, List.length_append]
    rfl
  have hi : i < (toks (moG (sgC x))).length := by
    have := (List.getElem?_eq_some_iff.mp hp).1
    have hX : tkx (moG (sgC x)) = (toks (moG (sgC x))).map (tkB (moG (sgC x))) := rfl
    rw [hX, List.length_map] at this
    exact this
  have h100 : nG x ≤ 100 := hC.2.1.2.2
  obtain ⟨-, k⟩ := tok_v hC hp
  obtain ⟨-, hr⟩ := hC.2.2.2.1.2.2.2.2.1 i (show i < nG x by omega)
  have hM : ndM (sgN x (moO (sgC x) i)) = 5 + p.1 := by
    unfold ndM
    rw [if_pos (by omega), k]
  unfold gnI
  rw [ixI_some (by omega) (show i < nG x by omega)]
  dsimp only
  by_cases h0 : p.1 = 0
  · rw [if_pos h0, if_pos (by omega)]
  · rw [if_neg h0, if_neg (by omega)]
theorem value_is {x : Sg} (hv : Iv x) {i : Nat} {p : Nat × List Int32} (hp : (tkx (moG (sgC x)))[i]? = some p) : vValue x (zi i) = (if p.1 = 0 then enV (stVz (sgN x) (moR (sgC x))) (fun _ => 0) (tvX p).2.1 else 0) ∧ vSets x (zi i) = (if p.1 = 0 then zi (tmV (tvX p).2.1 (stVz (sgN x) (moR (sgC x)))) else 0) := by
  obtain ⟨a1, a2, -⟩ := vals_is hv
  obtain ⟨k, -⟩ := tok_v hv.2.2.2.2.2.2.2.1 hp
  unfold vValue vSets
  rw [gnI_is hv hp]
  by_cases h0 : p.1 = 0
  · rw [if_pos h0, if_pos h0, if_pos h0]
    dsimp only
    rw [k, a1, a2]
    exact ⟨rfl, rfl⟩
  · rw [if_neg h0, if_neg h0, if_neg h0]
    exact ⟨rfl, rfl⟩
/-- good, with the NAME changed: RUNS, FRESH, what is read -/
theorem rename_is {x : Sg} (hv : Iv x) (hl : Lv x) (hf : Fr x) (he : sgE x < 512) (hb : moB (sgC x) = true) (htp : nmOk (sgT x) = true) {i : Nat} (hi : i < (toks (moT (sgC x))).length) (hk : ((toks (moT (sgC x))).getD i (10, 0, 0)).1 = 0) (hd : BtL (renD x i)) (hr : ¬ refu x (renD x i)) :
    (doC x (renD x i) true).1 = 0 ∧ moT (sgC (doC x (renD x i) true).2) = renD x i ∧ moB (sgC (doC x (renD x i) true).2) = true ∧ (rnR (doC x (renD x i) true).2).length = (rnR x).length ∧ vFresh (doC x (renD x i) true).2 = vFresh x ∧
    stVz (sgN (doC x (renD x i) true).2) (moR (sgC (doC x (renD x i) true).2)) = (stVz (sgN x) (moR (sgC x))).map (mpQ (thV (tvX (tkB (moT (sgC x)) ((toks (moT (sgC x))).getD i (10, 0, 0)))).2.1 (tvX (0, sgT x)).2.1)) := by
  have hN := hv.2.1
  have hC := hv.2.2.2.2.2.2.2.1
  have hT := hC.2.2.1 hb
  obtain ⟨d1, d2, d3, d4⟩ := doC_is (bt := true) hv hl hd he hr
  have hI := (doC_iv (bt := true) hv hd he).1
  have hF := doC_fr (bt := true) hv hd hl hf
  have hkd := renD_kd hv hb htp hi hk
  have hg := au_good hN hC
  rw [← hT] at hg
  have hb' : moB (sgC (doC x (renD x i) true).2) = true := d3.mpr (by rw [hkd]; exact hg)
  have hN' := hI.2.1
  have hC' := hI.2.2.2.2.2.2.2.1
  have hT' := hC'.2.2.1 hb'
  refine ⟨by rw [d2, if_pos hb'], d1, hb', ?_, ?_, ?_⟩
  · rw [d4 hb', hkd]
    have := tc_good hN hC
    rw [← hT] at this
    exact this
  · refine fresh_kds hv hI hf hF ?_
    rw [← hT', d1, hkd, hT]
  · have g1 := rd_good hN hC
    have g2 := rd_good hN' hC'
    rw [← hT', d1, renD_tkx hv hb htp hi hk] at g2
    rw [← hT] at g1
    have hmem : tkB (moT (sgC x)) ((toks (moT (sgC x))).getD i (10, 0, 0)) ∈ tkx (moT (sgC x)) := by
      refine List.mem_map.mpr ⟨(toks (moT (sgC x))).getD i (10, 0, 0), ?_, rfl⟩
      rw [List.getD_eq_getElem?_getD, List.getElem?_eq_getElem hi]
      exact List.getElem_mem hi
    have g3 := ren_vm (tp := sgT x) hmem hk htp g1
    rw [g2] at g3
    have := congrArg (fun o : Option VmZ => o.map (fun s => s.2.2.2.2.2)) g3
    exact Option.some.inj this
/-- where the other NAME does not stand, it comes to the same -/
theorem rename_val {x : Sg} (hv : Iv x) (hb : moB (sgC x) = true) (htp : nmOk (sgT x) = true) {p0 : Nat × List Int32} (hp : p0 ∈ tkx (moT (sgC x))) (h0 : p0.1 = 0) (ho : ∀ p ∈ tkx (moT (sgC x)), p.1 = 0 → p.2 ≠ sgT x) :
    enV ((stVz (sgN x) (moR (sgC x))).map (mpQ (thV (tvX p0).2.1 (tvX (0, sgT x)).2.1))) (fun _ => 0) (tvX (0, sgT x)).2.1 = enV (stVz (sgN x) (moR (sgC x))) (fun _ => 0) (tvX p0).2.1 ∧
    tmV (tvX (0, sgT x)).2.1 ((stVz (sgN x) (moR (sgC x))).map (mpQ (thV (tvX p0).2.1 (tvX (0, sgT x)).2.1))) = tmV (tvX p0).2.1 (stVz (sgN x) (moR (sgC x))) := by
  have hN := hv.2.1
  have hC := hv.2.2.2.2.2.2.2.1
  have hT := hC.2.2.1 hb
  obtain ⟨-, n1, n8, nL⟩ := tkx_name htp
  have nL2 : ∀ j, j < (sgT x).length → isL (bsF (sgT x) j) = true := fun j hj => by
    refine nL _ ?_
    show (sgT x).getD j 0 ∈ sgT x
    rw [List.getD_eq_getElem?_getD, List.getElem?_eq_getElem hj]
    exact List.getElem_mem hj
  have key : ∀ p ∈ tkx (moT (sgC x)), p.1 = 0 → (tvX p).2.1 ≠ (tvX (0, sgT x)).2.1 := fun p hpT hp0 q => by
    obtain ⟨r1, r8, rL⟩ := tkx_nm p hpT hp0
    have e1 : (tvX p).2.1 = isV (bsF p.2) (0, 0, p.2.length) := by
      show isV (bsF p.2) (p.1, 0, p.2.length) = _
      rw [hp0]
    rw [e1] at q
    exact ho p hpT hp0 (nm_inj rL nL2 r8 n8 q)
  have g1 := rd_good hN hC
  rw [← hT] at g1
  have hS := NmS_L (P := fun v => v ≠ (tvX (0, sgT x)).2.1) NmS_0 (fun t ht h => by
    obtain ⟨p, hpT, e⟩ := List.mem_map.mp ht
    rw [← e] at h ⊢
    exact key p hpT h) g1
  have hall : ∀ q ∈ stVz (sgN x) (moR (sgC x)), q.1 ≠ (tvX (0, sgT x)).2.1 ∧ VaK q.2 ∧ ∀ v ∈ q.2.2.1, v ≠ (tvX (0, sgT x)).2.1 := fun q hq => by
    obtain ⟨a, b⟩ := hS.2.2.2 q hq
    refine ⟨a, ?_, b⟩
    obtain ⟨s, -, e⟩ := List.mem_map.mp hq
    rw [← e]
    exact VaK_F _ _
  have h1 := key p0 hp h0
  have e : thV (tvX p0).2.1 (tvX (0, sgT x)).2.1 (tvX p0).2.1 = (tvX (0, sgT x)).2.1 := by
    unfold thV
    rw [if_pos rfl]
  constructor
  · have := enV_mp (v0 := (tvX p0).2.1) (v1 := (tvX (0, sgT x)).2.1) hall (en := fun _ => 0) (en' := fun _ => 0) (fun _ _ => rfl) (tvX p0).2.1 h1
    rw [e] at this
    exact this
  · have := tmV_eq (v0 := (tvX p0).2.1) (v1 := (tvX (0, sgT x)).2.1) h1 (fun q hq => (hall q hq).1)
    rw [e] at this
    exact this
theorem rename_sets {x : Sg} {p0 : Nat × List Int32} : tmV (tvX p0).2.1 (stVz (sgN x) (moR (sgC x))) ≤ tmV (tvX (0, sgT x)).2.1 ((stVz (sgN x) (moR (sgC x))).map (mpQ (thV (tvX p0).2.1 (tvX (0, sgT x)).2.1))) := by
  have := tmV_le (v0 := (tvX p0).2.1) (v1 := (tvX (0, sgT x)).2.1) (v := (tvX p0).2.1) (l := stVz (sgN x) (moR (sgC x)))
  have e : thV (tvX p0).2.1 (tvX (0, sgT x)).2.1 (tvX p0).2.1 = (tvX (0, sgT x)).2.1 := by
    unfold thV
    rw [if_pos rfl]
  rw [e] at this
  exact this
/-- a state whose TEXT is the PRINT of another: all is read as there -/
theorem print_is {x x' : Sg} (hv : Iv x) (hv' : Iv x') (hb' : moB (sgC x') = true) (e : moT (sgC x') = prR x) : stVz (sgN x') (moR (sgC x')) = stVz (sgN x) (moR (sgC x)) ∧ (prR x').length = (prR x).length ∧ (tkx (moG (sgC x'))).filter isNX = (tkx (moG (sgC x))).filter isNX := by
  have hN := hv.2.1
  have hC := hv.2.2.2.2.2.2.2.1
  have hN' := hv'.2.1
  have hC' := hv'.2.2.2.2.2.2.2.1
  have hT' := hC'.2.2.1 hb'
  obtain ⟨-, -, p3⟩ := print_tkx hN hC
  have g2 := rd_good hN' hC'
  have e2 : moG (sgC x') = prt (sgN x) (moR (sgC x)) := hT'.symm.trans e
  rw [e2, p3] at g2
  have := congrArg (fun o : Option VmZ => o.map (fun s => s.2.2.2.2.2)) g2
  refine ⟨(Option.some.inj this).symm, ?_⟩
  exact print_len hN hC hN' hC' e2
/-! ===== INTS and NAMES set, by the statements that are read ===== -/
def smZ : List Int32 → Int32
  | [] => 0
  | v :: l => v + smZ l
theorem sm_app {v : List Int32} : ∀ {u : List Int32}, smZ (u ++ v) = smZ u + smZ v
  | [] => (Int32.zero_add _).symm
  | a :: u => by
    show a + smZ (u ++ v) = a + smZ u + smZ v
    rw [sm_app, Int32.add_assoc]
theorem sm_fd {α : Type} {g : α → Int32} : ∀ {l : List α} {a : Int32}, l.foldl (fun a x => a + g x) a = a + smZ (l.map g)
  | [], a => (Int32.add_zero a).symm
  | x :: l, a => by
    show l.foldl (fun a x => a + g x) (a + g x) = a + (g x + smZ (l.map g))
    rw [sm_fd, Int32.add_assoc]
def inV (l : List (Int64 × VaZ)) : Int32 := smZ (l.flatMap (fun q => q.2.2.2))
theorem inV_app {u v : List (Int64 × VaZ)} : inV (u ++ v) = inV u + inV v := by
  unfold inV
  rw [List.flatMap_append, sm_app]
def c9N (N : Nat → Nd) (en : Int64 → Int32) (c : Nat) : Int32 := smZ ((po N c).map (fun z => if ndR (N z) = 9 then evN N en z else 0))
theorem c9_eq {m c : Nat} {N : Nat → Nd} {en : Int64 → Int32} (h : NdOk m N) (hc : c < m) : c9N N en c = (if ndR (N c) = 9 then evN N en c else 0) + smZ ((ndC (N c)).map (c9N N en)) := by
  have key : ∀ l : List Nat, smZ ((l.flatMap (po N)).map (fun z => if ndR (N z) = 9 then evN N en z else 0)) = smZ (l.map (c9N N en)) := fun l => by
    induction l with
    | nil => rfl
    | cons a l ih =>
      rw [List.flatMap_cons, List.map_append, sm_app, ih]
      rfl
  show smZ ((po N c).map (fun z => if ndR (N z) = 9 then evN N en z else 0)) = _
  rw [po_eq h hc, ← key]
  rfl
theorem c9_nd {m : Nat} {N : Nat → Nd} {en : Int64 → Int32} (h : NdOk m N) (c : Nat) : c < m → (ndM (N c) = 4 ∨ ndM (N c) = 3 ∨ ndM (N c) = 2 → c9N N en c = smZ (vaC N c).2.2) ∧ (ndM (N c) = 1 ∨ ndM (N c) = 0 → c9N N en c = inV (stVz N c)) ∧ (5 ≤ ndM (N c) → c9N N en c = 0) := by
  induction c using Nat.strongRecOn with
  | ind c ih =>
    intro hc
    have he := c9_eq (en := en) h hc
    rcases h c hc with ⟨e1, e2, -⟩ | ⟨r, s, hr, -, e3, -⟩
    · have : ndM (N c) = 5 + ndK (N c) := by
        unfold ndM
        rw [if_pos (by omega)]
      refine ⟨fun q => by omega, fun q => by omega, fun _ => ?_⟩
      rw [he, e2, if_neg (by omega)]
      exact Int32.add_zero 0
    · have hM : ndM (N c) = syN r := by
        unfold ndM
        rw [e3, if_neg (by omega)]
        rfl
      have kid : ∀ k y : Nat, (rhS r)[k]? = some y → ndM (N (chN (N c) k)) = y ∧ chN (N c) k < c ∧ chN (N c) k < m := fun k y hk => by
        obtain ⟨-, a, b⟩ := chN_is h hc e3 hk
        exact ⟨a, b, by omega⟩
      have tk : ∀ k y : Nat, (rhS r)[k]? = some y → 5 ≤ y → c9N N en (chN (N c) k) = 0 := fun k y hk hy => by
        obtain ⟨a, b, d⟩ := kid k _ hk
        exact (ih _ b d).2.2 (by omega)
      have kv : ∀ k y : Nat, (rhS r)[k]? = some y → (y = 4 ∨ y = 3 ∨ y = 2) → c9N N en (chN (N c) k) = smZ (vaC N (chN (N c) k)).2.2 := fun k y hk hy => by
        obtain ⟨a, b, d⟩ := kid k _ hk
        exact (ih _ b d).1 (by rw [a]; exact hy)
      have ks : ∀ k y : Nat, (rhS r)[k]? = some y → (y = 1 ∨ y = 0) → c9N N en (chN (N c) k) = inV (stVz N (chN (N c) k)) := fun k y hk hy => by
        obtain ⟨a, b, d⟩ := kid k _ hk
        exact (ih _ b d).2.1 (by rw [a]; exact hy)
      have hv := vaC_r h hc e3
      rw [kidsL h hc e3] at he
      have h5 : syN r < 5 := by
        have hf : ∀ r, r < 11 → syN r < 5 := by decide +kernel
        exact hf r hr
      have h11 : r = 0 ∨ r = 1 ∨ r = 2 ∨ r = 3 ∨ r = 4 ∨ r = 5 ∨ r = 6 ∨ r = 7 ∨ r = 8 ∨ r = 9 ∨ r = 10 := by omega
      rcases h11 with e | e | e | e | e | e | e | e | e | e | e <;> subst e
      · have hS : syN 0 = 0 := by decide +kernel
        refine ⟨fun q => by omega, fun _ => ?_, fun q => by omega⟩
        have hs : stVz N c = [] := by
          unfold stVz
          rw [s2L_eq h hc, if_neg (by omega), kidsL h hc e3]
          rfl
        rw [he, hs, if_neg (by omega)]
        exact Int32.add_zero 0
      · have hS : syN 1 = 0 := by decide +kernel
        refine ⟨fun q => by omega, fun _ => ?_, fun q => by omega⟩
        have hs : stVz N c = stVz N (chN (N c) 0) ++ stVz N (chN (N c) 1) := by
          unfold stVz
          rw [s2L_eq h hc, if_neg (by omega), kidsL h hc e3, ← List.map_append]
          show ((s2L N (chN (N c) 0) ++ (s2L N (chN (N c) 1) ++ []))).map _ = _
          rw [List.append_nil]
        have he : c9N N en c = (if ndR (N c) = 9 then evN N en c else 0) + (c9N N en (chN (N c) 0) + (c9N N en (chN (N c) 1) + 0)) := he
        rw [he, hs, inV_app, if_neg (by omega), ks 0 0 rfl (.inr rfl), ks 1 1 rfl (.inl rfl), Int32.zero_add, Int32.add_zero]
      · have hS : syN 2 = 1 := by decide +kernel
        refine ⟨fun q => by omega, fun _ => ?_, fun q => by omega⟩
        obtain ⟨a1, a2, a3⟩ := kid 2 2 rfl
        have hs : stVz N c = [(nmV N (chN (N c) 0), vaC N (chN (N c) 2))] := by
          obtain ⟨z1, -, z3⟩ := kid 0 5 rfl
          obtain ⟨y1, -, y3⟩ := kid 1 7 rfl
          obtain ⟨x1, -, x3⟩ := kid 3 8 rfl
          unfold stVz
          rw [s2L_eq h hc, if_pos (by omega), kidsL h hc e3]
          show (c :: (s2L N (chN (N c) 0) ++ (s2L N (chN (N c) 1) ++ (s2L N (chN (N c) 2) ++ (s2L N (chN (N c) 3) ++ []))))).map _ = _
          rw [s2L_no h _ z3 (by omega), s2L_no h _ y3 (by omega), s2L_no h _ a3 (by omega), s2L_no h _ x3 (by omega)]
          rfl
        have he : c9N N en c = (if ndR (N c) = 9 then evN N en c else 0) + (c9N N en (chN (N c) 0) + (c9N N en (chN (N c) 1) + (c9N N en (chN (N c) 2) + (c9N N en (chN (N c) 3) + 0)))) := he
        rw [he, hs, if_neg (by omega), tk 0 5 rfl (by decide), tk 1 7 rfl (by decide), tk 3 8 rfl (by decide), kv 2 2 rfl (.inr (.inr rfl))]
        show _ = smZ ((vaC N (chN (N c) 2)).2.2 ++ [])
        rw [List.append_nil]
        simp only [Int32.zero_add, Int32.add_zero]
      · have hS : syN 3 = 1 := by decide +kernel
        refine ⟨fun q => by omega, fun _ => ?_, fun q => by omega⟩
        have hs : stVz N c = stVz N (chN (N c) 1) := by
          obtain ⟨z1, -, z3⟩ := kid 0 13 rfl
          obtain ⟨x1, -, x3⟩ := kid 2 14 rfl
          unfold stVz
          rw [s2L_eq h hc, if_neg (by omega), kidsL h hc e3]
          show ((s2L N (chN (N c) 0) ++ (s2L N (chN (N c) 1) ++ (s2L N (chN (N c) 2) ++ [])))).map _ = _
          rw [s2L_no h _ z3 (by omega), s2L_no h _ x3 (by omega), List.nil_append, List.nil_append, List.append_nil]
        have he : c9N N en c = (if ndR (N c) = 9 then evN N en c else 0) + (c9N N en (chN (N c) 0) + (c9N N en (chN (N c) 1) + (c9N N en (chN (N c) 2) + 0))) := he
        rw [he, hs, if_neg (by omega), tk 0 13 rfl (by decide), tk 2 14 rfl (by decide), ks 1 0 rfl (.inr rfl)]
        simp only [Int32.zero_add, Int32.add_zero]
      · have hS : syN 4 = 2 := by decide +kernel
        refine ⟨fun _ => ?_, fun q => by omega, fun q => by omega⟩
        have he : c9N N en c = (if ndR (N c) = 9 then evN N en c else 0) + (c9N N en (chN (N c) 0) + (c9N N en (chN (N c) 1) + (c9N N en (chN (N c) 2) + 0))) := he
        rw [he, hv, if_neg (by omega), tk 1 9 rfl (by decide), kv 0 2 rfl (.inr (.inr rfl)), kv 2 3 rfl (.inr (.inl rfl))]
        show _ = smZ ((vaC N (chN (N c) 0)).2.2 ++ (vaC N (chN (N c) 2)).2.2)
        rw [sm_app]
        simp only [Int32.zero_add, Int32.add_zero]
      · have hS : syN 5 = 2 := by decide +kernel
        refine ⟨fun _ => ?_, fun q => by omega, fun q => by omega⟩
        have he : c9N N en c = (if ndR (N c) = 9 then evN N en c else 0) + (c9N N en (chN (N c) 0) + 0) := he
        rw [he, hv, if_neg (by omega), kv 0 3 rfl (.inr (.inl rfl))]
        show _ = smZ (vaC N (chN (N c) 0)).2.2
        simp only [Int32.zero_add, Int32.add_zero]
      · have hS : syN 6 = 3 := by decide +kernel
        refine ⟨fun _ => ?_, fun q => by omega, fun q => by omega⟩
        have he : c9N N en c = (if ndR (N c) = 9 then evN N en c else 0) + (c9N N en (chN (N c) 0) + (c9N N en (chN (N c) 1) + (c9N N en (chN (N c) 2) + 0))) := he
        rw [he, hv, if_neg (by omega), tk 1 10 rfl (by decide), kv 0 3 rfl (.inr (.inl rfl)), kv 2 4 rfl (.inl rfl)]
        show _ = smZ ((vaC N (chN (N c) 0)).2.2 ++ (vaC N (chN (N c) 2)).2.2)
        rw [sm_app]
        simp only [Int32.zero_add, Int32.add_zero]
      · have hS : syN 7 = 3 := by decide +kernel
        refine ⟨fun _ => ?_, fun q => by omega, fun q => by omega⟩
        have he : c9N N en c = (if ndR (N c) = 9 then evN N en c else 0) + (c9N N en (chN (N c) 0) + 0) := he
        rw [he, hv, if_neg (by omega), kv 0 4 rfl (.inl rfl)]
        show _ = smZ (vaC N (chN (N c) 0)).2.2
        simp only [Int32.zero_add, Int32.add_zero]
      · have hS : syN 8 = 4 := by decide +kernel
        refine ⟨fun _ => ?_, fun q => by omega, fun q => by omega⟩
        have he : c9N N en c = (if ndR (N c) = 9 then evN N en c else 0) + (c9N N en (chN (N c) 0) + 0) := he
        rw [he, hv, if_neg (by omega), tk 0 5 rfl (by decide)]
        show _ = (0 : Int32)
        simp only [Int32.add_zero]
      · have hS : syN 9 = 4 := by decide +kernel
        refine ⟨fun _ => ?_, fun q => by omega, fun q => by omega⟩
        have he : c9N N en c = (if ndR (N c) = 9 then evN N en c else 0) + (c9N N en (chN (N c) 0) + 0) := he
        have ev : evN N en c = numY (N (chN (N c) 0)) := by
          rw [evN_eq h hc, if_neg (by omega), if_neg (by omega), if_neg (by omega), if_neg (by omega), if_neg (by omega), if_pos (by omega)]
        rw [he, hv, if_pos (by omega), tk 0 6 rfl (by decide), ev]
        show _ = numY (N (chN (N c) 0)) + 0
        simp only [Int32.add_zero]
      · have hS : syN 10 = 4 := by decide +kernel
        refine ⟨fun _ => ?_, fun q => by omega, fun q => by omega⟩
        have he : c9N N en c = (if ndR (N c) = 9 then evN N en c else 0) + (c9N N en (chN (N c) 0) + (c9N N en (chN (N c) 1) + (c9N N en (chN (N c) 2) + 0))) := he
        rw [he, hv, if_neg (by omega), tk 0 11 rfl (by decide), tk 2 12 rfl (by decide), kv 1 2 rfl (.inr (.inr rfl))]
        show _ = smZ (vaC N (chN (N c) 1)).2.2
        simp only [Int32.zero_add, Int32.add_zero]
/-- the sum of INTS -/
theorem ints_is {x : Sg} (hv : Iv x) {en : Int64 → Int32} : suA (sgN x) en (FF x) = inV (stVz (sgN x) (moR (sgC x))) := by
  have hN := hv.2.1
  have hC := hv.2.2.2.2.2.2.2.1
  have hR := hC.2.2.2.1.1
  rw [← (c9_nd (en := en) hN _ hR).2.1 (.inr hC.2.2.2.1.2.1)]
  unfold suA c9N
  rw [sm_fd, Int32.zero_add, ← fl_map hN _ hR 0 0 0 1, List.map_map]
  rfl
/-! ===== NAMES set ===== -/
theorem cnF_pos {N : Nat → Nd} {L : List Nat} {T : Int64 → Nat} {j : Nat} (h : ¬ cnF N L T j ≤ 0) : ∃ z, L[j]? = some z ∧ ndM (N z) = 5 ∧ ixNm N (nmV N z) L = j ∧ ¬ zi (T (nmV N z)) ≤ 0 := by
  cases hL : L[j]? with
  | none =>
    rw [cnF_none hL] at h
    exact absurd (Int32.le_refl 0) h
  | some z =>
    rw [cnF_some hL] at h
    by_cases u : ndM (N z) = 5 ∧ ixNm N (nmV N z) L = j
    · rw [if_pos u] at h
      exact ⟨z, rfl, u.1, u.2, h⟩
    · rw [if_neg u] at h
      exact absurd (Int32.le_refl 0) h
def nmS (N : Nat → Nd) (L : List Nat) (T : Int64 → Nat) : List Int64 := ((List.range 100).filter (fun j => decide (¬ cnF N L T j ≤ 0))).map (fun j => nmV N (L.getD j 0))
theorem cnT_fl {f : Nat → Int32} : ∀ k, cnT f k = ((List.range k).filter (fun j => decide (¬ f j ≤ 0))).length
  | 0 => rfl
  | k + 1 => by
    show cnT f k + (if f k ≤ 0 then 0 else 1) = _
    rw [List.range_succ, flt_ap, List.length_append, cnT_fl k]
    congr 1
    by_cases u : f k ≤ 0
    · simp [u]
    · have h : List.filter (fun j => decide (¬ f j ≤ 0)) [k] = [k] := List.filter_cons_of_pos (show decide (¬ f k ≤ 0) = true from decide_eq_true u)
      exact (if_neg u).trans (congrArg List.length h).symm
theorem nmS_len {N : Nat → Nd} {L : List Nat} {T : Int64 → Nat} : (nmS N L T).length = cnD N L T := by
  unfold nmS cnD
  rw [List.length_map, cnT_fl]
theorem getD_s {L : List Nat} {j z : Nat} (h : L[j]? = some z) : L.getD j 0 = z := by
  rw [List.getD_eq_getElem?_getD, h]
  rfl
theorem nmS_in {N : Nat → Nd} {L : List Nat} {T : Int64 → Nat} (h100 : L.length ≤ 100) {v : Int64} : v ∈ nmS N L T ↔ (∃ z, z ∈ L ∧ ndM (N z) = 5 ∧ nmV N z = v) ∧ ¬ zi (T v) ≤ 0 := by
  unfold nmS
  rw [List.mem_map]
  constructor
  · rintro ⟨j, hj, e⟩
    obtain ⟨-, h2⟩ := List.mem_filter.mp hj
    obtain ⟨z, z1, z2, z3, z4⟩ := cnF_pos (of_decide_eq_true h2)
    have e : nmV N (L.getD j 0) = v := e
    rw [getD_s z1] at e
    rw [e] at z4
    exact ⟨⟨z, List.mem_of_getElem? z1, z2, e⟩, z4⟩
  · rintro ⟨⟨z, z1, z2, z3⟩, h4⟩
    obtain ⟨w, w1, w2, w3⟩ := ixN_is z1 z2 rfl
    have hlt := (List.getElem?_eq_some_iff.mp w1).1
    refine ⟨ixNm N (nmV N z) L, List.mem_filter.mpr ⟨List.mem_range.mpr (by omega), decide_eq_true ?_⟩, ?_⟩
    · rw [cnF_some w1, if_pos ⟨w2, by rw [w3]⟩, w3, z3]
      exact h4
    · show nmV N (L.getD _ 0) = v
      rw [getD_s w1, w3, z3]
theorem nmS_nd {N : Nat → Nd} {L : List Nat} {T : Int64 → Nat} : (nmS N L T).Nodup := by
  unfold nmS
  refine List.pairwise_map.mpr (List.Pairwise.imp_of_mem ?_ (List.Pairwise.filter _ List.nodup_range))
  intro a b ha hb hab e
  obtain ⟨y, y1, -, y3, -⟩ := cnF_pos (of_decide_eq_true (List.mem_filter.mp ha).2)
  obtain ⟨z, z1, -, z3, -⟩ := cnF_pos (of_decide_eq_true (List.mem_filter.mp hb).2)
  have e : nmV N (L.getD a 0) = nmV N (L.getD b 0) := e
  rw [getD_s y1, getD_s z1] at e
  rw [e] at y3
  exact hab (y3.symm.trans z3)
theorem cnD_le {N N2 : Nat → Nd} {L L2 : List Nat} {T : Int64 → Nat} (h1 : L.length ≤ 100) (h2 : L2.length ≤ 100) (h : ∀ v, ¬ zi (T v) ≤ 0 → ∃ z, z ∈ L2 ∧ ndM (N2 z) = 5 ∧ nmV N2 z = v) : cnD N L T ≤ cnD N2 L2 T := by
  rw [← nmS_len, ← nmS_len]
  refine nd_le nmS_nd (fun v hv => ?_)
  obtain ⟨-, b⟩ := (nmS_in h1).mp hv
  exact (nmS_in h2).mpr ⟨h v b, b⟩
/-- a NAME that is set stands in the TREE -/
theorem set_in {m R : Nat} {N : Nat → Nd} (h : NdOk m N) (hR : R < m) {v : Int64} (hv : tmV v (stVz N R) ≠ 0) : ∃ z, z ∈ yl N R ∧ ndM (N z) = 5 ∧ nmV N z = v := by
  have mem : ∀ l : List (Int64 × VaZ), tmV v l ≠ 0 → ∃ q ∈ l, q.1 = v := fun l => by
    induction l with
    | nil => exact fun q => absurd rfl q
    | cons q l ih =>
      intro hq
      by_cases u : q.1 = v
      · exact ⟨q, List.mem_cons_self .., u⟩
      · have hq : (if q.1 = v then 1 else 0) + tmV v l ≠ 0 := hq
        rw [if_neg u, Nat.zero_add] at hq
        obtain ⟨w, w1, w2⟩ := ih hq
        exact ⟨w, List.mem_cons_of_mem _ w1, w2⟩
  obtain ⟨q, q1, q2⟩ := mem _ hv
  obtain ⟨s, s1, s2⟩ := List.mem_map.mp q1
  obtain ⟨p1, p2⟩ := (stV_all h hR).2 s s1
  have hpo : s ∈ po N R := (List.mem_filter.mp s1).1
  obtain ⟨-, c2, c3⟩ := chN_is (k := 0) (y := 5) h p1 (r := 2) p2 rfl
  have hcm : chN (N s) 0 < m := by omega
  obtain ⟨hr0, -⟩ := nd_tk5 h hcm (show 5 ≤ ndM (N (chN (N s) 0)) by omega)
  refine ⟨chN (N s) 0, (below_ok h R hR s hpo).2.2.2 _ ?_, c2, by rw [← q2, ← s2]; rfl⟩
  rw [yl_eq h p1, if_neg (by omega), kidsL h p1 (r := 2) p2]
  refine List.mem_flatMap.mpr ⟨chN (N s) 0, List.mem_map.mpr ⟨0, List.mem_range.mpr (by decide), rfl⟩, ?_⟩
  rw [yl_eq h hcm, if_pos hr0]
  exact List.mem_singleton.mpr rfl
/-- NAMES set: as many where the same is read -/
theorem names_same {x x' : Sg} (hv : Iv x) (hv' : Iv x') (e : stVz (sgN x') (moR (sgC x')) = stVz (sgN x) (moR (sgC x))) : cnD (sgN x') (ylR x') (ruT (ruR x')) = cnD (sgN x) (ylR x) (ruT (ruR x)) := by
  have eT : ruT (ruR x') = ruT (ruR x) := funext (fun v => by rw [(vals_is hv').2.1, (vals_is hv).2.1, e])
  have one : ∀ {y y' : Sg}, Iv y → Iv y' → stVz (sgN y') (moR (sgC y')) = stVz (sgN y) (moR (sgC y)) → ruT (ruR y') = ruT (ruR y) → cnD (sgN y) (ylR y) (ruT (ruR y)) ≤ cnD (sgN y') (ylR y') (ruT (ruR y)) := fun {y y'} hy hy' e2 e3 => by
    have len : ∀ {z : Sg}, Iv z → (ylR z).length ≤ 100 := fun {z} hz => by
      have h2 := hz.tr.tk hz.2.1
      have h3 := hz.tr.2.2.2.2.2.2.2
      rw [yl_len hz.2.1 _ hz.tr.1]
      omega
    refine cnD_le (len hy) (len hy') (fun v hb => ?_)
    refine set_in hy'.2.1 hy'.tr.1 (fun q => hb ?_)
    rw [(vals_is hy).2.1, ← e2, q]
    exact Int32.le_refl _
  refine Nat.le_antisymm ?_ ?_
  · have := one hv' hv e.symm eT.symm
    rw [eT] at this ⊢
    exact this
  · have := one hv hv' e eT
    rw [eT]
    exact this
/-! ===== what LAST tells of a change, whatever it is ===== -/
theorem namF_cnt {t : Nat → Int32} {l : List (Nat × Nat × Nat)} {A Bh n' : Nat} {og : Nat → Nat} {e : Nat} (hB : A + Bh ≤ l.length) : ∀ (d i m : Nat) (g : Nat → Nat) (N : Nat → Nd), i + d = l.length → (namF t l A Bh n' og e d i m g N).1 = m + (l.length - Bh - if i < A then A else i)
  | 0, i, m, g, N, hi => by
    show m = _
    rw [if_neg (by omega)]
    omega
  | d + 1, i, m, g, N, hi => by
    by_cases a : i < A
    · have hw : wasN A Bh l.length n' i = some i := if_pos a
      rw [namF, hw]
      show (namF t l A Bh n' og e d (i + 1) m (fun k => if k = i then og i else g k) N).1 = _
      rw [namF_cnt hB d (i + 1) m _ N (by omega), if_pos a]
      by_cases b : i + 1 < A
      · rw [if_pos b]
      · rw [if_neg b]
        omega
    · by_cases b : l.length - Bh ≤ i
      · have hw : wasN A Bh l.length n' i = some (i + n' - l.length) := by
          unfold wasN
          rw [if_neg a, if_pos b]
        rw [namF, hw]
        show (namF t l A Bh n' og e d (i + 1) m (fun k => if k = i then og (i + n' - l.length) else g k) N).1 = _
        rw [namF_cnt hB d (i + 1) m _ N (by omega), if_neg a, if_neg (by omega)]
        omega
      · have hw : wasN A Bh l.length n' i = none := by
          unfold wasN
          rw [if_neg a, if_neg b]
        rw [namF, hw]
        show (namF t l A Bh n' og e d (i + 1) (m + 1) (fun k => if k = i then m else g k) (upN N m (tkNd t (l.getD i (10, 0, 0)) e))).1 = _
        rw [namF_cnt hB d (i + 1) (m + 1) _ _ (by omega), if_neg a, if_neg (by omega)]
        omega
theorem gNx_tk {F : List Fl} {A B n n' : Nat} {g : Nat → Nat} {e i m : Nat} {N : Nat → Nd} {st : List (Nat × Nat)} {tk : Nat} {y : Gs} (h : gNx F A B n n' g e i m N st tk = some y) : y.2.2.2.2 ≤ tk + 1 := by
  unfold gNx at h
  repeat' split at h
  all_goals first | (cases h; first | exact Nat.le_refl _ | exact Nat.le_succ _) | cases h
theorem gRun_tk {F : List Fl} {A B n n' : Nat} {g : Nat → Nat} {e : Nat} : ∀ (d k : Nat) (x : Gs), (gRun F A B n n' g e d k x).2.2.2.2.2 + k ≤ (gRun F A B n n' g e d k x).1 + x.2.2.2.2 ∧ (gRun F A B n n' g e d k x).1 ≤ k + d
  | 0, k, x => by
    show x.2.2.2.2 + k ≤ k + x.2.2.2.2 ∧ k ≤ k + 0
    omega
  | d + 1, k, x => by
    rw [gRun]
    cases hn : gNx F A B n n' g e x.1 x.2.1 x.2.2.1 x.2.2.2.1 x.2.2.2.2 with
    | none =>
      show x.2.2.2.2 + k ≤ k + x.2.2.2.2 ∧ k ≤ k + (d + 1)
      omega
    | some y =>
      have ih := gRun_tk (F := F) (A := A) (B := B) (n := n) (n' := n') (g := g) (e := e) d (k + 1) y
      have := gNx_tk hn
      show (gRun F A B n n' g e d (k + 1) y).2.2.2.2.2 + k ≤ (gRun F A B n n' g e d (k + 1) y).1 + x.2.2.2.2 ∧ (gRun F A B n n' g e d (k + 1) y).1 ≤ k + (d + 1)
      omega
/-- kept ahead, behind, new tokens are all; taken at most as many as steps; nodes made -/
theorem lastZ_is {x : Sg} {d : List Int32} (hv : Iv x) (hd : txOk d) :
    kAhead (txF (moG (sgC x))) (lexL (moG (sgC x))) (txF d) (lexL d) + kBehind (txF (moG (sgC x))) (lexL (moG (sgC x))) (txF d) (lexL d) + ((reg x d).1.1 - sgM x) = (lexL d).length ∧
    (regY x d).2.2.2.2 ≤ (reg x d).2.1 ∧ (reg x d).2.1 ≤ 2000 ∧ sgM x ≤ (regY x d).2.1 ∧ (regY x d).2.1 ≤ sgM x + 249 := by
  obtain ⟨m1, g, N1, k, y, e1, e2, e3, ⟨-, -, -, hm1, hm2⟩, -, hy1, hy2, -⟩ := reg_ok hv hd
  have hC := hv.2.2.2.2.2.2.2.1
  have hk := kept_le (t := txF d) (t' := txF (moG (sgC x))) (l := lexL d) (l' := lexL (moG (sgC x))) (lex_lxo hd).2.1 (lex_lxo hC.2.1).2.1
  have hn := namF_cnt (t := txF d) (n' := (lexL (moG (sgC x))).length) (og := moO (sgC x)) (e := sgE x + 1) hk.1 (lexL d).length 0 (sgM x) (fun _ => 0) (sgN x) (Nat.zero_add _)
  have hr := gRun_tk (F := flR (sgN x) (moR (sgC x))) (A := kAhead (txF (moG (sgC x))) (lexL (moG (sgC x))) (txF d) (lexL d)) (B := kBehind (txF (moG (sgC x))) (lexL (moG (sgC x))) (txF d) (lexL d)) (n := (lexL d).length) (n' := (lexL (moG (sgC x))).length) (g := g) (e := sgE x + 1) 2000 0 (0, m1, N1, [(0, 0)], 0)
  rw [e2] at hn
  rw [e3] at hr
  unfold regY
  rw [e1]
  have hn : m1 = sgM x + ((lexL d).length - kBehind (txF (moG (sgC x))) (lexL (moG (sgC x))) (txF d) (lexL d) - if 0 < kAhead (txF (moG (sgC x))) (lexL (moG (sgC x))) (txF d) (lexL d) then kAhead (txF (moG (sgC x))) (lexL (moG (sgC x))) (txF d) (lexL d) else 0) := hn
  have hr : y.2.2.2.2 + 0 ≤ k + 0 ∧ k ≤ 0 + 2000 := hr
  show kAhead (txF (moG (sgC x))) (lexL (moG (sgC x))) (txF d) (lexL d) + kBehind (txF (moG (sgC x))) (lexL (moG (sgC x))) (txF d) (lexL d) + (m1 - sgM x) = (lexL d).length ∧ y.2.2.2.2 ≤ k ∧ k ≤ 2000 ∧ sgM x ≤ y.2.1 ∧ y.2.1 ≤ sgM x + 249
  have hk1 := hk.1
  revert hn hk1
  generalize kAhead (txF (moG (sgC x))) (lexL (moG (sgC x))) (txF d) (lexL d) = A
  generalize kBehind (txF (moG (sgC x))) (lexL (moG (sgC x))) (txF d) (lexL d) = Bh
  intro hn hk1
  by_cases a : 0 < A
  · rw [if_pos a] at hn
    omega
  · rw [if_neg a] at hn
    omega
/-! ===== what a change leaves of the rest ===== -/
theorem chg_cnt {x : Sg} {d tp : List Int32} : sgT (chg x d tp) = tp ∧ sgE (chg x d tp) = sgE x + 1 ∧ sgZ (chg x d tp) = [] ∧ (sgA (chg x d tp)).length = min 20 ((sgA x).length + 1) ∧ sgC (chg x d tp) = newC x d := by
  refine ⟨rfl, rfl, rfl, ?_, rfl⟩
  show ((sgC x :: sgA x).take 20).length = _
  rw [List.length_take, List.length_cons]
theorem chg_good {x : Sg} {d tp : List Int32} (hg : regB x d) : sgM (chg x d tp) = (regY x d).2.1 ∧ sgN (chg x d tp) = (regY x d).2.2.1 ∧ moB (newC x d) = true ∧ moG (newC x d) = d ∧ moR (newC x d) = regR x d := by
  have h : (regY x d).1 + 1 = (lexL d).length ∧ topS (regY x d).2.2.2.1 = 1 := hg
  refine ⟨?_, ?_, ?_, ?_, ?_⟩
  · show (if (regY x d).1 + 1 = (lexL d).length ∧ topS (regY x d).2.2.2.1 = 1 then ((regY x d).2.1, (regY x d).2.2.1) else (sgM x, sgN x)).1 = _
    rw [if_pos h]
  · show (if (regY x d).1 + 1 = (lexL d).length ∧ topS (regY x d).2.2.2.1 = 1 then ((regY x d).2.1, (regY x d).2.2.1) else (sgM x, sgN x)).2 = _
    rw [if_pos h]
  · unfold newC
    rw [if_pos h]
    rfl
  · unfold newC
    rw [if_pos h]
    rfl
  · unfold newC
    rw [if_pos h]
    rfl
theorem chg_bad {x : Sg} {d tp : List Int32} (hg : ¬ regB x d) : sgM (chg x d tp) = sgM x ∧ sgN (chg x d tp) = sgN x ∧ moB (newC x d) = false ∧ moG (newC x d) = moG (sgC x) ∧ moR (newC x d) = moR (sgC x) := by
  have h : ¬ ((regY x d).1 + 1 = (lexL d).length ∧ topS (regY x d).2.2.2.1 = 1) := hg
  refine ⟨?_, ?_, ?_, ?_, ?_⟩
  · show (if (regY x d).1 + 1 = (lexL d).length ∧ topS (regY x d).2.2.2.1 = 1 then ((regY x d).2.1, (regY x d).2.2.1) else (sgM x, sgN x)).1 = _
    rw [if_neg h]
  · show (if (regY x d).1 + 1 = (lexL d).length ∧ topS (regY x d).2.2.2.1 = 1 then ((regY x d).2.1, (regY x d).2.2.1) else (sgM x, sgN x)).2 = _
    rw [if_neg h]
  · unfold newC
    rw [if_neg h]
    rfl
  · unfold newC
    rw [if_neg h]
    rfl
  · unfold newC
    rw [if_neg h]
    rfl
/-- refused: nothing is changed -/
theorem doC_ref {x : Sg} {d : List Int32} {bt : Bool} (hr : refu x d) : doC x d bt = (-1, x) := by
  unfold doC
  rw [if_pos (show 300 < d.length ∨ 3000 ≤ sgM x ∨ 3900 ≤ (sgP x).length ∨ 100 < (lexL d).length from hr)]
theorem doC_do {x : Sg} {d : List Int32} {bt : Bool} (hr : ¬ refu x d) : (doC x d bt).2 = chg x d (if bt = true then [] else sgT x) := by
  unfold doC
  rw [if_neg (show ¬ (300 < d.length ∨ 3000 ≤ sgM x ∨ 3900 ≤ (sgP x).length ∨ 100 < (lexL d).length) from hr)]
/-- an EDIT inside the TEXT -/
theorem edit_is {x : Sg} (hv : Iv x) {a n : Nat} (h : a + n ≤ (moT (sgC x)).length) : editR x (zi a) (zi n) = doC x ((moT (sgC x)).take a ++ (sgT x ++ (moT (sgC x)).drop (a + n))) true := by
  have h3 : (moT (sgC x)).length ≤ 300 := hv.2.2.2.2.2.2.2.1.1.1
  have z0 : ∀ k : Nat, k ≤ 300 → 0 ≤ zi k := fun k hk => (zi_le (a := 0) (by decide) (by omega)).mpr (Nat.zero_le _)
  have nc : ∀ k : Nat, k ≤ 300 → (zi k).toNatClampNeg = k := fun k hk => zi_tn (by omega)
  unfold editR
  rw [zi_sub (show a ≤ (moT (sgC x)).length by omega)]
  rw [if_pos ⟨z0 a (by omega), z0 n (by omega), (zi_le (by omega) (by omega)).mpr (by omega), (zi_le (by omega) (by omega)).mpr (by omega)⟩, nc a (by omega), nc n (by omega), seg_0, seg_n, List.append_assoc]
theorem piece_is {l : List Int32} {a k : Nat} : (l.take a).take a ++ ((l.drop a).take k ++ (l.take a).drop (a + 0)) = l.take (a + k) := by
  have e1 : (l.take a).drop a = [] := List.drop_eq_nil_of_le (by rw [List.length_take]; exact Nat.min_le_left _ _)
  have e2 : (l.take a).take a = l.take a := by rw [List.take_take, Nat.min_self]
  rw [Nat.add_zero, e1, e2, List.append_nil, List.take_add]
/-! ===== the PRINT has as many RUNS ===== -/
def kpN (N : Nat → Nd) (c : Nat) : List Nat := (ptX N c).map (fun p => p.1)
def TpX (N : Nat → Nd) (c : Nat) : Prop := ∀ b o : Nat, auL (kpN N c) (2, b, o) = some (3, b, o) ∧ tcL (kpN N c) (2, b, o) = 0
def TpS (N : Nat → Nd) (c : Nat) : Prop := ∀ b : Nat, auL (kpN N c) (0, b, 0) = some (0, b, 0) ∧ tcL (kpN N c) (0, b, 0) = if b = 0 then 1 else 0
def TpY (N : Nat → Nd) (c : Nat) : Prop := ∀ b : Nat, auL (kpN N c) (0, b, 0) = some (0, b, 0) ∧ tcL (kpN N c) (0, b, 0) = if b = 0 then (tpL N c).length else 0
theorem kp_fm {N : Nat → Nd} : ∀ l : List Nat, (l.flatMap (ptX N)).map (fun p => p.1) = l.flatMap (kpN N)
  | [] => rfl
  | a :: l => by
    rw [List.flatMap_cons, List.map_append, kp_fm l]
    rfl
theorem kpN_tk {m z k : Nat} {N : Nat → Nd} (h : NdOk m N) (hz : z < m) (hM : ndM (N z) = 5 + k) : kpN N z = [k] := by
  obtain ⟨a, -, d⟩ := tk_one h hz hM
  unfold kpN
  rw [a]
  show [(ndX N z).1] = [k]
  rw [d]
theorem kp_no {m c r : Nat} {N : Nat → Nd} (h : NdOk m N) (hc : c < m) (hr : ndR (N c) = (r : Int)) (hn : r ≠ 4 ∧ r ≠ 6 ∧ r ≠ 10) : kpN N c = ((List.range (rhS r).length).map (chN (N c))).flatMap (kpN N) := by
  unfold kpN
  rw [ptX_eq h hc, if_neg (by omega), if_neg (by omega), ndU_r h hc hr hn.2.2, kp_fm]
  rfl
theorem kp_10 {m c : Nat} {N : Nat → Nd} (h : NdOk m N) (hc : c < m) (hr : ndR (N c) = ((10 : Nat) : Int)) : kpN N c = kpN N (chN (N c) 1) ++ [] := by
  unfold kpN
  rw [ptX_eq h hc, if_neg (by omega), if_neg (by omega), ndU_10 h hc hr, kp_fm]
  rfl
theorem kp_46 {m c r : Nat} {N : Nat → Nd} (h : NdOk m N) (hc : c < m) (hr : ndR (N c) = (r : Int)) (hn : r = 4 ∨ r = 6) : kpN N c = [6] ++ (((List.range (rhS r).length).map (chN (N c))).flatMap (kpN N) ++ ([7] ++ [])) := by
  unfold kpN
  rw [ptX_eq h hc, if_neg (by omega), if_pos (by omega), ndU_r h hc hr (by omega), List.map_cons, List.map_append, kp_fm]
  rfl
theorem tp_nd {m : Nat} {N : Nat → Nd} (h : NdOk m N) (c : Nat) : c < m → (ndM (N c) = 4 ∨ ndM (N c) = 3 ∨ ndM (N c) = 2 → TpX N c) ∧ (ndM (N c) = 1 → TpS N c) ∧ (ndM (N c) = 0 → TpY N c) := by
  induction c using Nat.strongRecOn with
  | ind c ih =>
    intro hc
    rcases h c hc with ⟨e1, -⟩ | ⟨r, s, hr, -, e3, -⟩
    · have : ndM (N c) = 5 + ndK (N c) := by
        unfold ndM
        rw [if_pos (by omega)]
      exact ⟨fun q => by omega, fun q => by omega, fun q => by omega⟩
    · have hM : ndM (N c) = syN r := by
        unfold ndM
        rw [e3, if_neg (by omega)]
        rfl
      have kid : ∀ k y : Nat, (rhS r)[k]? = some y → ndM (N (chN (N c) k)) = y ∧ chN (N c) k < c ∧ chN (N c) k < m := fun k y hk => by
        obtain ⟨-, a, b⟩ := chN_is h hc e3 hk
        exact ⟨a, b, by omega⟩
      have tk : ∀ k y : Nat, (rhS r)[k]? = some (5 + y) → kpN N (chN (N c) k) = [y] := fun k y hk => by
        obtain ⟨a, -, b⟩ := kid k _ hk
        exact kpN_tk h b a
      have kx : ∀ k y : Nat, (rhS r)[k]? = some y → (y = 4 ∨ y = 3 ∨ y = 2) → TpX N (chN (N c) k) := fun k y hk hy => by
        obtain ⟨a, b, d⟩ := kid k _ hk
        exact (ih _ b d).1 (by rw [a]; exact hy)
      have s7 : ∀ b o : Nat, auN (3, b, o + 1) 7 = some (3, b, o) := fun b o => by
        unfold auN
        dsimp only
        rw [if_neg (show ¬ (3 : Nat) = 0 by decide), if_neg (show ¬ (3 : Nat) = 1 by decide), if_neg (show ¬ (3 : Nat) = 2 by decide), if_neg (show ¬ ((7 : Nat) = 4 ∨ (7 : Nat) = 5) by decide), if_pos ⟨rfl, Nat.succ_pos o⟩]
        rfl
      have h11 : r = 0 ∨ r = 1 ∨ r = 2 ∨ r = 3 ∨ r = 4 ∨ r = 5 ∨ r = 6 ∨ r = 7 ∨ r = 8 ∨ r = 9 ∨ r = 10 := by omega
      rcases h11 with e | e | e | e | e | e | e | e | e | e | e <;> subst e
      · have hS : syN 0 = 0 := by decide +kernel
        refine ⟨fun q => by omega, fun q => by omega, fun _ b => ?_⟩
        rw [kp_no h hc e3 (by decide), tpL_eq h hc, if_neg (show ¬ ndR (N c) = 1 by omega)]
        refine ⟨rfl, ?_⟩
        show 0 = if b = 0 then 0 else 0
        split <;> rfl
      · have hS : syN 1 = 0 := by decide +kernel
        refine ⟨fun q => by omega, fun q => by omega, fun _ b => ?_⟩
        obtain ⟨a1, a2, a3⟩ := kid 0 0 rfl
        obtain ⟨b1, b2, b3⟩ := kid 1 1 rfl
        obtain ⟨i1, i2⟩ := (ih _ a2 a3).2.2 a1 b
        obtain ⟨j1, j2⟩ := (ih _ b2 b3).2.1 b1 b
        rw [kp_no h hc e3 (by decide), tpL_eq h hc, if_pos (show ndR (N c) = 1 from e3)]
        show auL (kpN N (chN (N c) 0) ++ (kpN N (chN (N c) 1) ++ [])) _ = _ ∧ tcL (kpN N (chN (N c) 0) ++ (kpN N (chN (N c) 1) ++ [])) _ = _
        rw [List.append_nil, auL_app2 i1, tcL_app i1, i2, j2]
        refine ⟨j1, ?_⟩
        by_cases hb : b = 0
        · rw [if_pos hb, if_pos hb, if_pos hb, List.length_append]
          rfl
        · rw [if_neg hb, if_neg hb, if_neg hb]
      · have hS : syN 2 = 1 := by decide +kernel
        refine ⟨fun q => by omega, fun _ b => ?_, fun q => by omega⟩
        rw [kp_no h hc e3 (by decide)]
        show auL (kpN N (chN (N c) 0) ++ (kpN N (chN (N c) 1) ++ (kpN N (chN (N c) 2) ++ (kpN N (chN (N c) 3) ++ [])))) _ = _ ∧ tcL (kpN N (chN (N c) 0) ++ (kpN N (chN (N c) 1) ++ (kpN N (chN (N c) 2) ++ (kpN N (chN (N c) 3) ++ [])))) _ = _
        rw [tk 0 0 rfl, tk 1 2 rfl, tk 3 3 rfl]
        refine au_one (s' := (1, b, 0)) rfl (ne_hi (by decide)) (au_one (s' := (2, b, 0)) rfl (ne_hi (by decide)) (au_seg (kx 2 2 rfl (.inr (.inr rfl)) b 0) ⟨rfl, ?_⟩))
        show tcL [3] (3, b, 0) = _
        rw [tcL_cons (s' := (0, b, 0)) rfl]
        show (if ((0, b, 0) : AuZ) = (0, 0, 0) then 1 else 0) + 0 = _
        by_cases hb : b = 0
        · rw [if_pos hb, if_pos (by rw [hb])]
        · rw [if_neg hb, if_neg (fun q => hb (congrArg (fun z : AuZ => z.2.1) q))]
      · have hS : syN 3 = 1 := by decide +kernel
        refine ⟨fun q => by omega, fun _ b => ?_, fun q => by omega⟩
        obtain ⟨a1, a2, a3⟩ := kid 1 0 rfl
        obtain ⟨i1, i2⟩ := (ih _ a2 a3).2.2 a1 (b + 1)
        rw [if_neg (Nat.succ_ne_zero b)] at i2
        rw [kp_no h hc e3 (by decide)]
        show auL (kpN N (chN (N c) 0) ++ (kpN N (chN (N c) 1) ++ (kpN N (chN (N c) 2) ++ []))) _ = _ ∧ tcL (kpN N (chN (N c) 0) ++ (kpN N (chN (N c) 1) ++ (kpN N (chN (N c) 2) ++ []))) _ = _
        rw [tk 0 8 rfl, tk 2 9 rfl]
        have s9 : auN (0, b + 1, 0) 9 = some (0, b, 0) := by
          unfold auN
          dsimp only
          rw [if_pos rfl, if_neg (by decide), if_neg (by decide), if_pos ⟨rfl, Nat.succ_pos b⟩]
          rfl
        refine au_one (s' := (0, b + 1, 0)) rfl (fun q => absurd (congrArg (fun z : AuZ => z.2.1) q) (Nat.succ_ne_zero b)) (au_seg ⟨i1, i2⟩ ⟨(auL_cons s9).trans rfl, ?_⟩)
        show tcL [9] (0, b + 1, 0) = _
        rw [tcL_cons s9]
        show (if ((0, b, 0) : AuZ) = (0, 0, 0) then 1 else 0) + 0 = _
        by_cases hb : b = 0
        · rw [if_pos hb, if_pos (by rw [hb])]
        · rw [if_neg hb, if_neg (fun q => hb (congrArg (fun z : AuZ => z.2.1) q))]
      · have hS : syN 4 = 2 := by decide +kernel
        refine ⟨fun _ b o => ?_, fun q => by omega, fun q => by omega⟩
        rw [kp_46 h hc e3 (by decide)]
        show auL ([6] ++ ((kpN N (chN (N c) 0) ++ (kpN N (chN (N c) 1) ++ (kpN N (chN (N c) 2) ++ []))) ++ ([7] ++ []))) _ = _ ∧ tcL ([6] ++ ((kpN N (chN (N c) 0) ++ (kpN N (chN (N c) 1) ++ (kpN N (chN (N c) 2) ++ []))) ++ ([7] ++ []))) _ = _
        rw [tk 1 4 rfl]
        exact au_one (s' := (2, b, o + 1)) rfl (ne_hi (by decide)) (au_seg (au_seg (kx 0 2 rfl (.inr (.inr rfl)) b (o + 1)) (au_one (s' := (2, b, o + 1)) rfl (ne_hi (by decide)) (au_seg (kx 2 3 rfl (.inr (.inl rfl)) b (o + 1)) au_nil))) (au_one (s7 b o) (ne_hi (by decide)) au_nil))
      · have hS : syN 5 = 2 := by decide +kernel
        refine ⟨fun _ b o => ?_, fun q => by omega, fun q => by omega⟩
        rw [kp_no h hc e3 (by decide)]
        show auL (kpN N (chN (N c) 0) ++ []) _ = _ ∧ tcL (kpN N (chN (N c) 0) ++ []) _ = _
        exact au_seg (kx 0 3 rfl (.inr (.inl rfl)) b o) au_nil
      · have hS : syN 6 = 3 := by decide +kernel
        refine ⟨fun _ b o => ?_, fun q => by omega, fun q => by omega⟩
        rw [kp_46 h hc e3 (by decide)]
        show auL ([6] ++ ((kpN N (chN (N c) 0) ++ (kpN N (chN (N c) 1) ++ (kpN N (chN (N c) 2) ++ []))) ++ ([7] ++ []))) _ = _ ∧ tcL ([6] ++ ((kpN N (chN (N c) 0) ++ (kpN N (chN (N c) 1) ++ (kpN N (chN (N c) 2) ++ []))) ++ ([7] ++ []))) _ = _
        rw [tk 1 5 rfl]
        exact au_one (s' := (2, b, o + 1)) rfl (ne_hi (by decide)) (au_seg (au_seg (kx 0 3 rfl (.inr (.inl rfl)) b (o + 1)) (au_one (s' := (2, b, o + 1)) rfl (ne_hi (by decide)) (au_seg (kx 2 4 rfl (.inl rfl) b (o + 1)) au_nil))) (au_one (s7 b o) (ne_hi (by decide)) au_nil))
      · have hS : syN 7 = 3 := by decide +kernel
        refine ⟨fun _ b o => ?_, fun q => by omega, fun q => by omega⟩
        rw [kp_no h hc e3 (by decide)]
        show auL (kpN N (chN (N c) 0) ++ []) _ = _ ∧ tcL (kpN N (chN (N c) 0) ++ []) _ = _
        exact au_seg (kx 0 4 rfl (.inl rfl) b o) au_nil
      · have hS : syN 8 = 4 := by decide +kernel
        refine ⟨fun _ b o => ?_, fun q => by omega, fun q => by omega⟩
        rw [kp_no h hc e3 (by decide)]
        show auL (kpN N (chN (N c) 0) ++ []) _ = _ ∧ tcL (kpN N (chN (N c) 0) ++ []) _ = _
        rw [tk 0 0 rfl]
        exact au_one (s' := (3, b, o)) rfl (ne_hi (by decide)) au_nil
      · have hS : syN 9 = 4 := by decide +kernel
        refine ⟨fun _ b o => ?_, fun q => by omega, fun q => by omega⟩
        rw [kp_no h hc e3 (by decide)]
        show auL (kpN N (chN (N c) 0) ++ []) _ = _ ∧ tcL (kpN N (chN (N c) 0) ++ []) _ = _
        rw [tk 0 1 rfl]
        exact au_one (s' := (3, b, o)) rfl (ne_hi (by decide)) au_nil
      · have hS : syN 10 = 4 := by decide +kernel
        refine ⟨fun _ b o => ?_, fun q => by omega, fun q => by omega⟩
        rw [kp_10 h hc e3]
        exact au_seg (kx 1 2 rfl (.inr (.inr rfl)) b o) au_nil
/-- of a TEXT that is a PRINT -/
theorem prt_runs {m : Nat} {N : Nat → Nd} {y : Mo} (hN : NdOk m N) (o : MoOk m N y) : tcL (kdsL (prt N (moR y))) (0, 0, 0) = (runsOf N (moR y)).length := by
  have e : kdsL (prt N (moR y)) = kpN N (moR y) := by
    rw [← kds_tkx, (print_tkx hN o).1]
    rfl
  rw [e, ((tp_nd hN (moR y) o.2.2.2.1.1).2.2 o.2.2.2.1.2.1 0).2, if_pos rfl, runs_tp hN o.2.2.2.1]
def vlX (x : Sg) (p : Nat × List Int32) : Int32 := enV (stVz (sgN x) (moR (sgC x))) (fun _ => 0) (tvX p).2.1
/-- a state whose TEXT is the PRINT of another: what it tells -/
theorem print_all {x x' : Sg} (hv : Iv x) (hv' : Iv x') (hb' : moB (sgC x') = true) (e : moT (sgC x') = prR x) :
    (rnR x').length = (rnR x).length ∧ cnR (sgN x') 8 (FF x') = cnR (sgN x) 8 (FF x) ∧ suA (sgN x') (ruE (ruR x')) (FF x') = suA (sgN x) (ruE (ruR x)) (FF x) ∧ cnD (sgN x') (ylR x') (ruT (ruR x')) = cnD (sgN x) (ylR x) (ruT (ruR x)) ∧ (ruD (ruR x')).length = (ruD (ruR x)).length ∧ (prR x').length = (prR x).length ∧
    ((tkx (moG (sgC x'))).filter isNX).map (vlX x') = ((tkx (moG (sgC x))).filter isNX).map (vlX x) := by
  obtain ⟨a, b, c⟩ := print_is hv hv' hb' e
  have hC' := hv'.2.2.2.2.2.2.2.1
  have eG : moG (sgC x') = prt (sgN x) (moR (sgC x)) := (hC'.2.2.1 hb').symm.trans e
  refine ⟨?_, by rw [reads_is hv', reads_is hv, a], by rw [ints_is hv', ints_is hv, a], names_same hv hv' a, by rw [(vals_is hv').2.2, (vals_is hv).2.2, a], b, ?_⟩
  · show (runsOf (sgN x') (moR (sgC x'))).length = (runsOf (sgN x) (moR (sgC x))).length
    rw [← tc_good hv'.2.1 hC', eG, prt_runs hv.2.1 hv.2.2.2.2.2.2.2.1]
  · rw [c]
    congr 1
    funext p
    show enV (stVz (sgN x') (moR (sgC x'))) (fun _ => 0) (tvX p).2.1 = enV (stVz (sgN x) (moR (sgC x))) (fun _ => 0) (tvX p).2.1
    rw [a]
/-! ===== PAIRS: 99 a change at most, so a change is not refused for them ===== -/
theorem chg_pb {x : Sg} {d tp : List Int32} (hv : Iv x) (hd : txOk d) (hr : ¬ refu x d) (htp : tp.length ≤ 200 ∧ ∀ b ∈ tp, byt b) (he : sgE x < 512) : (sgP (chg x d tp)).length ≤ (sgP x).length + 99 := by
  have hI := chg_ok hv hd hr htp he
  have hP := hv.2.2.2.2.2.1.1
  by_cases hg : regB x d
  · obtain ⟨-, g2, -, -, g5⟩ := chg_good (tp := tp) hg
    have hC : MoOk (sgM (chg x d tp)) (sgN (chg x d tp)) (newC x d) := hI.2.2.2.2.2.2.2.1
    obtain ⟨r1, r2⟩ := runs_ok hI.2.1 hI.2.2.1 hC.2.2.2.1
    rw [g2, g5] at r1 r2
    have h32 : sgM (chg x d tp) ≤ 3250 := hI.2.2.2.1
    obtain ⟨-, -, l3⟩ := layAllR_ok (pl := sgP x) (rs := runsOf (regY x d).2.2.1 (regR x d)) (fun r hr => by
      have := r1 r hr
      omega) hP
    have e : sgP (chg x d tp) = layAllR (runsOf (regY x d).2.2.1 (regR x d)) (sgP x) := by
      show (if (regY x d).1 + 1 = (lexL d).length ∧ topS (regY x d).2.2.2.1 = 1 then layAllR (runsOf (regY x d).2.2.1 (regR x d)) (sgP x) else sgP x) = _
      rw [if_pos (show (regY x d).1 + 1 = (lexL d).length ∧ topS (regY x d).2.2.2.1 = 1 from hg)]
    rw [e]
    omega
  · have e : sgP (chg x d tp) = sgP x := by
      show (if (regY x d).1 + 1 = (lexL d).length ∧ topS (regY x d).2.2.2.1 = 1 then layAllR (runsOf (regY x d).2.2.1 (regR x d)) (sgP x) else sgP x) = _
      rw [if_neg (show ¬ ((regY x d).1 + 1 = (lexL d).length ∧ topS (regY x d).2.2.2.1 = 1) from hg)]
    rw [e]
    exact Nat.le_add_right _ _
def Pb (x : Sg) : Prop := (sgP x).length ≤ 99 * sgE x
theorem doC_pb {x : Sg} {d : List Int32} {bt : Bool} (hv : Iv x) (hd : BtL d) (he : sgE x < 512) (h : Pb x) : Pb (doC x d bt).2 := by
  by_cases hr : refu x d
  · rw [doC_ref hr]
    exact h
  · rw [doC_do hr]
    have hr' : ¬ (300 < d.length ∨ 3000 ≤ sgM x ∨ 3900 ≤ (sgP x).length ∨ 100 < (lexL d).length) := hr
    have htp : (if bt = true then [] else sgT x).length ≤ 200 ∧ ∀ b ∈ (if bt = true then [] else sgT x), byt b := by
      by_cases ub : bt = true
      · rw [if_pos ub]
        exact ⟨Nat.zero_le _, fun b hb => by cases hb⟩
      · rw [if_neg ub]
        exact hv.1
    have := chg_pb hv ⟨by omega, hd.at, by omega⟩ hr htp he
    unfold Pb at h ⊢
    rw [(chg_cnt (x := x) (d := d) (tp := if bt = true then [] else sgT x)).2.1]
    omega
theorem undo_pb {x : Sg} (h : Pb x) : Pb (undoR x).2 := by
  obtain ⟨T, ⟨M, N⟩, P, E, A, C, Z⟩ := x
  cases A with
  | nil => exact h
  | cons y A => exact h
theorem redo_pb {x : Sg} (h : Pb x) : Pb (redoR x).2 := by
  obtain ⟨T, ⟨M, N⟩, P, E, A, C, Z⟩ := x
  cases Z with
  | nil => exact h
  | cons y Z => exact h
/-- with few EDITS a change is refused for its TEXT or for the nodes alone -/
theorem refu_is {x : Sg} {d : List Int32} (h : Pb x) (he : sgE x ≤ 39) : refu x d ↔ 300 < d.length ∨ 3000 ≤ sgM x ∨ 100 < (lexL d).length := by
  unfold Pb at h
  unfold refu
  omega
/-! ===== cut, twin, swap: what is told of them ===== -/
theorem lex_klen {l : List Int32} : (lexL l).length = (kdsL l).length + 1 := by
  rw [lexL_toks, List.length_append, kds_len]
  rfl
theorem good_bt {x : Sg} (hv : Iv x) : BtL (moT (sgC x)) ∧ (moT (sgC x)).length ≤ 300 ∧ (kdsL (moT (sgC x))).length ≤ 99 := by
  have hC := hv.2.2.2.2.2.2.2.1
  have h := hC.1.2.2
  rw [lex_klen] at h
  exact ⟨BtL.of hC.1.2.1, hC.1.1, by omega⟩
/-- a good TEXT made of the TEXT as it is -/
theorem made_good {x : Sg} {d : List Int32} (hv : Iv x) (hl : Lv x) (he : sgE x ≤ 39) (hd : BtL d) (hr : ¬ refu x d) (hg : auL (kdsL d) Z0 = some Z0) : (doC x d false).1 = 0 ∧ (rnR (doC x d false).2).length = tcL (kdsL d) Z0 ∧ moT (sgC (doC x d false).2) = d := by
  obtain ⟨d1, d2, d3, d4⟩ := doC_is (bt := false) hv hl hd (by omega) hr
  have hb := d3.mpr hg
  rw [hb] at d2
  exact ⟨d2.trans (if_pos rfl), d4 hb, d1⟩
theorem cut_full {x : Sg} (hv : Iv x) (hl : Lv x) (hp : Pb x) (he : sgE x ≤ 39) (hb : moB (sgC x) = true) {i r : Nat} (hr : (rnR x)[i]? = some r) :
    (refu x (cutD x i) ↔ 3000 ≤ sgM x) ∧ (cutD x i).length + (rE x i - rS x i) = (moT (sgC x)).length ∧ (¬ 3000 ≤ sgM x → (doC x (cutD x i) false).1 = 0 ∧ (rnR (doC x (cutD x i) false).2).length + 1 = (rnR x).length ∧ moT (sgC (doC x (cutD x i) false).2) = cutD x i) := by
  obtain ⟨k1, k2, k3⟩ := cut_kd hv hb hr
  obtain ⟨U, V, W, -, -, -, -, -, -, -, b2, le, -⟩ := run_kd hv hb hr
  obtain ⟨hB, h300, h99⟩ := good_bt hv
  have hle : rE x i ≤ (moT (sgC x)).length := b2.1
  have hlen : (cutD x i).length = rS x i + ((moT (sgC x)).length - rE x i) := by
    unfold cutD
    rw [List.length_append, seg_len (by omega), seg_len (Nat.le_refl _)]
    omega
  have hrf : refu x (cutD x i) ↔ 3000 ≤ sgM x := by
    rw [refu_is hp he, lex_klen]
    omega
  refine ⟨hrf, by omega, fun h3 => ?_⟩
  have hd : BtL (cutD x i) := (BtL.sg hB).app (BtL.sg hB)
  obtain ⟨d1, d2, d3⟩ := made_good hv hl he hd (fun q => h3 (hrf.mp q)) k1
  exact ⟨d1, by omega, d3⟩
theorem twin_full {x : Sg} (hv : Iv x) (hl : Lv x) (hp : Pb x) (he : sgE x ≤ 39) (hb : moB (sgC x) = true) {i r : Nat} (hr : (rnR x)[i]? = some r) :
    (refu x (twinD x i) → 300 < (moT (sgC x)).length + (rE x i - rS x i) ∨ 3000 ≤ sgM x ∨ 50 < (lexL (moT (sgC x))).length) ∧ (twinD x i).length = (moT (sgC x)).length + (rE x i - rS x i) ∧
    (¬ refu x (twinD x i) → (doC x (twinD x i) false).1 = 0 ∧ (rnR (doC x (twinD x i) false).2).length = (rnR x).length + 1 ∧ moT (sgC (doC x (twinD x i) false).2) = twinD x i) := by
  obtain ⟨k1, k2, k3⟩ := twin_kd hv hb hr
  obtain ⟨U, V, W, -, -, -, -, -, -, -, b2, le, -⟩ := run_kd hv hb hr
  obtain ⟨hB, h300, h99⟩ := good_bt hv
  have hle : rE x i ≤ (moT (sgC x)).length := b2.1
  have hlen : (twinD x i).length = (moT (sgC x)).length + (rE x i - rS x i) := by
    unfold twinD
    rw [List.length_append, seg_len hle, seg_len (Nat.le_refl _)]
    omega
  refine ⟨fun q => ?_, hlen, fun q => ?_⟩
  · rw [refu_is hp he, lex_klen] at q
    rw [lex_klen]
    omega
  · have hd : BtL (twinD x i) := (BtL.sg hB).app (BtL.sg hB)
    obtain ⟨d1, d2, d3⟩ := made_good hv hl he hd q k1
    exact ⟨d1, by omega, d3⟩
theorem swap_full {x : Sg} (hv : Iv x) (hl : Lv x) (hp : Pb x) (he : sgE x ≤ 39) (hb : moB (sgC x) = true) {i r r' : Nat} (hr : (rnR x)[i]? = some r) (hr' : (rnR x)[i + 1]? = some r') :
    (refu x (swapD x i) ↔ 3000 ≤ sgM x) ∧ (swapD x i).length = (moT (sgC x)).length ∧ (¬ 3000 ≤ sgM x → (doC x (swapD x i) false).1 = 0 ∧ (rnR (doC x (swapD x i) false).2).length = (rnR x).length ∧ moT (sgC (doC x (swapD x i) false).2) = swapD x i) := by
  obtain ⟨k1, k2, k3⟩ := swap_kd hv hb hr hr'
  obtain ⟨U, V, W, -, -, -, -, -, -, b1, b2, le, -⟩ := run_kd hv hb hr
  obtain ⟨U', V', W', -, -, -, -, -, -, -, b2', le2, -⟩ := run_kd hv hb hr'
  have le3 : rE x i ≤ rS x (i + 1) := (run_ok hv hr).2.2.2.2.2.2.2 (by
    show (rnR x)[i + 1]? ≠ none
    rw [hr']
    exact fun q => by cases q)
  obtain ⟨hB, h300, h99⟩ := good_bt hv
  have hle : rE x (i + 1) ≤ (moT (sgC x)).length := b2'.1
  have hlen : (swapD x i).length = (moT (sgC x)).length := by
    unfold swapD
    rw [List.length_append, List.length_append, List.length_append, List.length_append, seg_len (by omega), seg_len hle, seg_len (by omega), seg_len (by omega), seg_len (Nat.le_refl _)]
    omega
  have hrf : refu x (swapD x i) ↔ 3000 ≤ sgM x := by
    rw [refu_is hp he, lex_klen]
    omega
  refine ⟨hrf, hlen, fun h3 => ?_⟩
  have hd : BtL (swapD x i) := (((BtL.sg hB).app (BtL.sg hB)).app (BtL.sg hB)).app (BtL.sg hB) |>.app (BtL.sg hB)
  obtain ⟨d1, d2, d3⟩ := made_good hv hl he hd (fun q => h3 (hrf.mp q)) k1
  exact ⟨d1, by omega, d3⟩
/-! ===== an EDIT, what it tells: good, wrong, refused ===== -/
theorem edit_full {x : Sg} {d : List Int32} (hv : Iv x) (hl : Lv x) (he : sgE x ≤ 39) (hd : BtL d) (hr : ¬ refu x d) :
    (doC x d true).1 = (if wrG ((lexL d).map (fun x => x.1)) (0, 0, 0) 0 < 0 then 0 else 1) ∧ moT (sgC (doC x d true).2) = d ∧ sgT (doC x d true).2 = [] ∧
    (moB (sgC (doC x d true).2) = true ↔ (doC x d true).1 = 0) ∧ ((doC x d true).1 = 1 → moR (sgC (doC x d true).2) = moR (sgC x) ∧ sgM (doC x d true).2 = sgM x) := by
  obtain ⟨d1, d2, d3, d4⟩ := doC_is (bt := true) hv hl hd (by omega) hr
  have hr' : ¬ (300 < d.length ∨ 3000 ≤ sgM x ∨ 3900 ≤ (sgP x).length ∨ 100 < (lexL d).length) := hr
  have hok : txOk d := ⟨by omega, hd.at, by omega⟩
  have hw := wrong_is hok
  have eD := doC_do (bt := true) hr
  rw [if_pos rfl] at eD
  refine ⟨?_, d1, by rw [eD]; rfl, ?_, fun h1 => ?_⟩
  · rw [d2]
    by_cases u : auL (kdsL d) Z0 = some Z0
    · rw [if_pos (d3.mpr u), if_pos (hw.mpr u)]
    · rw [if_neg (fun q => u (d3.mp q)), if_neg (fun q => u (hw.mp q))]
  · rw [d2]
    by_cases u : moB (sgC (doC x d true).2) = true
    · rw [if_pos u]
      exact ⟨fun _ => rfl, fun _ => u⟩
    · rw [if_neg u]
      exact ⟨fun q => absurd q u, fun q => absurd q (by decide)⟩
  · have hb : ¬ moB (sgC (doC x d true).2) = true := fun q => by
      rw [d2, if_pos q] at h1
      exact absurd h1 (by decide)
    have hg : ¬ regB x d := fun q => hb (by
      rw [eD]
      exact (chg_good (tp := []) q).2.2.1)
    obtain ⟨g1, -, -, -, g5⟩ := chg_bad (tp := []) hg
    rw [eD]
    exact ⟨g5, g1⟩
/-! ===== LAST (names of p16's variant: to be read in p44's own row, not with t44.sh) ===== -/
theorem vLast_at {x : Sg} {k : Nat} (h : k < 10) : vLast x (zi k) = (sgLs x).1 k := by
  unfold vLast
  rw [if_pos ⟨(zi_le (a := 0) (by decide) (by omega)).mpr (Nat.zero_le _), (zi_le (b := 9) (by omega) (by decide)).mpr (by omega)⟩, zi_tn (by omega)]
theorem chg_ls {x : Sg} {d tp : List Int32} : (sgLs (chg x d tp)).1 = if (regY x d).1 + 1 = (lexL d).length ∧ topS (regY x d).2.2.2.1 = 1 then laG x d else laW x d := by
  show (if (regY x d).1 + 1 = (lexL d).length ∧ topS (regY x d).2.2.2.1 = 1 then (laG x d, (rcR x d).1) else (laW x d, (sgLs x).2)).1 = _
  by_cases hg : (regY x d).1 + 1 = (lexL d).length ∧ topS (regY x d).2.2.2.1 = 1
  · rw [if_pos hg, if_pos hg]
  · rw [if_neg hg, if_neg hg]
/-- kept ahead, kept behind, new: all tokens -/
theorem lastv_all {x : Sg} {d tp : List Int32} (hv : Iv x) (hd : txOk d) : vLast (chg x d tp) (zi 0) + vLast (chg x d tp) (zi 1) + vLast (chg x d tp) (zi 7) = zi (lexL d).length := by
  obtain ⟨h1, -⟩ := lastZ_is hv hd
  rw [vLast_at (by decide), vLast_at (by decide), vLast_at (by decide), chg_ls]
  refine Eq.trans ?_ (congrArg zi h1)
  rw [← zi_add, ← zi_add]
  by_cases hg : (regY x d).1 + 1 = (lexL d).length ∧ topS (regY x d).2.2.2.1 = 1
  · rw [if_pos hg]
    rfl
  · rw [if_neg hg]
    rfl
/-- a good change: taken at most as many as steps; nodes made -/
theorem lastv_good {x : Sg} {d tp : List Int32} (hv : Iv x) (hd : txOk d) (hg : regB x d) : vLast (chg x d tp) (zi 2) ≤ vLast (chg x d tp) (zi 5) ∧ zi (sgM (chg x d tp)) = zi (sgM x) + vLast (chg x d tp) (zi 3) := by
  obtain ⟨-, h2, h3, h4, -⟩ := lastZ_is hv hd
  have h : (regY x d).1 + 1 = (lexL d).length ∧ topS (regY x d).2.2.2.1 = 1 := hg
  rw [vLast_at (by decide), vLast_at (by decide), vLast_at (by decide), chg_ls, if_pos h, (chg_good hg).1]
  refine ⟨?_, ?_⟩
  · show zi (regY x d).2.2.2.2 ≤ zi (reg x d).2.1
    exact (zi_le (by omega) (by omega)).mpr h2
  · show zi (regY x d).2.1 = zi (sgM x) + zi ((regY x d).2.1 - sgM x)
    rw [zi_add, show sgM x + ((regY x d).2.1 - sgM x) = (regY x d).2.1 by omega]
