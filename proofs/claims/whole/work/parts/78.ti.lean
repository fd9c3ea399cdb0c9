/-! tokens on the tape: bytes v, ts of them -/
def rnF (v : Nat → Nat) (ts : Nat) (pr : Nat → Bool) : Nat → Nat → Nat
  | 0, p => p
  | f + 1, p => if p < ts ∧ pr (v p) = true then rnF v ts pr f (p + 1) else p
def run (v : Nat → Nat) (ts : Nat) (pr : Nat → Bool) (p : Nat) : Nat := rnF v ts pr ts p
theorem rnF_f {v : Nat → Nat} {ts : Nat} {pr : Nat → Bool} : ∀ (f g p : Nat), ts ≤ p + f → ts ≤ p + g → rnF v ts pr f p = rnF v ts pr g p
  | 0, 0, _, _, _ => rfl
  | 0, g + 1, p, h1, _ => by rw [rnF, rnF, if_neg (by omega)]
  | f + 1, 0, p, _, h2 => by rw [rnF, rnF, if_neg (by omega)]
  | f + 1, g + 1, p, h1, h2 => by
    rw [rnF, rnF]
    by_cases z : p < ts ∧ pr (v p) = true
    · rw [if_pos z, if_pos z]; exact rnF_f f g (p + 1) (by omega) (by omega)
    · rw [if_neg z, if_neg z]
theorem run_eq (v : Nat → Nat) (ts : Nat) (pr : Nat → Bool) (p : Nat) : run v ts pr p = if p < ts ∧ pr (v p) = true then run v ts pr (p + 1) else p := by
  unfold run
  by_cases z : p < ts ∧ pr (v p) = true
  · rw [if_pos z, rnF_f ts (ts + 1) p (by omega) (by omega), rnF, if_pos z]
  · rw [if_neg z, rnF_f ts (ts + 1) p (by omega) (by omega), rnF, if_neg z]
theorem rnF_le {v : Nat → Nat} {ts : Nat} {pr : Nat → Bool} : ∀ (f p : Nat), p ≤ rnF v ts pr f p ∧ (p ≤ ts → rnF v ts pr f p ≤ ts) ∧ (∀ q, p ≤ q → q < rnF v ts pr f p → pr (v q) = true)
  | 0, p => ⟨Nat.le_refl _, fun h => h, fun q h1 h2 => absurd h1 (Nat.not_le_of_lt h2)⟩
  | f + 1, p => by
    rw [rnF]
    by_cases z : p < ts ∧ pr (v p) = true
    · rw [if_pos z]
      obtain ⟨h1, h2, h3⟩ := rnF_le (v := v) (ts := ts) (pr := pr) f (p + 1)
      refine ⟨by omega, fun _ => h2 (by omega), fun q g1 g2 => ?_⟩
      rcases Nat.lt_or_ge p q with y | y
      · exact h3 q y g2
      · rw [show q = p by omega]; exact z.2
    · rw [if_neg z]
      exact ⟨Nat.le_refl _, fun h => h, fun q h1 h2 => absurd h1 (Nat.not_le_of_lt h2)⟩
theorem run_le (v : Nat → Nat) (ts : Nat) (pr : Nat → Bool) (p : Nat) : p ≤ run v ts pr p ∧ (p ≤ ts → run v ts pr p ≤ ts) ∧ ∀ q, p ≤ q → q < run v ts pr p → pr (v q) = true := rnF_le ts p
def isBl (b : Nat) : Bool := decide (b = 32 ∨ b = 10)
def isLt (b : Nat) : Bool := decide (97 ≤ b ∧ b ≤ 122)
def isDg (b : Nat) : Bool := decide (48 ≤ b ∧ b ≤ 57)
def sk (v : Nat → Nat) (ts p : Nat) : Nat := run v ts isBl p
def en (v : Nat → Nat) (ts q : Nat) : Nat := if isLt (v q) = true then run v ts isLt (q + 1) else if isDg (v q) = true then run v ts isDg (q + 1) else q + 1
def wcN (j c : Nat) : Nat := (([[114, 101, 97, 100, 115], [104, 111, 108, 100, 115], [119, 111, 114, 116, 104], [111, 114], [97, 110, 100], [110, 111, 116], [100, 97, 121], [109, 111, 114, 101], [112, 97, 103, 101, 115], [101, 110, 116, 114, 121], [119, 111, 114, 100, 115], [98, 101, 104, 105, 110, 100]] : List (List Nat)).getD j []).getD c 0
def wl (j : Nat) : Nat := yTl.getD j 0
def wdP (v : Nat → Nat) (q e j : Nat) : Prop := e = q + wl j ∧ ∀ c, c < wl j → v (q + c) = wcN j c
def wdF (v : Nat → Nat) (q e : Nat) : Nat → Nat → Nat
  | 0, j => j
  | f + 1, j => if e = q + wl j ∧ (∀ c, c < wl j → v (q + c) = wcN j c) then j else wdF v q e f (j + 1)
def wdx (v : Nat → Nat) (q e : Nat) : Nat := wdF v q e 12 0
def isSg (b : Nat) : Bool := decide (b = 40 ∨ b = 41 ∨ b = 42 ∨ b = 43 ∨ b = 45 ∨ b = 59 ∨ b = 60 ∨ b = 61)
def tok (v : Nat → Nat) (ts q : Nat) : Nat := if q < ts then (if isLt (v q) = true then (if wdx v q (en v ts q) < 12 then 256 + wdx v q (en v ts q) else 3) else if isDg (v q) = true then (if en v ts q ≤ q + 4 then 1 else 3) else if isSg (v q) = true then v q else 3) else 0
def nmN (v : Nat → Nat) : Nat → Nat → Nat → Nat
  | 0, _, a => a
  | f + 1, p, a => nmN v f (p + 1) (a * 10 + v p - 48)
def nmv (v : Nat → Nat) (ts q : Nat) : Nat := nmN v (en v ts q - q) q 0
def nxp (v : Nat → Nat) (ts p : Nat) : Nat := if sk v ts p < ts then en v ts (sk v ts p) else sk v ts p
def posF (v : Nat → Nat) (ts p : Nat) : Nat → Nat
  | 0 => p
  | i + 1 => nxp v ts (posF v ts p i)
def NF (v : Nat → Nat) (ts : Nat) : Nat → Nat → Nat
  | 0, _ => 1
  | f + 1, p => if sk v ts p < ts then NF v ts f (en v ts (sk v ts p)) + 1 else 1
theorem en_lt (v : Nat → Nat) (ts q : Nat) : q < en v ts q ∧ (q < ts → en v ts q ≤ ts) := by
  unfold en
  by_cases z : isLt (v q) = true
  · rw [if_pos z]
    obtain ⟨h1, h2, -⟩ := run_le v ts isLt (q + 1)
    exact ⟨by omega, fun h => h2 (by omega)⟩
  · rw [if_neg z]
    by_cases y : isDg (v q) = true
    · rw [if_pos y]
      obtain ⟨h1, h2, -⟩ := run_le v ts isDg (q + 1)
      exact ⟨by omega, fun h => h2 (by omega)⟩
    · rw [if_neg y]
      exact ⟨by omega, fun h => by omega⟩
theorem sk_le (v : Nat → Nat) (ts p : Nat) : p ≤ sk v ts p ∧ (p ≤ ts → sk v ts p ≤ ts) := ⟨(run_le v ts isBl p).1, (run_le v ts isBl p).2.1⟩
theorem NF_f {v : Nat → Nat} {ts : Nat} : ∀ (f g p : Nat), ts < p + f → ts < p + g → NF v ts f p = NF v ts g p
  | 0, 0, _, _, _ => rfl
  | 0, g + 1, p, h1, _ => by
    have := (sk_le v ts p).1
    rw [NF, NF, if_neg (by omega)]
  | f + 1, 0, p, _, h2 => by
    have := (sk_le v ts p).1
    rw [NF, NF, if_neg (by omega)]
  | f + 1, g + 1, p, h1, h2 => by
    rw [NF, NF]
    by_cases z : sk v ts p < ts
    · have h3 := (sk_le v ts p).1
      have h4 := (en_lt v ts (sk v ts p)).1
      rw [if_pos z, if_pos z, NF_f f g _ (by omega) (by omega)]
    · rw [if_neg z, if_neg z]
def NN (v : Nat → Nat) (ts p : Nat) : Nat := NF v ts (ts + 1) p
theorem NN_eq (v : Nat → Nat) (ts p : Nat) : NN v ts p = if sk v ts p < ts then NN v ts (en v ts (sk v ts p)) + 1 else 1 := by
  unfold NN
  rw [NF]
  by_cases z : sk v ts p < ts
  · have h3 := (sk_le v ts p).1
    have h4 := (en_lt v ts (sk v ts p)).1
    rw [if_pos z, if_pos z, NF_f ts (ts + 1) _ (by omega) (by omega)]
  · rw [if_neg z, if_neg z]
theorem posF_s (v : Nat → Nat) (ts p : Nat) : ∀ i, posF v ts p (i + 1) = posF v ts (nxp v ts p) i
  | 0 => rfl
  | i + 1 => by
    show nxp v ts (posF v ts p (i + 1)) = nxp v ts (posF v ts (nxp v ts p) i)
    rw [posF_s v ts p i]
/-- so many tokens there are, the last the end -/
theorem NN_is (v : Nat → Nat) (ts : Nat) : ∀ (f p : Nat), ts < p + f → p ≤ ts → 1 ≤ NN v ts p ∧ NN v ts p ≤ ts - p + 1 ∧ (∀ i, i < NN v ts p - 1 → sk v ts (posF v ts p i) < ts) ∧ sk v ts (posF v ts p (NN v ts p - 1)) = ts
  | 0, p, h, hp => absurd h (by omega)
  | f + 1, p, h, hp => by
    have h3 := sk_le v ts p
    have h4 := en_lt v ts (sk v ts p)
    rw [NN_eq]
    by_cases z : sk v ts p < ts
    · rw [if_pos z]
      have hn : nxp v ts p = en v ts (sk v ts p) := if_pos z
      obtain ⟨g1, g2, g3, g4⟩ := NN_is v ts f (en v ts (sk v ts p)) (by omega) (h4.2 z)
      refine ⟨by omega, by omega, fun i hi => ?_, ?_⟩
      · cases i with
        | zero => exact z
        | succ i => rw [posF_s, hn]; exact g3 i (by omega)
      · obtain ⟨n, hn2⟩ : ∃ n, NN v ts (en v ts (sk v ts p)) = n + 1 := ⟨NN v ts (en v ts (sk v ts p)) - 1, by omega⟩
        rw [hn2] at g4 ⊢
        rw [show n + 1 + 1 - 1 = n + 1 by omega, posF_s, hn]
        exact g4
    · rw [if_neg z]
      exact ⟨by omega, by omega, fun i hi => absurd hi (by omega), by show sk v ts p = ts; have := h3.2 hp; omega⟩
/-- a blank ahead changes nothing -/
theorem sk_bl {v : Nat → Nat} {ts p : Nat} (hp : p < ts) (h : isBl (v p) = true) : sk v ts p = sk v ts (p + 1) := by
  unfold sk
  rw [run_eq, if_pos ⟨hp, h⟩]
theorem sk_nb {v : Nat → Nat} {ts p : Nat} (h : isBl (v p) = false) : sk v ts p = p := by
  unfold sk
  rw [run_eq, if_neg (by rw [h]; exact fun z => Bool.false_ne_true z.2)]
theorem NN_bl {v : Nat → Nat} {ts p : Nat} (hp : p < ts) (h : isBl (v p) = true) : NN v ts p = NN v ts (p + 1) := by
  rw [NN_eq v ts p, NN_eq v ts (p + 1), sk_bl hp h]
theorem posF_bl {v : Nat → Nat} {ts p : Nat} (hp : p < ts) (h : isBl (v p) = true) : ∀ i, sk v ts (posF v ts p i) = sk v ts (posF v ts (p + 1) i)
  | 0 => sk_bl hp h
  | i + 1 => by
    rw [posF_s, posF_s]
    have : nxp v ts p = nxp v ts (p + 1) := by unfold nxp; rw [sk_bl hp h]
    rw [this]
/-! what a token is -/
theorem wdF_is (v : Nat → Nat) (q e : Nat) : ∀ (f j : Nat), (wdF v q e f j = j + f ∧ ∀ i, j ≤ i → i < j + f → ¬ wdP v q e i) ∨ (j ≤ wdF v q e f j ∧ wdF v q e f j < j + f ∧ wdP v q e (wdF v q e f j))
  | 0, j => .inl ⟨rfl, fun i h1 h2 => absurd h1 (by omega)⟩
  | f + 1, j => by
    rw [wdF]
    by_cases z : e = q + wl j ∧ (∀ c, c < wl j → v (q + c) = wcN j c)
    · rw [if_pos z]
      exact .inr ⟨Nat.le_refl _, by omega, z⟩
    · rw [if_neg z]
      rcases wdF_is v q e f (j + 1) with ⟨h1, h2⟩ | ⟨h1, h2, h3⟩
      · refine .inl ⟨by omega, fun i g1 g2 => ?_⟩
        rcases Nat.lt_or_ge j i with y | y
        · exact h2 i y (by omega)
        · rw [show i = j by omega]; exact z
      · exact .inr ⟨by omega, by omega, h3⟩
theorem wd_ne : ∀ i, i < 12 → ∀ j, j < 12 → i ≠ j → wl i ≠ wl j ∨ ∃ c, c < wl i ∧ wcN i c ≠ wcN j c := by decide +kernel
theorem wdP_u {v : Nat → Nat} {q e i j : Nat} (hi : i < 12) (hj : j < 12) (h : wdP v q e i) (g : wdP v q e j) : i = j := by
  rcases Nat.decEq i j with z | z
  · exfalso
    obtain ⟨h1, h2⟩ := h
    obtain ⟨g1, g2⟩ := g
    rcases wd_ne i hi j hj z with y | ⟨c, c1, c2⟩
    · omega
    · have e1 := h2 c c1
      have e2 := g2 c (by omega)
      omega
  · exact z
theorem wdx_of {v : Nat → Nat} {q e j : Nat} (hj : j < 12) (h : wdP v q e j) : wdx v q e = j := by
  rcases wdF_is v q e 12 0 with ⟨-, h2⟩ | ⟨-, h2, h3⟩
  · exact absurd h (h2 j (by omega) (by omega))
  · exact wdP_u (by unfold wdx; omega) hj h3 h
theorem wdx_12 {v : Nat → Nat} {q e : Nat} (h : ∀ j, j < 12 → ¬ wdP v q e j) : wdx v q e = 12 := by
  rcases wdF_is v q e 12 0 with ⟨h1, -⟩ | ⟨-, h2, h3⟩
  · unfold wdx; omega
  · exact absurd h3 (h _ (by omega))
theorem wdx_le (v : Nat → Nat) (q e : Nat) : wdx v q e ≤ 12 ∧ (wdx v q e < 12 → wdP v q e (wdx v q e)) ∧ (wdx v q e = 12 → ∀ j, j < 12 → ¬ wdP v q e j) := by
  unfold wdx
  rcases wdF_is v q e 12 0 with ⟨h1, h2⟩ | ⟨-, h2, h3⟩
  · exact ⟨by omega, fun z => by omega, fun _ j hj => h2 j (by omega) (by omega)⟩
  · exact ⟨by omega, fun _ => h3, fun z => by omega⟩
theorem nmN_lt {v : Nat → Nat} : ∀ (f p a b : Nat), (∀ q, p ≤ q → q < p + f → 48 ≤ v q ∧ v q ≤ 57) → a < b → nmN v f p a < b * 10 ^ f
  | 0, p, a, b, _, h => by show a < b * 1; omega
  | f + 1, p, a, b, hd, h => by
    have h0 := hd p (Nat.le_refl _) (by omega)
    have := nmN_lt f (p + 1) (a * 10 + v p - 48) (b * 10) (fun q h1 h2 => hd q (by omega) (by omega)) (by omega)
    rw [nmN, Nat.pow_succ, Nat.mul_comm (10 ^ f) 10, ← Nat.mul_assoc]
    exact this
theorem nmv_le {v : Nat → Nat} {ts q : Nat} (hq : q < ts) (hl : isLt (v q) = false) (hd : isDg (v q) = true) (he : en v ts q ≤ q + 4) : nmv v ts q ≤ 9999 := by
  have e : en v ts q = run v ts isDg (q + 1) := by unfold en; rw [if_neg (by rw [hl]; decide), if_pos hd]
  obtain ⟨h1, h2, h3⟩ := run_le v ts isDg (q + 1)
  have hall : ∀ p, q ≤ p → p < q + (en v ts q - q) → 48 ≤ v p ∧ v p ≤ 57 := by
    intro p g1 g2
    rcases Nat.lt_or_ge q p with y | y
    · exact of_decide_eq_true (h3 p y (by omega))
    · rw [show p = q by omega]; exact of_decide_eq_true hd
  have := nmN_lt (v := v) (en v ts q - q) q 0 1 hall (by omega)
  have hp : 10 ^ (en v ts q - q) ≤ 10 ^ 4 := Nat.pow_le_pow_right (by decide) (by omega)
  unfold nmv
  omega
theorem tok_V {v : Nat → Nat} {ts q : Nat} : tkV (tok v ts q) ∧ (q < ts → tok v ts q ≠ 0) ∧ (tok v ts q = 1 → nmv v ts q ≤ 9999) := by
  unfold tok
  by_cases z : q < ts
  · rw [if_pos z]
    by_cases y : isLt (v q) = true
    · rw [if_pos y]
      by_cases x : wdx v q (en v ts q) < 12
      · rw [if_pos x]
        exact ⟨.inr (.inr ⟨by omega, by omega⟩), fun _ => by omega, fun e => by omega⟩
      · rw [if_neg x]
        exact ⟨.inl (by decide), fun _ => by decide, fun e => absurd e (by decide)⟩
    · rw [if_neg y]
      by_cases x : isDg (v q) = true
      · rw [if_pos x]
        by_cases w : en v ts q ≤ q + 4
        · rw [if_pos w]
          exact ⟨.inl (by decide), fun _ => by decide, fun _ => nmv_le z (by cases h : isLt (v q); rfl; exact absurd h y) x w⟩
        · rw [if_neg w]
          exact ⟨.inl (by decide), fun _ => by decide, fun e => absurd e (by decide)⟩
      · rw [if_neg x]
        by_cases w : isSg (v q) = true
        · rw [if_pos w]
          have w' := of_decide_eq_true w
          exact ⟨.inr (.inl (by omega)), fun _ => by omega, fun e => by omega⟩
        · rw [if_neg w]
          exact ⟨.inl (by decide), fun _ => by decide, fun e => absurd e (by decide)⟩
  · rw [if_neg z]
    exact ⟨.inl (by decide), fun h => absurd h z, fun e => absurd e (by decide)⟩
def tkT (v : Nat → Nat) (ts i : Nat) : Nat := tok v ts (sk v ts (posF v ts 0 i))
def nvT (v : Nat → Nat) (ts i : Nat) : Nat := nmv v ts (sk v ts (posF v ts 0 i))
def plT (v : Nat → Nat) (ts i : Nat) : Nat := sk v ts (posF v ts 0 i)
theorem posF_le (v : Nat → Nat) (ts p : Nat) (hp : p ≤ ts) : ∀ i, posF v ts p i ≤ ts
  | 0 => hp
  | i + 1 => by
    have h := posF_le v ts p hp i
    show nxp v ts (posF v ts p i) ≤ ts
    unfold nxp
    by_cases z : sk v ts (posF v ts p i) < ts
    · rw [if_pos z]; exact (en_lt v ts _).2 z
    · rw [if_neg z]; exact (sk_le v ts _).2 h
theorem T_ok {v : Nat → Nat} {ts : Nat} (hts : ts ≤ 160) : TKS (tkT v ts) (nvT v ts) (plT v ts) (NN v ts 0) := by
  obtain ⟨h1, h2, h3, h4⟩ := NN_is v ts (ts + 1) 0 (by omega) (by omega)
  refine ⟨⟨h1, by omega⟩, ⟨?_, fun i hi => tok_V.2.1 (h3 i hi)⟩, fun i hi => ⟨tok_V.1, tok_V.2.2, ?_⟩⟩
  · unfold tkT tok
    rw [if_neg (by omega)]
  · have := (sk_le v ts (posF v ts 0 i)).2 (posF_le v ts 0 (by omega) i)
    unfold plT
    omega
