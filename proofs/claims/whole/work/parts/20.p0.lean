/-! THE PURE PART: numbers -/
theorem nJ {j : Nat} (h : j < 2147483648) : (nI j).toInt = (j : Int) := nI_toInt (by omega)
theorem nC {j : Nat} (h : j < 2147483648) : (nI j).toNatClampNeg = j := nI_clamp (by omega)
theorem i_lt (a b : Int32) : (a < b) = (a.toInt < b.toInt) := propext Int32.lt_iff_toInt_lt
theorem i_le (a b : Int32) : (a ≤ b) = (a.toInt ≤ b.toInt) := propext Int32.le_iff_toInt_le
theorem i_eq (a b : Int32) : (a = b) = (a.toInt = b.toInt) := propext Int32.toInt_inj.symm
theorem i_0 : (0 : Int32).toInt = 0 := by decide
theorem i_m1 : (-1 : Int32).toInt = -1 := by decide
/-- a number below e, as a place -/
def isN (x : Int32) (e : Nat) : Bool := decide (0 ≤ x.toInt ∧ x.toInt < e)
theorem isN_of {x : Int32} {e : Nat} (h : isN x e = true) : ∃ j, j < e ∧ x = nI j := by
  have h2 : 0 ≤ x.toInt ∧ x.toInt < e := of_decide_eq_true h
  have h3 : ¬ x < 0 := by rw [i_lt, i_0]; omega
  obtain ⟨j, hj, rfl⟩ := nI_of h3
  have := nJ hj
  exact ⟨j, by omega, rfl⟩
theorem isN_nI {j e : Nat} (hj : j < 2147483648) : isN (nI j) e = decide (j < e) := by
  unfold isN
  rw [nJ hj]
  congr 1
  apply propext
  omega
theorem isN_neg {x : Int32} {e : Nat} (h : x < 0) : isN x e = false := by
  rw [i_lt, i_0] at h
  exact decide_eq_false (by omega)
def isAr (K : yK) (p n : Nat) : Prop := p < K.1 ∧ K.2.1 p = (0, n)
theorem gA_N {K : yK} {p n i : Nat} (h : isAr K p n) (hi : i < n) (hn : n < 2147483648) : gA K p (nI i) = true := by
  refine decide_eq_true ⟨h.1, by rw [h.2], nI_pos (by omega), ?_⟩
  rw [h.2, nC (by omega)]
  exact hi
theorem gI_N {K : yK} {p n : Nat} (h : isAr K p n) : gI K p = true := decide_eq_true ⟨h.1, by rw [h.2]⟩
theorem len_N {K : yK} {p n : Nat} (h : isAr K p n) : Int32.ofNat (K.2.1 p).2 = nI n := by rw [h.2]; rfl
theorem yS_at (M : yM) (p i : Nat) (v : Int32) : yS M p i v p i = v := by simp [yS]
theorem yS_oi (M : yM) (p i : Nat) (v : Int32) {j : Nat} (h : j ≠ i) : yS M p i v p j = M p j := by simp [yS, h]
theorem yS_op (M : yM) (p i : Nat) (v : Int32) {q : Nat} (h : q ≠ p) (j : Nat) : yS M p i v q j = M q j := by simp [yS, h]
/-! the shape -/
def kdT : List (Nat × Nat) := [(9, 0), (1, 6), (0, 5), (5, 0), (6, 0), (0, 160), (0, 6),
  (3, 0), (0, 12), (0, 12), (0, 12), (0, 12), (0, 12), (0, 13), (0, 12), (0, 6),
  (3, 0), (0, 12), (0, 12), (0, 12), (0, 12), (0, 12), (0, 13), (0, 12), (0, 6),
  (3, 0), (0, 12), (0, 12), (0, 12), (0, 12), (0, 12), (0, 13), (0, 12), (0, 6),
  (4, 0), (8, 0), (0, 161), (0, 161), (0, 161), (0, 160), (2, 4), (7, 0), (0, 40), (7, 0), (0, 40), (7, 0), (0, 40), (7, 0), (0, 40), (0, 160),
  (10, 0), (0, 12), (0, 12), (0, 36), (0, 6), (0, 160), (0, 1200), (0, 24), (0, 36), (0, 6), (0, 5), (0, 4), (0, 4), (0, 160), (0, 38), (0, 96), (0, 200), (0, 200), (0, 6), (0, 12), (0, 4)]
def rfB (t f : Nat) : Option Nat := if f < 8 then some (t + 1 + f) else if f = 17 then some 1 else if f = 18 then some 4 else none
def rfT (p f : Nat) : Option Nat :=
  if p = 0 then (if f = 0 then some 7 else if f = 1 then some 16 else if f = 2 then some 25 else if f = 3 then some 34 else if f = 4 then some 40 else if f = 5 then some 49 else none)
  else if p = 3 then (if f = 0 then some 2 else none)
  else if p = 4 then (if f = 0 then some 5 else if f = 1 then some 6 else none)
  else if p = 7 ∨ p = 16 ∨ p = 25 then rfB p f
  else if p = 34 then (if f = 0 then some 35 else if f = 1 then some 39 else none)
  else if p = 35 then (if f = 0 then some 36 else if f = 1 then some 37 else if f = 2 then some 38 else none)
  else if p = 40 then (if f = 0 then some 41 else if f = 1 then some 43 else if f = 2 then some 45 else if f = 3 then some 47 else none)
  else if p = 41 ∨ p = 43 ∨ p = 45 ∨ p = 47 then (if f = 0 then some (p + 1) else none)
  else if p = 50 then (if f = 1 then some 51 else if f = 2 then some 52 else if f = 3 then some 53 else if f = 5 then some 54 else if f = 11 then some 55 else if f = 13 then some 56 else if f = 14 then some 57 else if f = 21 then some 58 else if f = 22 then some 59 else if f = 23 then some 60 else if f = 24 then some 61 else if f = 25 then some 62 else if f = 26 then some 63 else if f = 27 then some 64 else if f = 32 then some 65 else if f = 33 then some 66 else if f = 37 then some 67 else if f = 38 then some 68 else if f = 40 then some 69 else if f = 41 then some 70 else none)
  else none
def KSh (K : yK) : Prop := 71 ≤ K.1 ∧ K.1 ≤ 200 ∧ (∀ p, p < 71 → K.2.1 p = kdT.getD p (0, 0)) ∧ ∀ p f, p < 71 → p ≠ 1 → K.2.2 p f = rfT p f
theorem KSh.ar {K : yK} (h : KSh K) {p n : Nat} (hp : p < 71) (hk : kdT.getD p (0, 0) = (0, n)) : isAr K p n := ⟨Nat.lt_of_lt_of_le hp h.1, by rw [h.2.2.1 p hp, hk]⟩
theorem KSh.ob {K : yK} (h : KSh K) {p ci : Nat} (hp : p < 71) (hk : (kdT.getD p (0, 0)).1 = ci + 3) : gO K p ci = true := decide_eq_true ⟨Nat.lt_of_lt_of_le hp h.1, by rw [h.2.2.1 p hp, hk]⟩
theorem KSh.rf {K : yK} (h : KSh K) {p f q : Nat} (hp : p < 71) (h1 : p ≠ 1) (hk : rfT p f = some q) : K.2.2 p f = some q := by rw [h.2.2.2 p f hp h1, hk]
/-- a Book's place -/
def isB (t : Nat) : Prop := t = 7 ∨ t = 16 ∨ t = 25
theorem KSh.bo {K : yK} (h : KSh K) {t : Nat} (ht : isB t) : gO K t 0 = true := by
  rcases ht with rfl | rfl | rfl <;> exact h.ob (by decide) rfl
theorem KSh.br {K : yK} (h : KSh K) {t f : Nat} (ht : isB t) (hf : f < 8) : K.2.2 t f = some (t + 1 + f) := by
  rcases ht with rfl | rfl | rfl <;> exact h.rf (by decide) (by decide) (by simp [rfT, rfB, hf])
theorem KSh.b17 {K : yK} (h : KSh K) {t : Nat} (ht : isB t) : K.2.2 t 17 = some 1 := by
  rcases ht with rfl | rfl | rfl <;> exact h.rf (by decide) (by decide) rfl
theorem KSh.b18 {K : yK} (h : KSh K) {t : Nat} (ht : isB t) : K.2.2 t 18 = some 4 := by
  rcases ht with rfl | rfl | rfl <;> exact h.rf (by decide) (by decide) rfl
theorem KSh.ba {K : yK} (h : KSh K) {t f : Nat} (ht : isB t) (hf : f < 5) : isAr K (t + 1 + f) 12 := by
  rcases (show f = 0 ∨ f = 1 ∨ f = 2 ∨ f = 3 ∨ f = 4 by omega) with rfl | rfl | rfl | rfl | rfl <;> rcases ht with rfl | rfl | rfl <;> exact h.ar (by decide) rfl
theorem KSh.b6 {K : yK} (h : KSh K) {t : Nat} (ht : isB t) : isAr K (t + 6) 13 := by
  rcases ht with rfl | rfl | rfl <;> exact h.ar (by decide) rfl
theorem KSh.b7 {K : yK} (h : KSh K) {t : Nat} (ht : isB t) : isAr K (t + 7) 12 := by
  rcases ht with rfl | rfl | rfl <;> exact h.ar (by decide) rfl
theorem KSh.b8 {K : yK} (h : KSh K) {t : Nat} (ht : isB t) : isAr K (t + 8) 6 := by
  rcases ht with rfl | rfl | rfl <;> exact h.ar (by decide) rfl
/-! a book -/
abbrev Bk : Type := Nat × (Nat → Nat) × (Nat → Nat) × (Nat → Nat) × (Nat → Int32) × (Nat → Int32) × Nat × (Nat → Int32) × Nat × Nat × Int32 × Int32 × Int32 × Nat
def bE (b : Bk) : Nat := b.1
def bK (b : Bk) : Nat → Nat := b.2.1
def bM (b : Bk) : Nat → Nat := b.2.2.1
def bZ (b : Bk) : Nat → Nat := b.2.2.2.1
def bT (b : Bk) : Nat → Int32 := b.2.2.2.2.1
def bR (b : Bk) : Nat → Int32 := b.2.2.2.2.2.1
def bDn (b : Bk) : Nat := b.2.2.2.2.2.2.1
def bDs (b : Bk) : Nat → Int32 := b.2.2.2.2.2.2.2.1
def bPg (b : Bk) : Nat := b.2.2.2.2.2.2.2.2.1
def bDy (b : Bk) : Nat := b.2.2.2.2.2.2.2.2.2.1
def bBm (b : Bk) : Int32 := b.2.2.2.2.2.2.2.2.2.2.1
def bSk (b : Bk) : Int32 := b.2.2.2.2.2.2.2.2.2.2.2.1
def bCa (b : Bk) : Int32 := b.2.2.2.2.2.2.2.2.2.2.2.2.1
def bLw (b : Bk) : Nat := b.2.2.2.2.2.2.2.2.2.2.2.2.2
def tkF (k m s : Nat) : Nat := if k = 2 ∨ k = 4 then s + m / 3 else if k = 5 then (if s / 2 < 1 then 1 else s / 2) else s
def tkB (b : Bk) (w : Nat) : Nat := tkF (bK b w) (bM b w) (bZ b w)
def fsB (b : Bk) : Nat → Nat
  | 0 => 0
  | w + 1 => fsB b w + tkB b w
def ndF (k : Nat) : Bool := decide (k ≠ 2 ∧ k ≠ 4)
/-- one bit -/
abbrev sh1 (w : Nat) : Int32 := (1 : Int32) <<< (nI w &&& 31)
abbrev bit (x : Int32) (w : Nat) : Int32 := x >>> (nI w &&& 31) &&& 1
/-- the way of definitions: fuel, where one stands, what was seen -/
def chF (b : Bk) : Nat → Int32 → Int32 → Int32
  | 0, _, s => s
  | n + 1, at', s => if isN at' (bE b) = true ∧ bit s at'.toNatClampNeg = 0 then chF b n (if ndF (bK b at'.toNatClampNeg) = true then bT b at'.toNatClampNeg else -1) (s ||| sh1 at'.toNatClampNeg) else s
def chB (b : Bk) (w : Nat) : Int32 := chF b 12 (nI w) 0
def WB (b : Bk) : Prop := bE b ≤ 12 ∧ (∀ w, w < bE b → bK b w < 6 ∧ bM b w < 10 ∧ 1 ≤ bZ b w ∧ bZ b w ≤ 60 ∧ (bT b w = -1 ∨ ∃ j, j < 12 ∧ bT b w = nI j) ∧ (bR b w = -1 ∨ ∃ j, j < 2000 ∧ bR b w = nI j)) ∧ bDn b ≤ 6 ∧ bPg b < 1000 ∧ bDy b < 2000 ∧ (bBm b = -1 ∨ ∃ j, j < bE b ∧ bBm b = nI j)
/-- what a Book at t holds -/
def BR (M : yM) (t : Nat) (b : Bk) : Prop :=
  (M t 8 = nI (bE b) ∧ M t 9 = nI (bDn b) ∧ M t 10 = nI (bPg b) ∧ M t 11 = nI (bDy b) ∧ M t 12 = bBm b ∧ M t 13 = bSk b ∧ M t 14 = bCa b ∧ M t 15 = nI (bLw b)) ∧
  (∀ w, w < bE b → M (t + 1) w = nI (bK b w) ∧ M (t + 2) w = nI (bM b w) ∧ M (t + 3) w = nI (bZ b w) ∧ M (t + 4) w = bT b w ∧ M (t + 5) w = bR b w) ∧
  (∀ d, d < bDn b → M (t + 8) d = bDs b d)
/-- and what is reckoned ahead -/
def BS (M : yM) (t : Nat) (b : Bk) : Prop := (∀ w, w ≤ bE b → M (t + 6) w = nI (fsB b w)) ∧ ∀ w, w < bE b → M (t + 7) w = chB b w
theorem tkF_le {k m s : Nat} (hm : m < 10) (h1 : 1 ≤ s) (h2 : s ≤ 60) : 1 ≤ tkF k m s ∧ tkF k m s ≤ 63 := by
  unfold tkF
  split
  · omega
  · split
    · split <;> omega
    · omega
theorem tkB_le {b : Bk} (h : WB b) {w : Nat} (hw : w < bE b) : 1 ≤ tkB b w ∧ tkB b w ≤ 63 := by
  obtain ⟨-, h2, -⟩ := h
  obtain ⟨-, q2, q3, q4, -⟩ := h2 w hw
  exact tkF_le q2 q3 q4
theorem fsB_le {b : Bk} (h : WB b) : ∀ w, w ≤ bE b → w ≤ fsB b w ∧ fsB b w ≤ 63 * w
  | 0, _ => ⟨Nat.le_refl _, Nat.le_refl _⟩
  | w + 1, hw => by
    have := fsB_le h w (by omega)
    have := tkB_le h (w := w) (by omega)
    show w + 1 ≤ fsB b w + tkB b w ∧ fsB b w + tkB b w ≤ 63 * (w + 1)
    omega
theorem fsB_mono {b : Bk} : ∀ {v w : Nat}, v ≤ w → fsB b v ≤ fsB b w
  | v, 0, h => by rw [show v = 0 by omega]; exact Nat.le_refl _
  | v, w + 1, h => by
    rcases Nat.lt_or_ge w v with q | q
    · rw [show v = w + 1 by omega]; exact Nat.le_refl _
    · exact Nat.le_trans (fsB_mono q) (Nat.le_add_right _ _)
