/-! days, one behind the other -/
def pgB (b : Bk) (p : Nat) : Bk := (bE b, bK b, bM b, bZ b, bT b, bR b, bDn b, bDs b, p, bDy b, bBm b, bSk b, bCa b, bLw b)
def tnB (T : Bool) (s : Bk × Nat) : Bk := if T = true then pgB s.1 s.2 else s.1
def d1 (x : Tx) (T : Bool) (s : Bk × Nat) : Bk × Nat := (dyB x (tnB T s), bgB (tnB T s))
def dI (x : Tx) (T : Nat → Bool) (b : Bk) : Nat → Bk × Nat
  | 0 => (b, bPg b)
  | i + 1 => d1 x (T i) (dI x T b i)
/-- what no day changes -/
def SB (b c : Bk) : Prop := bE c = bE b ∧ bK c = bK b ∧ bM c = bM b ∧ bZ c = bZ b ∧ bT c = bT b ∧ bDn c = bDn b ∧ bDs c = bDs b ∧ bSk c = bSk b ∧ bLw c = bLw b
theorem SB.rf (b : Bk) : SB b b := ⟨rfl, rfl, rfl, rfl, rfl, rfl, rfl, rfl, rfl⟩
theorem SB.tr {a b c : Bk} (h : SB a b) (g : SB b c) : SB a c := by
  obtain ⟨h1, h2, h3, h4, h5, h6, h7, h8, h9⟩ := h
  obtain ⟨g1, g2, g3, g4, g5, g6, g7, g8, g9⟩ := g
  exact ⟨g1.trans h1, g2.trans h2, g3.trans h3, g4.trans h4, g5.trans h5, g6.trans h6, g7.trans h7, g8.trans h8, g9.trans h9⟩
theorem SB.fs {b c : Bk} (h : SB b c) (w : Nat) : fsB c w = fsB b w := fsB_cg h.2.1 h.2.2.1 h.2.2.2.1 w
theorem SB.fe {b c : Bk} (h : SB b c) : fsB c (bE c) = fsB b (bE b) := by rw [h.fs, h.1]
theorem SB_mk {b : Bk} {R : Nat → Int32} {pg dy : Nat} {bm cm : Int32} : SB b (bE b, bK b, bM b, bZ b, bT b, R, bDn b, bDs b, pg, dy, bm, bSk b, cm, bLw b) := ⟨rfl, rfl, rfl, rfl, rfl, rfl, rfl, rfl, rfl⟩
theorem dy_mk {b : Bk} {R : Nat → Int32} {pg dy : Nat} {bm cm : Int32} : bDy (bE b, bK b, bM b, bZ b, bT b, R, bDn b, bDs b, pg, dy, bm, bSk b, cm, bLw b) = dy := rfl
theorem dyB_S (x : Tx) (b : Bk) : SB b (dyB x b) := by
  unfold dyB
  by_cases c : fsB b (bE b) = 0
  · rw [if_pos c]; exact SB_mk
  · rw [if_neg c]; exact SB_mk
theorem dyB_D (x : Tx) (b : Bk) : bDy (dyB x b) = bDy b + 1 := by
  unfold dyB
  by_cases c : fsB b (bE b) = 0
  · rw [if_pos c]; exact dy_mk
  · rw [if_neg c]; exact dy_mk
theorem dyB_p0 (x : Tx) (b : Bk) (h : fsB b (bE b) = 0) : bPg (dyB x b) = bPg b := by
  unfold dyB
  rw [if_pos h]
  rfl
theorem pgB_S (b : Bk) (p : Nat) : SB b (pgB b p) := SB_mk
theorem pgB_W {b : Bk} {p : Nat} (hW : WX b) (hp : p < 1000) : WX (pgB b p) := WX_mk hW (fun w hw => (hW.1.2.1 w hw).2.2.2.2.2) hp hW.1.2.2.2.2.1 hW.1.2.2.2.2.2 hW.2.2.1
theorem bgB_lt {b : Bk} (hW : WX b) : bgB b < 1000 := by
  unfold bgB
  have h12 := hW.1.1
  have hP := (fsB_le hW.1 (bE b) (Nat.le_refl _)).2
  by_cases c : fsB b (bE b) = 0
  · rw [if_pos c]; exact hW.1.2.2.2.1
  · rw [if_neg c]
    have := begB_lt hW.1 c
    omega
theorem tnB_S (T : Bool) (s : Bk × Nat) : SB s.1 (tnB T s) := by
  cases T
  · exact SB.rf _
  · exact pgB_S _ _
theorem tnB_D (T : Bool) (s : Bk × Nat) : bDy (tnB T s) = bDy s.1 := by
  cases T
  · rfl
  · rfl
theorem tnB_W {T : Bool} {s : Bk × Nat} (hW : WX s.1) (hp : s.2 < 1000) : WX (tnB T s) := by
  cases T
  · exact hW
  · exact pgB_W hW hp
theorem dI_S (x : Tx) (T : Nat → Bool) (b : Bk) : ∀ i, SB b (dI x T b i).1
  | 0 => SB.rf _
  | i + 1 => ((dI_S x T b i).tr (tnB_S _ _)).tr (dyB_S _ _)
theorem dI_D (x : Tx) (T : Nat → Bool) (b : Bk) : ∀ i, bDy (dI x T b i).1 = bDy b + i
  | 0 => rfl
  | i + 1 => by
    show bDy (dyB x (tnB (T i) (dI x T b i))) = _
    rw [dyB_D, tnB_D, dI_D x T b i]
    rfl
theorem dI_W {x : Tx} {T : Nat → Bool} {b : Bk} (hW : WX b) : ∀ i, bDy b + i < 2000 → WX (dI x T b i).1 ∧ (dI x T b i).2 < 1000
  | 0, _ => ⟨hW, hW.1.2.2.2.1⟩
  | i + 1, hd => by
    obtain ⟨h1, h2⟩ := dI_W (x := x) (T := T) hW i (by omega)
    have h3 := tnB_W (T := T i) h1 h2
    exact ⟨dyB_W h3 (by rw [tnB_D, dI_D]; omega), bgB_lt h3⟩
/-- without a page the page stays -/
theorem dI_p0 {x : Tx} {T : Nat → Bool} {b : Bk} (h : fsB b (bE b) = 0) : ∀ i, (dI x T b i).2 = bPg (dI x T b i).1
  | 0 => rfl
  | i + 1 => by
    have hs : fsB (tnB (T i) (dI x T b i)) (bE (tnB (T i) (dI x T b i))) = 0 := by rw [((dI_S x T b i).tr (tnB_S _ _)).fe]; exact h
    show bgB (tnB (T i) (dI x T b i)) = bPg (dyB x (tnB (T i) (dI x T b i)))
    rw [dyB_p0 x _ hs]
    unfold bgB
    rw [if_pos hs]
theorem dI_cg {x : Tx} {T U : Nat → Bool} {b : Bk} : ∀ n, (∀ i, i < n → T i = U i) → dI x T b n = dI x U b n
  | 0, _ => rfl
  | n + 1, h => by
    show d1 x (T n) (dI x T b n) = d1 x (U n) (dI x U b n)
    rw [h n (by omega), dI_cg n (fun i hi => h i (by omega))]
/-- what comes together over the days -/
def wS (x : Tx) (T : Nat → Bool) (b : Bk) : Nat → Int32
  | 0 => 0
  | i + 1 => wS x T b i + woF x (dI x T b (i + 1)).1 (hdB x (dI x T b (i + 1)).1) (bDn (dI x T b (i + 1)).1)
def cS (x : Tx) (T : Nat → Bool) (b : Bk) : Nat → Int32
  | 0 => 0
  | i + 1 => cS x T b i ||| hdB x (dI x T b (i + 1)).1
def hS (x : Tx) (T : Nat → Bool) (b : Bk) : Nat → Int32
  | 0 => 0
  | i + 1 => hS x T b i ||| heB x (dI x T b (i + 1)).1
def aS (x : Tx) (T : Nat → Bool) (b : Bk) : Nat → Int32
  | 0 => 0
  | i + 1 => aS x T b i ||| bCa (dI x T b (i + 1)).1
def fS (x : Tx) (T : Nat → Bool) (b : Bk) (wat : Int32) (sel : Bk → Int32) : Nat → Int32
  | 0 => -1
  | i + 1 => wtF (fS x T b wat sel i) wat (nI i) (sel (dI x T b (i + 1)).1)
def toldS (x : Tx) (T : Nat → Bool) (b : Bk) (n : Nat) (what : Int32) : Int32 := if what = 0 then wS x T b n else if what = 1 then cS x T b n else if what = 2 then hS x T b n else if what = 3 then aS x T b n else nI (bPg (dI x T b n).1)
theorem S_cg {x : Tx} {T U : Nat → Bool} {b : Bk} : ∀ n, (∀ i, i < n → T i = U i) → wS x T b n = wS x U b n ∧ cS x T b n = cS x U b n ∧ hS x T b n = hS x U b n ∧ aS x T b n = aS x U b n
  | 0, _ => ⟨rfl, rfl, rfl, rfl⟩
  | n + 1, h => by
    obtain ⟨h1, h2, h3, h4⟩ := S_cg (x := x) (b := b) n (fun i hi => h i (by omega))
    have h5 := dI_cg (x := x) (b := b) (n + 1) h
    unfold wS cS hS aS
    rw [h1, h2, h3, h4, h5]
    exact ⟨rfl, rfl, rfl, rfl⟩
theorem toldS_cg {x : Tx} {T U : Nat → Bool} {b : Bk} {n : Nat} (h : ∀ i, i < n → T i = U i) (what : Int32) : toldS x T b n what = toldS x U b n what := by
  obtain ⟨h1, h2, h3, h4⟩ := S_cg (x := x) (b := b) n h
  unfold toldS
  rw [h1, h2, h3, h4, dI_cg n h]
/-- LOTS -/
def lotI (seed : Int32) : Nat → Int64
  | 0 => seed.toInt64 + (1 : Int64)
  | i + 1 => (lotI seed i * (48271 : Int64)) - (lotI seed i * (48271 : Int64)) / (2147483647 : Int64) * (2147483647 : Int64)
def lotT (seed odds : Int32) (i : Nat) : Bool := decide (i ≠ 0 ∧ ¬ 0 ≤ lg_cmp (lotI seed (i + 1) - lotI seed (i + 1) / (100 : Int64) * (100 : Int64)) odds.toInt64)
def noT (_ : Nat) : Bool := false
def lotW : Nat → Int64 → Bool
  | 0, _ => true
  | n + 1, l => (decide (0 ≤ lg_cmp (((l * (48271 : Int64)) - (l * (48271 : Int64)) / (2147483647 : Int64) * (2147483647 : Int64)) - ((l * (48271 : Int64)) - (l * (48271 : Int64)) / (2147483647 : Int64) * (2147483647 : Int64)) / (100 : Int64) * (100 : Int64)) (0 : Int32).toInt64)) && lotW n ((l * (48271 : Int64)) - (l * (48271 : Int64)) / (2147483647 : Int64) * (2147483647 : Int64))
theorem lotW_60 : lotW 61 (lotI 0 0) = true := by decide +kernel
theorem lotW_at : ∀ (n k : Nat), lotW n (lotI 0 k) = true → ∀ i, i < n → 0 ≤ lg_cmp (lotI 0 (k + i + 1) - lotI 0 (k + i + 1) / (100 : Int64) * (100 : Int64)) (0 : Int32).toInt64
  | 0, _, _, _, hi => absurd hi (Nat.not_lt_zero _)
  | n + 1, k, h, i, hi => by
    have h2 : (decide (0 ≤ lg_cmp (lotI 0 (k + 1) - lotI 0 (k + 1) / (100 : Int64) * (100 : Int64)) (0 : Int32).toInt64) && lotW n (lotI 0 (k + 1))) = true := h
    rw [Bool.and_eq_true] at h2
    cases i with
    | zero => exact of_decide_eq_true h2.1
    | succ i =>
      have := lotW_at n (k + 1) h2.2 i (by omega)
      rw [show k + (i + 1) + 1 = k + 1 + i + 1 by omega]
      exact this
theorem lotT_0 : ∀ i, i < 61 → lotT 0 0 i = noT i := by
  intro i hi
  have := lotW_at 61 0 lotW_60 i hi
  rw [show 0 + i + 1 = i + 1 by omega] at this
  exact decide_eq_false (fun h => h.2 this)
