/-! the class's texts -/
def tkc (c : Nat) : Nat := if c < 6 then 262 + c else if c = 11 then 259 else if c = 12 then 260 else if c = 13 then 261 else if c = 14 then 60 else if c = 15 then 61 else if c = 16 then 43 else if c = 17 then 45 else if c = 18 then 42 else 2
def xc (c : Nat) : Int32 := if 100000 ≤ c then nI (c - 100000) else -(nI (tkc c))
def xT (K : yK) (M : yM) (k : Nat) (x : Tx) : Prop := ∃ lp cp, K.2.2 1 k = some lp ∧ gO K lp 2 = true ∧ K.2.2 lp 0 = some cp ∧ isAr K cp (x.2 3) ∧ (lp = 3 ∨ 71 ≤ lp) ∧ (cp = 2 ∨ 71 ≤ cp) ∧ M lp 1 = nI (x.2 1) ∧ M lp 2 = nI (x.2 2) ∧ ∀ i, i < x.2 3 → M cp i = xc (x.1 i)
theorem xT.cg {K : yK} {M M' : yM} {k : Nat} {x : Tx} (h : xT K M k x) (h1 : ∀ q, (q = 2 ∨ q = 3 ∨ 71 ≤ q) → M' q = M q) : xT K M' k x := by
  obtain ⟨lp, cp, a1, a2, a3, a4, a5, a6, a7, a8, a9⟩ := h
  refine ⟨lp, cp, a1, a2, a3, a4, a5, a6, ?_, ?_, ?_⟩
  · rw [h1 lp (by omega)]; exact a7
  · rw [h1 lp (by omega)]; exact a8
  · rw [h1 cp (by omega)]; exact a9
theorem p_startOf {K : yK} {M : yM} {lp p : Nat} {x : Tx} (hp : p < 3) (hg : gO K lp 2 = true) (h0 : x.2 0 = 0) (h1 : M lp 1 = nI (x.2 1)) (h2 : M lp 2 = nI (x.2 2)) : b_X3_startOf K M lp (nI p) = some (nI (x.2 p)) := by
  unfold b_X3_startOf
  rcases (show p = 0 ∨ p = 1 ∨ p = 2 by omega) with rfl | rfl | rfl
  · rw [if_pos (by rfl), h0]; rfl
  · rw [if_neg (by decide), if_pos (by rfl), if_pos hg, h1]
  · rw [if_neg (by decide), if_neg (by decide), if_pos hg, h2]
theorem p_endOf {K : yK} {M : yM} {lp cp p : Nat} {x : Tx} (hp : p < 3) (hg : gO K lp 2 = true) (hr : K.2.2 lp 0 = some cp) (ha : isAr K cp (x.2 3)) (h1 : M lp 1 = nI (x.2 1)) (h2 : M lp 2 = nI (x.2 2)) : b_X3_endOf K M lp (nI p) = some (nI (x.2 (p + 1))) := by
  unfold b_X3_endOf
  rcases (show p = 0 ∨ p = 1 ∨ p = 2 by omega) with rfl | rfl | rfl
  · rw [if_pos (by rfl), if_pos hg, h1]
  · rw [if_neg (by decide), if_pos (by rfl), if_pos hg, h2]
  · rw [if_neg (by decide), if_neg (by decide), if_pos hg, hr, Option.bind_some, if_pos (gI_N ha), len_N ha]
theorem p_codeAt {K : yK} {M : yM} {lp cp i : Nat} {x : Tx} (hg : gO K lp 2 = true) (hr : K.2.2 lp 0 = some cp) (ha : isAr K cp (x.2 3)) (hn : x.2 3 ≤ 1000) (hi : i < x.2 3) (hc : M cp i = xc (x.1 i)) : b_X3_codeAt K M lp (nI i) = some (xc (x.1 i)) := by
  unfold b_X3_codeAt
  rw [if_neg (nI_pos (by omega)), if_pos hg, hr, Option.bind_some, if_pos (gI_N ha), len_N ha, iteLe (by omega) (by omega), if_neg (by omega), if_pos (gA_N ha hi (by omega)), nC (by omega), hc]
theorem negneg (a : Nat) : -(-(nI a)) = nI a := Int32.neg_neg
theorem KSh.ro {K : yK} (h : KSh K) : gO K 4 3 = true := h.ob (by decide) rfl
theorem p_act {K : yK} {M : yM} {c d : Nat} {g : Nat → Int32} (hK : KSh K) (hS : SR M 5 (d, g)) (hd : d ≤ 160) (hc : ((c = 13 ∨ c = 19) ∧ 1 ≤ d) ∨ ((c = 11 ∨ c = 12 ∨ (14 ≤ c ∧ c ≤ 18)) ∧ 2 ≤ d)) (nm : Nat → Int32) : ∃ M', b_X4_act K M 4 (nI (tkc c)) (nI d) = some (nI (ev1 nm c (d, g)).1, M') ∧ SR M' 5 (ev1 nm c (d, g)) ∧ ∀ q, q ≠ 5 → M' q = M q := by
  have r0 : K.2.2 4 0 = some 5 := hK.rf (by decide) (by decide) rfl
  have a5 : isAr K 5 160 := hK.ar (by decide) rfl
  have hfr : ∀ (j : Nat) (v : Int32) (q : Nat), q ≠ 5 → yS M 5 j v q = M q := fun j v q hq => funext fun z => yS_op _ _ _ _ hq z
  unfold b_X4_act
  rcases hc with ⟨h1, h2⟩ | ⟨h1, h2⟩
  · have e1 : nI d - (1 : Int32) = nI (d - 1) := subN (a := d) (b := 1) (by omega)
    have hM1 : M 5 (d - 1) = g (d - 1) := hS (d - 1) (by show d - 1 < d; omega)
    have e2 : nI (d - 1) + (1 : Int32) = nI d := by rw [incN, show d - 1 + 1 = d by omega]
    have ej : (if nI (tkc c) = (2 : Int32) then some (1 : Int32) else if nI (tkc c) = (261 : Int32) then some (1 : Int32) else some (2 : Int32)) = some (nI 1) := by
      rcases h1 with rfl | rfl <;> rfl
    rw [ej, Option.bind_some, iteLt (by omega) (by omega), if_neg (by omega), if_pos hK.ro, r0, Option.bind_some, if_pos (gI_N a5), len_N a5, iteLe (by omega) (by omega), if_pos hd, show nI d - nI 1 = nI (d - 1) from e1, if_pos (gA_N a5 (by omega) (by omega)), Option.bind_some, e1, if_pos (gA_N a5 (by omega) (by omega)), Option.bind_some, nC (by omega), hM1]
    rcases h1 with rfl | rfl
    · refine ⟨yS M 5 (d - 1) (if g (d - 1) = 0 then 1 else 0), ?_, ?_, hfr _ _⟩
      · rw [if_neg (by decide), if_neg (by decide), if_neg (by decide), if_neg (by decide), if_neg (by decide), if_neg (by decide), if_neg (by decide), if_pos (by rfl)]
        by_cases z : g (d - 1) = 0
        · rw [if_pos z, if_pos z, Option.bind_some, Option.bind_some, Option.bind_some, e2]; rfl
        · rw [if_neg z, if_neg z, Option.bind_some, Option.bind_some, Option.bind_some, e2]; rfl
      · exact SR_put hS (by omega) (d - 1) (by omega) (by omega)
    · refine ⟨yS M 5 (d - 1) (-(g (d - 1))), ?_, SR_put hS (by omega) (d - 1) (by omega) (by omega), hfr _ _⟩
      rw [if_pos (by rfl), Option.bind_some, Option.bind_some, Option.bind_some, e2]; rfl
  · have e1 : nI d - (1 : Int32) = nI (d - 1) := subN (a := d) (b := 1) (by omega)
    have e3 : nI d - nI 2 = nI (d - 2) := subN (by omega)
    have hM1 : M 5 (d - 1) = g (d - 1) := hS (d - 1) (by show d - 1 < d; omega)
    have hM2 : M 5 (d - 2) = g (d - 2) := hS (d - 2) (by show d - 2 < d; omega)
    have e2 : nI (d - 2) + (1 : Int32) = nI (d - 1) := by rw [incN, show d - 2 + 1 = d - 1 by omega]
    have ej : (if nI (tkc c) = (2 : Int32) then some (1 : Int32) else if nI (tkc c) = (261 : Int32) then some (1 : Int32) else some (2 : Int32)) = some (nI 2) := by
      rcases (show c = 11 ∨ c = 12 ∨ c = 14 ∨ c = 15 ∨ c = 16 ∨ c = 17 ∨ c = 18 by omega) with rfl | rfl | rfl | rfl | rfl | rfl | rfl <;> rfl
    refine ⟨yS M 5 (d - 2) (opF c (g (d - 2)) (g (d - 1))), ?_, ?_, hfr _ _⟩
    · rw [ej, Option.bind_some, iteLt (by omega) (by omega), if_neg (by omega), if_pos hK.ro, r0, Option.bind_some, if_pos (gI_N a5), len_N a5, iteLe (by omega) (by omega), if_pos hd, e3, if_pos (gA_N a5 (by omega) (by omega)), Option.bind_some, e1, if_pos (gA_N a5 (by omega) (by omega)), Option.bind_some, nC (by omega), nC (by omega), hM1, hM2]
      have eo : (ev1 nm c (d, g)).1 = d - 1 := by
        rw [ev1_d]
        unfold dep
        rw [if_neg (by omega), if_neg (by omega), if_neg (by omega), if_neg (by omega)]
      rw [eo]
      generalize g (d - 2) = u
      generalize g (d - 1) = w
      rcases (show c = 11 ∨ c = 12 ∨ c = 14 ∨ c = 15 ∨ c = 16 ∨ c = 17 ∨ c = 18 by omega) with rfl | rfl | rfl | rfl | rfl | rfl | rfl
      · rw [if_neg (by decide), if_neg (by decide), if_neg (by decide), if_neg (by decide), if_neg (by decide), if_neg (by decide), if_neg (by decide), if_neg (by decide)]
        by_cases z : u = 0 <;> by_cases z2 : w = 0 <;> simp [z, z2, opF, e2, bI]
      · rw [if_neg (by decide), if_neg (by decide), if_neg (by decide), if_neg (by decide), if_neg (by decide), if_neg (by decide), if_pos (by rfl)]
        by_cases z : u = 0 <;> by_cases z2 : w = 0 <;> simp [z, z2, opF, e2, bI]
      · rw [if_neg (by decide), if_neg (by decide), if_neg (by decide), if_neg (by decide), if_pos (by rfl)]
        by_cases z : w ≤ u <;> simp [z, opF, e2, bI]
      · rw [if_neg (by decide), if_neg (by decide), if_neg (by decide), if_neg (by decide), if_neg (by decide), if_pos (by rfl)]
        by_cases z : u = w <;> simp [z, opF, e2, bI]
      · rw [if_neg (by decide), if_neg (by decide), if_pos (by rfl)]
        simp [opF, e2]
      · rw [if_neg (by decide), if_neg (by decide), if_neg (by decide), if_pos (by rfl)]
        simp [opF, e2]
      · rw [if_neg (by decide), if_pos (by rfl)]
        simp [opF, e2]
    · have eo : ev1 nm c (d, g) = (d - 1, va_up g (d - 2) (opF c (g (d - 2)) (g (d - 1)))) := by
        unfold ev1
        rw [if_neg (by omega), if_neg (by omega), if_neg (by omega), if_neg (by omega)]
      rw [eo]
      exact SR_put hS (by omega) (d - 2) (by omega) (by omega)
