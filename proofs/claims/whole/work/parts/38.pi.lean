/-! a book taken from another -/
theorem gC_N {K : yK} {a b n : Nat} (ha : isAr K a n) (hb : isAr K b n) (hn : n < 2147483648) : gC K a 0 b 0 (nI n) = true := by
  refine decide_eq_true ⟨⟨ha.1, by rw [ha.2]⟩, ⟨hb.1, by rw [hb.2]⟩, by decide, by decide, nI_pos (by omega), ?_, ?_⟩
  · rw [ha.2, nC hn, show ((0 : Int32)).toNatClampNeg = 0 from rfl]; exact Nat.le_of_eq (Nat.zero_add n)
  · rw [hb.2, nC hn, show ((0 : Int32)).toNatClampNeg = 0 from rfl]; exact Nat.le_of_eq (Nat.zero_add n)
theorem cp_at (M : yM) (a b n : Nat) {j : Nat} (hj : j < n) (hn : n < 2147483648) : yCp M a 0 b 0 (nI n) b j = M a j := by
  unfold yCp va_cpy
  rw [if_pos rfl, nC hn, show ((0 : Int32)).toNatClampNeg = 0 from rfl, if_pos ⟨Nat.zero_le _, by omega⟩]
  congr 1
  omega
theorem cp_o (M : yM) (a b : Nat) (z : Int32) {q : Nat} (hq : q ≠ b) : yCp M a 0 b 0 z q = M q := by
  funext j
  unfold yCp
  rw [if_neg hq]
theorem p_takeFrom {K : yK} {M : yM} {t s : Nat} {b : Bk} (hK : KSh K) (ht : isB t) (hs : isB s) (hts : t ≠ s) (hW : WB b) (hB : BR M s b) (hS : BS M s b) : ∃ M', b_X0_takeFrom K M t s = some M' ∧ BR M' t b ∧ BS M' t b ∧ M' t 16 = M t 16 ∧ (∀ i, i < 8 ∨ 16 < i → M' t i = M t i) ∧ ∀ q, (q < t ∨ t + 8 < q) → M' q = M q := by
  have h12 := hW.1
  have h6 : bDn b ≤ 6 := hW.2.2.1
  have hd : t + 9 ≤ s ∨ s + 9 ≤ t := by rcases ht with rfl | rfl | rfl <;> rcases hs with rfl | rfl | rfl <;> omega
  obtain ⟨⟨b8, b9, b10, b11, b12, b13, b14, b15⟩, bv, bd⟩ := id hB
  unfold b_X0_takeFrom
  rw [if_pos (hK.bo hs), hK.br hs (f := 0) (by omega), Option.bind_some, if_pos (hK.bo ht), hK.br ht (f := 0) (by omega), Option.bind_some, show (12 : Int32) = nI 12 from rfl, show (13 : Int32) = nI 13 from rfl, show (6 : Int32) = nI 6 from rfl,
    if_pos (gC_N (hK.ba hs (f := 0) (by omega)) (hK.ba ht (f := 0) (by omega)) (by omega)), Option.bind_some,
    hK.br hs (f := 1) (by omega), Option.bind_some, hK.br ht (f := 1) (by omega), Option.bind_some, if_pos (gC_N (hK.ba hs (f := 1) (by omega)) (hK.ba ht (f := 1) (by omega)) (by omega)), Option.bind_some,
    hK.br hs (f := 2) (by omega), Option.bind_some, hK.br ht (f := 2) (by omega), Option.bind_some, if_pos (gC_N (hK.ba hs (f := 2) (by omega)) (hK.ba ht (f := 2) (by omega)) (by omega)), Option.bind_some,
    hK.br hs (f := 3) (by omega), Option.bind_some, hK.br ht (f := 3) (by omega), Option.bind_some, if_pos (gC_N (hK.ba hs (f := 3) (by omega)) (hK.ba ht (f := 3) (by omega)) (by omega)), Option.bind_some,
    hK.br hs (f := 4) (by omega), Option.bind_some, hK.br ht (f := 4) (by omega), Option.bind_some, if_pos (gC_N (hK.ba hs (f := 4) (by omega)) (hK.ba ht (f := 4) (by omega)) (by omega)), Option.bind_some,
    hK.br hs (f := 5) (by omega), Option.bind_some, hK.br ht (f := 5) (by omega), Option.bind_some, if_pos (gC_N (hK.b6 hs) (hK.b6 ht) (by omega)), Option.bind_some,
    hK.br hs (f := 6) (by omega), Option.bind_some, hK.br ht (f := 6) (by omega), Option.bind_some, if_pos (gC_N (hK.b7 hs) (hK.b7 ht) (by omega)), Option.bind_some,
    hK.br hs (f := 7) (by omega), Option.bind_some, hK.br ht (f := 7) (by omega), Option.bind_some, if_pos (gC_N (hK.b8 hs) (hK.b8 ht) (by omega)), Option.bind_some]
  obtain ⟨N, hN⟩ : ∃ z, z = yCp (yCp (yCp (yCp (yCp (yCp (yCp (yCp M (s + 1 + 0) 0 (t + 1 + 0) 0 (nI 12)) (s + 1 + 1) 0 (t + 1 + 1) 0 (nI 12)) (s + 1 + 2) 0 (t + 1 + 2) 0 (nI 12)) (s + 1 + 3) 0 (t + 1 + 3) 0 (nI 12)) (s + 1 + 4) 0 (t + 1 + 4) 0 (nI 12)) (s + 1 + 5) 0 (t + 1 + 5) 0 (nI 13)) (s + 1 + 6) 0 (t + 1 + 6) 0 (nI 12)) (s + 1 + 7) 0 (t + 1 + 7) 0 (nI 6) := ⟨_, rfl⟩
  rw [← hN]
  have no : ∀ q, (q < t + 1 ∨ t + 8 < q) → N q = M q := fun q hq => by
    rw [hN, cp_o _ _ _ _ (by omega), cp_o _ _ _ _ (by omega), cp_o _ _ _ _ (by omega), cp_o _ _ _ _ (by omega), cp_o _ _ _ _ (by omega), cp_o _ _ _ _ (by omega), cp_o _ _ _ _ (by omega), cp_o _ _ _ _ (by omega)]
  have n0 : ∀ j, j < 12 → N (t + 1) j = M (s + 1) j := fun j hj => by
    rw [hN, cp_o _ _ _ _ (by omega), cp_o _ _ _ _ (by omega), cp_o _ _ _ _ (by omega), cp_o _ _ _ _ (by omega), cp_o _ _ _ _ (by omega), cp_o _ _ _ _ (by omega), cp_o _ _ _ _ (by omega)]
    exact cp_at _ _ _ 12 hj (by omega)
  have n1 : ∀ j, j < 12 → N (t + 2) j = M (s + 2) j := fun j hj => by
    rw [hN, cp_o _ _ _ _ (by omega), cp_o _ _ _ _ (by omega), cp_o _ _ _ _ (by omega), cp_o _ _ _ _ (by omega), cp_o _ _ _ _ (by omega), cp_o _ _ _ _ (by omega)]
    refine (cp_at _ _ _ 12 hj (by omega)).trans ?_
    rw [cp_o _ _ _ _ (by omega)]
  have n2 : ∀ j, j < 12 → N (t + 3) j = M (s + 3) j := fun j hj => by
    rw [hN, cp_o _ _ _ _ (by omega), cp_o _ _ _ _ (by omega), cp_o _ _ _ _ (by omega), cp_o _ _ _ _ (by omega), cp_o _ _ _ _ (by omega)]
    refine (cp_at _ _ _ 12 hj (by omega)).trans ?_
    rw [cp_o _ _ _ _ (by omega), cp_o _ _ _ _ (by omega)]
  have n3 : ∀ j, j < 12 → N (t + 4) j = M (s + 4) j := fun j hj => by
    rw [hN, cp_o _ _ _ _ (by omega), cp_o _ _ _ _ (by omega), cp_o _ _ _ _ (by omega), cp_o _ _ _ _ (by omega)]
    refine (cp_at _ _ _ 12 hj (by omega)).trans ?_
    rw [cp_o _ _ _ _ (by omega), cp_o _ _ _ _ (by omega), cp_o _ _ _ _ (by omega)]
  have n4 : ∀ j, j < 12 → N (t + 5) j = M (s + 5) j := fun j hj => by
    rw [hN, cp_o _ _ _ _ (by omega), cp_o _ _ _ _ (by omega), cp_o _ _ _ _ (by omega)]
    refine (cp_at _ _ _ 12 hj (by omega)).trans ?_
    rw [cp_o _ _ _ _ (by omega), cp_o _ _ _ _ (by omega), cp_o _ _ _ _ (by omega), cp_o _ _ _ _ (by omega)]
  have n5 : ∀ j, j < 13 → N (t + 6) j = M (s + 6) j := fun j hj => by
    rw [hN, cp_o _ _ _ _ (by omega), cp_o _ _ _ _ (by omega)]
    refine (cp_at _ _ _ 13 hj (by omega)).trans ?_
    rw [cp_o _ _ _ _ (by omega), cp_o _ _ _ _ (by omega), cp_o _ _ _ _ (by omega), cp_o _ _ _ _ (by omega), cp_o _ _ _ _ (by omega)]
  have n6 : ∀ j, j < 12 → N (t + 7) j = M (s + 7) j := fun j hj => by
    rw [hN, cp_o _ _ _ _ (by omega)]
    refine (cp_at _ _ _ 12 hj (by omega)).trans ?_
    rw [cp_o _ _ _ _ (by omega), cp_o _ _ _ _ (by omega), cp_o _ _ _ _ (by omega), cp_o _ _ _ _ (by omega), cp_o _ _ _ _ (by omega), cp_o _ _ _ _ (by omega)]
  have n7 : ∀ j, j < 6 → N (t + 8) j = M (s + 8) j := fun j hj => by
    rw [hN]
    refine (cp_at _ _ _ 6 hj (by omega)).trans ?_
    rw [cp_o _ _ _ _ (by omega), cp_o _ _ _ _ (by omega), cp_o _ _ _ _ (by omega), cp_o _ _ _ _ (by omega), cp_o _ _ _ _ (by omega), cp_o _ _ _ _ (by omega), cp_o _ _ _ _ (by omega)]
  have hq : ∀ (M : yM) (i : Nat) (v : Int32) (j : Nat), yS M t i v s j = M s j := fun M i v j => yS_op M t i v (by omega) j
  rw [Option.bind_some, Option.bind_some, Option.bind_some, Option.bind_some, Option.bind_some, Option.bind_some, Option.bind_some, Option.bind_some]
  simp only [hq, no s (by omega), b8, b9, b10, b11, b12, b13, b14, b15]
  obtain ⟨P, hP⟩ : ∃ z, z = yS (yS (yS (yS (yS (yS (yS (yS N t 8 (nI (bE b))) t 9 (nI (bDn b))) t 10 (nI (bPg b))) t 11 (nI (bDy b))) t 12 (bBm b)) t 13 (bSk b)) t 14 (bCa b)) t 15 (nI (bLw b)) := ⟨_, rfl⟩
  rw [← hP]
  have po : ∀ q, q ≠ t → P q = N q := fun q z => funext fun i => by
    rw [hP, yS_op _ _ _ _ z, yS_op _ _ _ _ z, yS_op _ _ _ _ z, yS_op _ _ _ _ z, yS_op _ _ _ _ z, yS_op _ _ _ _ z, yS_op _ _ _ _ z, yS_op _ _ _ _ z]
  have pt : ∀ i, i < 8 ∨ 15 < i → P t i = M t i := fun i z => by
    rw [hP, yS_oi _ _ _ _ (by omega), yS_oi _ _ _ _ (by omega), yS_oi _ _ _ _ (by omega), yS_oi _ _ _ _ (by omega), yS_oi _ _ _ _ (by omega), yS_oi _ _ _ _ (by omega), yS_oi _ _ _ _ (by omega), yS_oi _ _ _ _ (by omega), no t (by omega)]
  refine ⟨P, rfl, ⟨⟨?_, ?_, ?_, ?_, ?_, ?_, ?_, ?_⟩, fun w hw => ?_, fun d hd => ?_⟩, ⟨fun w hw => ?_, fun w hw => ?_⟩, pt 16 (by omega), fun i hi => pt i (by omega), fun q hq => by rw [po q (by omega), no q (by omega)]⟩
  · simp [hP, yS]
  · simp [hP, yS]
  · simp [hP, yS]
  · simp [hP, yS]
  · simp [hP, yS]
  · simp [hP, yS]
  · simp [hP, yS]
  · simp [hP, yS]
  · rw [po (t + 1) (by omega), po (t + 2) (by omega), po (t + 3) (by omega), po (t + 4) (by omega), po (t + 5) (by omega), n0 w (by omega), n1 w (by omega), n2 w (by omega), n3 w (by omega), n4 w (by omega)]
    exact bv w hw
  · rw [po (t + 8) (by omega), n7 d (by omega)]
    exact bd d hd
  · rw [po (t + 6) (by omega), n5 w (by omega)]
    exact hS.1 w hw
  · rw [po (t + 7) (by omega), n6 w (by omega)]
    exact hS.2 w hw
