theorem toI_neg {a : Nat} (h : a < 2147483648) : (-(nI a)).toInt = -(a : Int) := by
  rw [Int32.toInt_neg, nJ h, Int.bmod_def]
  split <;> omega
theorem neg_lt {a : Nat} (h : a < 2147483648) (h0 : 0 < a) : -(nI a) < 0 := by
  rw [i_lt, toI_neg h, i_0]; omega
theorem neg_le {a : Nat} (h : a < 2147483648) (h0 : 0 < a) : ¬ (0 : Int32) ≤ -(nI a) := by
  rw [i_le, toI_neg h, i_0]; omega
theorem subI {a b : Nat} (ha : a < 1000000000) (hb : b < 1000000000) : (nI a - nI b).toInt = (a : Int) - (b : Int) := by
  rw [Int32.toInt_sub, nJ (by omega), nJ (by omega), Int.bmod_def]
  split <;> omega
theorem nsubI {a b : Nat} (ha : a < 1000000000) (hb : b < 1000000000) : (-(nI a) - nI b).toInt = -(a : Int) - (b : Int) := by
  rw [Int32.toInt_sub, toI_neg (by omega), nJ (by omega), Int.bmod_def]
  split <;> omega
theorem xc_cs {c d : Nat} (h : dok c d) : (100000 ≤ c ∧ c ≤ 109999) ∨ (c < 6 ∧ tkc c = 262 + c) ∨ (6 ≤ c ∧ c < 100000 ∧ 0 < tkc c ∧ tkc c < 262) := by
  unfold tkc
  rcases h with h | h | h | h
  · exact .inl h
  · rw [if_pos h]; exact .inr (.inl ⟨h, rfl⟩)
  · refine .inr (.inr ⟨by omega, by omega, ?_⟩)
    rcases h.1 with rfl | rfl <;> decide
  · refine .inr (.inr ⟨by omega, by omega, ?_⟩)
    rcases (show c = 11 ∨ c = 12 ∨ c = 14 ∨ c = 15 ∨ c = 16 ∨ c = 17 ∨ c = 18 by omega) with rfl | rfl | rfl | rfl | rfl | rfl | rfl <;> decide
theorem p_value_loop {K : yK} {cp lp part : Nat} {x : Tx} {nm : Nat → Int32} (hK : KSh K) (hg : gO K lp 2 = true) (hr : K.2.2 lp 0 = some cp) (ha : isAr K cp (x.2 3)) (hc5 : cp ≠ 5) (hp : part < 3) (hx : TxW x) : ∀ (f n i : Nat) (M : yM) (s : Sk), (∀ j, j < x.2 3 → M cp j = xc (x.1 j)) → (∀ j, j < 6 → M 6 j = nm j) → SR M 5 s → i + f = x.2 (part + 1) → f < n → s.1 ≤ i → okR x.1 f i s.1 →
    ∃ M', b_X4_value_22 K 4 lp (nI (x.2 (part + 1))) n M (nI s.1) (nI i) = some (nI (evR nm x.1 f i s).1, M') ∧ SR M' 5 (evR nm x.1 f i s) ∧ ∀ q, q ≠ 5 → M' q = M q := by
  have hb := hx.mono (p := part + 1) (q := 3) (by omega) (by omega)
  have r0 : K.2.2 4 0 = some 5 := hK.rf (by decide) (by decide) rfl
  have r1 : K.2.2 4 1 = some 6 := hK.rf (by decide) (by decide) rfl
  have a5 : isAr K 5 160 := hK.ar (by decide) rfl
  have a6 : isAr K 6 6 := hK.ar (by decide) rfl
  intro f
  induction f with
  | zero =>
    intro n i M s hC hN hS hi hn hd hok
    obtain ⟨n, rfl⟩ : ∃ z, n = z + 1 := ⟨n - 1, by omega⟩
    refine ⟨M, ?_, hS, fun _ _ => rfl⟩
    rw [b_X4_value_22, iteLe (by omega) (by omega), if_pos (by omega)]
    rfl
  | succ f ih =>
    intro n i M s hC hN hS hi hn hd hok
    obtain ⟨n, rfl⟩ : ∃ z, n = z + 1 := ⟨n - 1, by omega⟩
    obtain ⟨d, g⟩ := s
    obtain ⟨ho, hr'⟩ := hok
    have hd : d ≤ i := hd
    have ec := hC i (by omega)
    rw [b_X4_value_22, iteLe (by omega) (by omega), if_neg (by omega), if_pos hg, p_codeAt hg hr ha (by omega) (by omega) ec, Option.bind_some, Option.bind_some]
    have next : ∀ (M1 : yM) (s1 : Sk), (∀ q, q ≠ 5 → M1 q = M q) → SR M1 5 s1 → s1 = ev1 nm (x.1 i) (d, g) → ∃ M', b_X4_value_22 K 4 lp (nI (x.2 (part + 1))) n M1 (nI s1.1) (nI (i + 1)) = some (nI (evR nm x.1 (f + 1) i (d, g)).1, M') ∧ SR M' 5 (evR nm x.1 (f + 1) i (d, g)) ∧ ∀ q, q ≠ 5 → M' q = M q := by
      intro M1 s1 hM hS1 hs1
      have e1 : s1.1 = dep (x.1 i) d := by rw [hs1, ev1_d]
      have := dep_le (x.1 i) d
      obtain ⟨M', h1, h2, h3⟩ := ih n (i + 1) M1 s1 (fun j hj => by rw [hM cp hc5]; exact hC j hj) (fun j hj => by rw [hM 6 (by decide)]; exact hN j hj) hS1 (by omega) (by omega) (by omega) (by rw [e1]; exact hr')
      rw [hs1] at h1 h2
      exact ⟨M', by rw [hs1]; exact h1, h2, fun q hq => by rw [h3 q hq, hM q hq]⟩
    generalize hc : x.1 i = c at ho hr' next ⊢
    have hfr : ∀ (j : Nat) (v : Int32) (q : Nat), q ≠ 5 → yS M 5 j v q = M q := fun j v q hq => funext fun z => yS_op _ _ _ _ hq z
    rcases xc_cs ho with h1 | ⟨h1, h2⟩ | ⟨h1, h2, h3, h4⟩
    · have ex : xc c = nI (c - 100000) := by unfold xc; rw [if_pos h1.1]
      rw [ex, show (262 : Int32) = nI 262 from rfl]
      rw [if_pos (show -(nI (c - 100000)) - nI 262 < 0 by rw [i_lt, nsubI (by omega) (by omega), i_0]; omega), Option.bind_some, if_pos (nI_pos' (by omega)), if_pos hK.ro, r0, Option.bind_some, if_pos (gI_N a5), len_N a5, iteLe (by omega) (by omega), if_neg (by omega), if_neg (by decide), Option.bind_some, if_pos (gA_N a5 (by omega) (by omega)), Option.bind_some, nC (by omega), Option.bind_some, Option.bind_some, incN, incN, Option.bind_some]
      refine next _ (d + 1, va_up g d (nI (c - 100000))) (hfr _ _) (SR_put hS (by omega) d (by omega) (by omega)) ?_
      unfold ev1
      rw [if_pos h1.1]
    · have ex : xc c = -(nI (262 + c)) := by unfold xc; rw [if_neg (by omega), h2]
      rw [ex, negneg, show (262 : Int32) = nI 262 from rfl, subN (by omega), show 262 + c - 262 = c by omega, if_neg (nI_pos (by omega)), if_pos hK.ro, r1, Option.bind_some, if_pos (gI_N a6), len_N a6, iteLe (by omega) (by omega), if_neg (by omega), Option.bind_some, if_neg (neg_le (by omega) (by omega)), if_pos (by rfl), if_pos hK.ro, r0, Option.bind_some, if_pos (gI_N a5), len_N a5, iteLe (by omega) (by omega), if_neg (by omega), if_pos (by rfl), Option.bind_some, if_pos (gA_N a6 h1 (by omega)), nC (by omega), hN c h1, Option.bind_some, if_pos (gA_N a5 (by omega) (by omega)), Option.bind_some, nC (by omega), Option.bind_some, Option.bind_some, incN, incN, Option.bind_some]
      refine next _ (d + 1, va_up g d (nm c)) (hfr _ _) (SR_put hS (by omega) d (by omega) (by omega)) ?_
      unfold ev1
      rw [if_neg (by omega), if_pos (by omega)]
    · have ex : xc c = -(nI (tkc c)) := by unfold xc; rw [if_neg (by omega)]
      have hop : ((c = 13 ∨ c = 19) ∧ 1 ≤ d) ∨ ((c = 11 ∨ c = 12 ∨ (14 ≤ c ∧ c ≤ 18)) ∧ 2 ≤ d) := by
        rcases ho with h | h | h | h
        · omega
        · omega
        · exact .inl h
        · exact .inr h
      obtain ⟨M1, q1, q2, q3⟩ := p_act (K := K) (M := M) (c := c) (d := d) (g := g) hK hS (by omega) hop nm
      rw [ex, negneg, show (262 : Int32) = nI 262 from rfl, if_pos (show nI (tkc c) - nI 262 < 0 by rw [i_lt, subI (by omega) (by omega), i_0]; omega), Option.bind_some, if_neg (neg_le (by omega) h3), if_neg (by decide), if_pos hK.ro, q1, Option.bind_some, Option.bind_some, incN, Option.bind_some]
      exact next M1 _ q3 q2 rfl
theorem p_value {K : yK} {M : yM} {cp lp part : Nat} {x : Tx} {nm : Nat → Int32} (hK : KSh K) (hg : gO K lp 2 = true) (hr : K.2.2 lp 0 = some cp) (ha : isAr K cp (x.2 3)) (hc5 : cp ≠ 5) (hp : part < 3) (hx : TxW x) (h1 : M lp 1 = nI (x.2 1)) (h2 : M lp 2 = nI (x.2 2)) (hC : ∀ j, j < x.2 3 → M cp j = xc (x.1 j)) (hN : ∀ j, j < 6 → M 6 j = nm j) : ∃ M', b_X4_value K M 4 lp (nI part) = some (sayV x nm part, M') ∧ ∀ q, q ≠ 5 → M' q = M q := by
  have hb := hx.mono (p := part) (q := 3) (by omega) (by omega)
  have hb2 := hx.mono (p := part) (q := part + 1) (by omega) (by omega)
  have a5 : isAr K 5 160 := hK.ar (by decide) rfl
  obtain ⟨M', e1, e2, e3⟩ := p_value_loop (K := K) hK hg hr ha hc5 hp hx (x.2 (part + 1) - x.2 part) 1000 (x.2 part) M (0, fun _ => 0) hC hN (fun i hi => absurd hi (Nat.not_lt_zero _)) (by omega) (by omega) (Nat.zero_le _) (hx.2.2.2.2.2 part hp)
  have hd := evR_d1 (nm := nm) (x.2 (part + 1) - x.2 part) (x.2 part) (0, fun _ => 0) (hx.2.2.2.2.2 part hp)
  have hz := e2 0 (by rw [hd]; decide)
  refine ⟨M', ?_, e3⟩
  unfold b_X4_value
  rw [if_pos hg, p_endOf hp hg hr ha h1 h2, Option.bind_some, p_startOf hp hg hx.1 h1 h2, Option.bind_some, show (0 : Int32) = nI 0 from rfl]
  rw [show b_X4_value_22 K 4 lp (nI (x.2 (part + 1))) 1000 M (nI 0) (nI (x.2 part)) = b_X4_value_22 K 4 lp (nI (x.2 (part + 1))) 1000 M (nI ((0, fun _ => (0 : Int32)) : Sk).1) (nI (x.2 part)) from rfl, e1, Option.bind_some]
  dsimp only
  rw [hd, iteLe (by omega) (by omega), if_neg (by omega), if_pos hK.ro, hK.rf (p := 4) (f := 0) (by decide) (by decide) rfl, Option.bind_some, if_pos (gA_N a5 (by omega) (by omega)), nC (by omega), hz]
  rfl
