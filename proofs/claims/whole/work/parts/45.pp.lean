/-! the model: the first day that is otherwise; a film -/
/-- a plain day by the model, in the row of days -/
theorem q_dayI {K : yK} {M : yM} {b : Bk} {x : Tx} {i : Nat} (hK : KSh K) (hW : WX b) (hd : bDy b + i + 1 < 2000) (hB : MR M (dI x noT b i).1) (hX : MT M (bLw b) x) (hx : TxW x) :
    ∃ M1, b_X8_dayOf K M 50 = some M1 ∧ MR M1 (dI x noT b (i + 1)).1 ∧ Fl M M1 := by
  have wi := dI_W (x := x) (T := noT) hW i (by omega)
  obtain ⟨M1, a1, a2, -, a4, a5⟩ := q_dayOf hK wi.1 (by rw [dI_D]; omega) hB (by rw [(dI_S x noT b i).2.2.2.2.2.2.2.2]; exact hX) hx
  exact ⟨M1, a1, a2, fun j z1 z2 z3 z4 z5 _ => a4 j z1 z2 z3 z4 z5, a5⟩
theorem q_holdI {K : yK} {M : yM} {b : Bk} {x : Tx} {i : Nat} (hK : KSh K) (hW : WX b) (hd : bDy b + i < 2000) (hB : MR M (dI x noT b i).1) (hX : MT M (bLw b) x) (hx : TxW x) :
    ∃ M1, b_X8_holding K M 50 = some (heB x (dI x noT b i).1, M1) ∧ MR M1 (dI x noT b i).1 ∧ Fl M M1 := by
  have wi := dI_W (x := x) (T := noT) hW i (by omega)
  obtain ⟨M1, a1, a2⟩ := q_holding hK wi.1 hB (by rw [(dI_S x noT b i).2.2.2.2.2.2.2.2]; exact hX) hx
  exact ⟨M1, a1, hB.cg (fun q h1 h2 => a2 q (by omega) (by omega)), fun j _ _ _ _ _ _ => by rw [a2 50 (by decide) (by decide)], fun q _ _ z3 z4 => a2 q z3 z4⟩
theorem KSh.m24 {K : yK} (h : KSh K) : K.2.2 50 24 = some 61 ∧ isAr K 61 4 := ⟨h.mr rfl, h.ar (by decide) rfl⟩
theorem KSh.m25 {K : yK} (h : KSh K) : K.2.2 50 25 = some 62 ∧ isAr K 62 4 := ⟨h.mr rfl, h.ar (by decide) rfl⟩
theorem KSh.m26 {K : yK} (h : KSh K) : K.2.2 50 26 = some 63 ∧ isAr K 63 160 := ⟨h.mr rfl, h.ar (by decide) rfl⟩
theorem c40 (s j : Nat) : (40 : Int32) * nI s + nI j = nI (40 * s + j) := by
  rw [show (40 : Int32) = nI 40 from rfl, mulN, addN]
theorem q_unlike_loop {K : yK} {x : Tx} {b : Bk} {m s : Nat} {c : Nat → Int32} (hK : KSh K) (hs : s < 4) (hW : WX b) (hx : TxW x) (hm : m ≤ 40) (hd : bDy b ≤ 999) : ∀ (f n i : Nat) (M : yM), i + f = m → f + 1 < n → M 62 s = nI m → (∀ j, j < m → M 63 (40 * s + j) = c j) → MR M (dI x noT b i).1 → MT M (bLw b) x →
    ∃ M' k, b_X8_unlike_8 K 50 (nI s) n M (-1) (nI i) = some (foF x b c f i, M') ∧ k ≤ m ∧ MR M' (dI x noT b k).1 ∧ Fl M M' := by
  obtain ⟨s1, s2⟩ := hK.m25
  obtain ⟨t1, t2⟩ := hK.m26
  intro f
  induction f with
  | zero =>
    intro n i M hi hn h2 hc hB hX
    obtain ⟨n, rfl⟩ : ∃ k, n = k + 1 := ⟨n - 1, by omega⟩
    refine ⟨M, i, ?_, by omega, hB, Fl.rf _⟩
    rw [b_X8_unlike_8, if_pos hK.mo, s1, Option.bind_some, if_pos (gA_N s2 (by omega) (by omega)), nC (by omega), h2, iteLe (by omega) (by omega), if_pos (by omega)]
    rfl
  | succ f ih =>
    intro n i M hi hn h2 hc hB hX
    obtain ⟨n, rfl⟩ : ∃ k, n = k + 1 := ⟨n - 1, by omega⟩
    obtain ⟨M1, a1, a2, a3⟩ := q_dayI hK hW (by omega) hB hX hx
    obtain ⟨M2, c1, c2, c3⟩ := q_holdI hK hW (by omega) a2 (a3.mt hX) hx
    have f2 := a3.tr c3
    rw [b_X8_unlike_8, if_pos hK.mo, s1, Option.bind_some, if_pos (gA_N s2 (by omega) (by omega)), nC (by omega), h2, iteLe (by omega) (by omega), if_neg (by omega), if_pos rfl, a1, Option.bind_some, c1, Option.bind_some, t1, Option.bind_some, c40, if_pos (gA_N t2 (by omega) (by omega)), nC (by omega)]
    dsimp only
    have eM : M2 63 (40 * s + i) = c i := by rw [f2.2 63 (by decide) (by decide) (by decide) (by decide)]; exact hc i (by omega)
    rw [foF]
    by_cases z : heB x (dI x noT b (i + 1)).1 = c i
    · rw [if_pos (eM.symm ▸ z), if_pos z, Option.bind_some, incN, Option.bind_some]
      obtain ⟨M', k, r1, r2, r3, r4⟩ := ih n (i + 1) M2 (by omega) (by omega) (by rw [f2.2 62 (by decide) (by decide) (by decide) (by decide)]; exact h2) (fun j hj => by rw [f2.2 63 (by decide) (by decide) (by decide) (by decide)]; exact hc j hj) c2 (f2.mt hX)
      exact ⟨M', k, r1, r2, r3, f2.tr r4⟩
    · rw [if_neg (eM.symm ▸ z), if_neg z, Option.bind_some, incN, Option.bind_some]
      obtain ⟨n, rfl⟩ : ∃ k, n = k + 1 := ⟨n - 1, by omega⟩
      refine ⟨M2, i + 1, ?_, by omega, c2, f2⟩
      have h1 : ¬ nI i = -1 := by rw [i_eq, nJ (by omega), i_m1]; omega
      rw [b_X8_unlike_8, if_pos hK.mo, s1, Option.bind_some, if_pos (gA_N s2 (by omega) (by omega)), nC (by omega), if_neg h1]
      by_cases y : M2 62 s ≤ nI (i + 1)
      · rw [if_pos y]
      · rw [if_neg y]
theorem q_unlike {K : yK} {M : yM} {x : Tx} {b : Bk} {m s : Nat} {c : Nat → Int32} (hK : KSh K) (hs : s < 4) (hW : WX b) (hx : TxW x) (hm : m ≤ 40) (hd : bDy b ≤ 999) (h2 : M 62 s = nI m) (hc : ∀ j, j < m → M 63 (40 * s + j) = c j) (hB : MR M b) (hX : MT M (bLw b) x) : ∃ M', b_X8_unlike K M 50 (nI s) = some (foF x b c m 0, M') ∧ MR M' b ∧ Fm M M' := by
  have h12 := hW.1.1
  obtain ⟨M1, a1, a2, a3, -, a5, a6⟩ := q_kept hK h12 hB
  obtain ⟨M2, k, c1, -, c2, c3⟩ := q_unlike_loop (c := c) hK hs hW hx hm hd m 1000 0 M1 (by omega) (by omega) (by rw [a6 62 (by decide) (by decide) (by decide)]; exact h2) (fun j hj => by rw [a6 63 (by decide) (by decide) (by decide)]; exact hc j hj) a2 (hX.cg (a6 57 (by decide) (by decide) (by decide)) (a6 56 (by decide) (by decide) (by decide)))
  obtain ⟨M', d1, d2, d3, d4, d5⟩ := q_laid hK h12 c2 (dI_S x noT b k) (a3.cg (c3.2 69 (by decide) (by decide) (by decide) (by decide)) (c3.2 70 (by decide) (by decide) (by decide) (by decide)))
  obtain ⟨⟨e0, e4, e6, e7, e8, e9, e10, e16⟩, -, -⟩ := id d2
  obtain ⟨⟨f0, f4, f6, f7, f8, f9, f10, f16⟩, -, -⟩ := id hB
  refine ⟨M', ?_, d2, fun i z1 z2 => ?_, fun q z1 z2 z3 z4 z5 z6 => ?_⟩
  · unfold b_X8_unlike
    rw [if_pos hK.mo, a1, Option.bind_some, show b_X8_unlike_8 K 50 (nI s) 1000 M1 (-1) 0 = some (foF x b c m 0, M2) from c1, Option.bind_some]
    dsimp only
    rw [d1, Option.bind_some]
  · by_cases z6 : i = 6
    · rw [z6, e6, f6]
    · by_cases z7 : i = 7
      · rw [z7, e7, f7]
      · by_cases z8 : i = 8
        · rw [z8, e8, f8]
        · by_cases z10 : i = 10
          · rw [z10, e10, f10]
          · rw [d4 i z6 z7 z8 z10 (by omega), c3.1 i z6 z7 z8 z10 z1 (by omega), a5 i (by omega)]
  · rw [d5 q z1 z2, c3.2 q z1 z2 z3 z4, a6 q z1 z5 z6]
/-- one cell more -/
theorem MR.o {M : yM} {b : Bk} {q i : Nat} {v : Int32} (h : MR M b) (hq : q < 50 ∨ 54 < q) : MR (yS M q i v) b := h.cg (fun p h1 h2 => funext fun j => yS_op _ _ _ _ (by omega) j)
theorem MT.o {M : yM} {k : Nat} {x : Tx} {q i : Nat} {v : Int32} (h : MT M k x) (h1 : q ≠ 56) (h2 : q ≠ 57) : MT (yS M q i v) k x := h.cg (funext fun j => yS_op _ _ _ _ (by omega) j) (funext fun j => yS_op _ _ _ _ (by omega) j)
def fiC (x : Tx) (b : Bk) (m k : Nat) : Int32 := if k < m then heB x (dI x noT b (k + 1)).1 else 0
theorem q_film_loop {K : yK} {x : Tx} {b : Bk} {m s : Nat} (hK : KSh K) (hs : s < 4) (hW : WX b) (hx : TxW x) (hm : m ≤ 40) (hd : bDy b ≤ 999) : ∀ (f n i : Nat) (M : yM), i + f = 40 → f < n → MR M (dI x noT b i).1 → MT M (bLw b) x →
    ∃ M', b_X8_film_42 K 50 (nI s) (nI m) n M (nI i) = some M' ∧ MR M' (dI x noT b 40).1 ∧ (∀ k, i ≤ k → k < 40 → M' 63 (40 * s + k) = fiC x b m k) ∧ (∀ j, (∀ k, i ≤ k → k < 40 → j ≠ 40 * s + k) → M' 63 j = M 63 j) ∧ (∀ i, i ≠ 6 → i ≠ 7 → i ≠ 8 → i ≠ 10 → i ≠ 39 → (i < 42 ∨ i = 46 ∨ 48 < i) → M' 50 i = M 50 i) ∧ ∀ q, q ≠ 50 → q ≠ 53 → q ≠ 63 → q ≠ 67 → q ≠ 68 → M' q = M q := by
  obtain ⟨t1, t2⟩ := hK.m26
  intro f
  induction f with
  | zero =>
    intro n i M hi hn hB hX
    obtain ⟨n, rfl⟩ : ∃ k, n = k + 1 := ⟨n - 1, by omega⟩
    obtain rfl : i = 40 := by omega
    refine ⟨M, ?_, hB, fun k h1 h2 => by omega, fun _ _ => rfl, fun _ _ _ _ _ _ _ => rfl, fun _ _ _ _ _ _ => rfl⟩
    rw [b_X8_film_42, show (40 : Int32) = nI 40 from rfl, iteLe (by omega) (by omega), if_pos (by omega)]
  | succ f ih =>
    intro n i M hi hn hB hX
    obtain ⟨n, rfl⟩ : ∃ k, n = k + 1 := ⟨n - 1, by omega⟩
    obtain ⟨M1, a1, a2, a3⟩ := q_dayI hK hW (by omega) hB hX hx
    have ej : ∃ M2, (if nI m ≤ nI i then (some ((0 : Int32), M1)) else (Option.bind (b_X8_holding K M1 50) fun r7 => (some (r7.1, r7.2)))) = some (fiC x b m i, M2) ∧ MR M2 (dI x noT b (i + 1)).1 ∧ Fl M1 M2 := by
      unfold fiC
      rw [iteLe (by omega) (by omega)]
      by_cases z : m ≤ i
      · rw [if_pos z, if_neg (by omega)]
        exact ⟨M1, rfl, a2, Fl.rf _⟩
      · rw [if_neg z, if_pos (by omega)]
        obtain ⟨M2, c1, c2, c3⟩ := q_holdI hK hW (by omega) a2 (a3.mt hX) hx
        refine ⟨M2, ?_, c2, c3⟩
        rw [c1, Option.bind_some]
    obtain ⟨M2, e1, e2, e3⟩ := ej
    have f2 := a3.tr e3
    obtain ⟨M', r1, r2, r3, r4, r5, r6⟩ := ih n (i + 1) (yS M2 63 (40 * s + i) (fiC x b m i)) (by omega) (by omega) (e2.o (.inr (by decide))) ((f2.mt hX).o (by decide) (by decide))
    refine ⟨M', ?_, r2, fun k h1 h2 => ?_, fun j hj => ?_, fun j z1 z2 z3 z4 z5 z6 => ?_, fun q z1 z2 z3 z4 z5 => ?_⟩
    · rw [b_X8_film_42, if_neg (show ¬ (40 : Int32) ≤ nI i by rw [show (40 : Int32) = nI 40 from rfl, leN (by omega) (by omega)]; omega), if_pos hK.mo, a1, Option.bind_some, t1, Option.bind_some, e1, Option.bind_some]
      dsimp only
      rw [c40, if_pos (gA_N t2 (by omega) (by omega)), nC (by omega), Option.bind_some, incN, Option.bind_some]
      exact r1
    · rcases Nat.lt_or_ge i k with q | q
      · exact r3 k (by omega) h2
      · obtain rfl : k = i := by omega
        rw [r4 _ (fun v h3 h4 => by omega), yS_at]
    · rw [r4 j (fun v h3 h4 => hj v (by omega) h4), yS_oi _ _ _ _ (hj i (by omega) (by omega)), f2.2 63 (by decide) (by decide) (by decide) (by decide)]
    · rw [r5 j z1 z2 z3 z4 z5 z6, yS_op _ _ _ _ (by decide)]
      exact f2.1 j z1 z2 z3 z4 z5 z6
    · rw [r6 q z1 z2 z3 z4 z5]
      refine (funext fun j => yS_op _ _ _ _ z3 j).trans ?_
      exact f2.2 q z1 z2 z4 z5
theorem q_filmed {K : yK} {M : yM} {x : Tx} {b : Bk} {m s : Nat} (hK : KSh K) (hs : s < 4) (hW : WX b) (hx : TxW x) (hm : m ≤ 40) (hd : bDy b ≤ 999) (hB : MR M b) (hX : MT M (bLw b) x) : ∃ M1 M2 M', b_X8_keeps K M 50 = some M1 ∧ b_X8_film_42 K 50 (nI s) (nI m) 1000 M1 0 = some M2 ∧ b_X8_laysBack K M2 50 = some M' ∧ MR M' b ∧ (∀ k, k < 40 → M' 63 (40 * s + k) = fiC x b m k) ∧ (∀ j, (∀ k, k < 40 → j ≠ 40 * s + k) → M' 63 j = M 63 j) ∧ (∀ i, i ≠ 39 → (i < 42 ∨ 48 < i) → M' 50 i = M 50 i) ∧ ∀ q, q ≠ 50 → q ≠ 53 → q ≠ 63 → q ≠ 67 → q ≠ 68 → q ≠ 69 → q ≠ 70 → M' q = M q := by
  have h12 := hW.1.1
  obtain ⟨M1, a1, a2, a3, -, a5, a6⟩ := q_kept hK h12 hB
  obtain ⟨M2, c1, c2, c3, c4, c5, c6⟩ := q_film_loop (s := s) (m := m) hK hs hW hx hm hd 40 1000 0 M1 (by omega) (by omega) a2 (hX.cg (a6 57 (by decide) (by decide) (by decide)) (a6 56 (by decide) (by decide) (by decide)))
  obtain ⟨M', d1, d2, d3, d4, d5⟩ := q_laid hK h12 c2 (dI_S x noT b 40) (a3.cg (c6 69 (by decide) (by decide) (by decide) (by decide) (by decide)) (c6 70 (by decide) (by decide) (by decide) (by decide) (by decide)))
  obtain ⟨⟨e0, e4, e6, e7, e8, e9, e10, e16⟩, -, -⟩ := id d2
  obtain ⟨⟨f0, f4, f6, f7, f8, f9, f10, f16⟩, -, -⟩ := id hB
  refine ⟨M1, M2, M', a1, c1, d1, d2, fun k hk => ?_, fun j hj => ?_, fun i z1 z2 => ?_, fun q z1 z2 z3 z4 z5 z6 z7 => ?_⟩
  · rw [d5 63 (by decide) (by decide)]; exact c3 k (by omega) hk
  · rw [d5 63 (by decide) (by decide), c4 j (fun k _ h => hj k h), a6 63 (by decide) (by decide) (by decide)]
  · by_cases z6 : i = 6
    · rw [z6, e6, f6]
    · by_cases z7 : i = 7
      · rw [z7, e7, f7]
      · by_cases z8 : i = 8
        · rw [z8, e8, f8]
        · by_cases z10 : i = 10
          · rw [z10, e10, f10]
          · rw [d4 i z6 z7 z8 z10 (by omega), c5 i z6 z7 z8 z10 z1 (by omega), a5 i (by omega)]
  · rw [d5 q z1 z2, c6 q z1 z2 z3 z4 z5, a6 q z1 z6 z7]
