/-! feed -/
def fdV (a b c d e : Int32) (k : Nat) : Int32 := if k = 0 then a else if k = 1 then b else if k = 2 then c else if k = 3 then d else e
/-- the tape with k bytes more -/
def tpF (tp : Nat → Int32) (ts : Nat) (v : Nat → Int32) (i : Nat) : Int32 := if i < ts then tp i else v (i - ts)
def AT (tp : Nat → Int32) (ts : Nat) (v : Nat → Int32) (M0 : yM) (k : Nat) (M : yM) : Prop := M 0 6 = nI (ts + k) ∧ (∀ i, i < ts + k → M 49 i = tpF tp ts v i) ∧ (∀ i, i ≠ 6 → M 0 i = M0 0 i) ∧ ∀ q, q ≠ 0 → q ≠ 49 → M q = M0 q
theorem KSh.a49 {K : yK} (h : KSh K) : isAr K 49 160 := h.ar (by decide) rfl
theorem p_append {K : yK} {M M0 : yM} {tp v : Nat → Int32} {ts k n : Nat} (hK : KSh K) (hn : ts + n ≤ 160) (hk : k ≤ n) (hk2 : k ≤ 5) (j : Nat) (hj : k = if j < n then j else n) (hA : AT tp ts v M0 k M) : ∃ M', b_X7_appendByte K M 0 (v j) (decide (j < n)) = some M' ∧ AT tp ts v M0 (if j + 1 < n then j + 1 else n) M' := by
  obtain ⟨a1, a2, a3, a4⟩ := hA
  unfold b_X7_appendByte
  by_cases c : j < n
  · rw [if_pos c] at hj
    subst hj
    rw [ifd c, if_pos hK.o0, a1, if_neg (nI_pos (by omega)), hK.r05, Option.bind_some, if_pos (gI_N hK.a49), len_N hK.a49, iteLe (by omega) (by omega), if_neg (by omega), if_pos (gA_N hK.a49 (by omega) (by omega)), nC (by omega), Option.bind_some, yS_op _ _ _ _ (by decide), a1, incN, Option.bind_some]
    refine ⟨_, rfl, ?_, fun i hi => ?_, fun i hi => ?_, fun q z1 z2 => ?_⟩
    · rw [yS_at]
      by_cases e : k + 1 < n
      · rw [if_pos e]; rfl
      · rw [if_neg e]; congr 1; omega
    · have hi' : i < ts + (k + 1) := by
        by_cases e : k + 1 < n
        · rw [if_pos e] at hi; exact hi
        · rw [if_neg e] at hi; omega
      rw [yS_op _ _ _ _ (by decide)]
      by_cases e : i = ts + k
      · subst e
        rw [yS_at]
        unfold tpF
        rw [if_neg (by omega), show ts + k - ts = k by omega]
      · rw [yS_oi _ _ _ _ e]; exact a2 i (by omega)
    · rw [yS_oi _ _ _ _ hi, yS_op _ _ _ _ (by decide)]; exact a3 i hi
    · rw [yS_q _ _ _ z1, yS_q _ _ _ z2]; exact a4 q z1 z2
  · rw [if_neg c] at hj
    subst hj
    rw [ifn c]
    refine ⟨M, rfl, ?_⟩
    rw [if_neg (by omega)]
    exact ⟨a1, a2, a3, a4⟩
theorem q_feed_loop {K : yK} {tp : Nat → Int32} {ts n : Nat} {a b c d e : Int32} (hK : KSh K) (hn : ts + n ≤ 160) (h5 : n ≤ 5) : ∀ (f y k : Nat) (M : yM), k + f = n → f < y → M 50 12 = nI (ts + k) → (∀ i, i < ts + k → M 55 i = tpF tp ts (fdV a b c d e) i) →
    ∃ M', b_X8_feed_68 K 50 (nI n) a b c d e y M (nI k) = some M' ∧ M' 50 12 = nI (ts + n) ∧ (∀ i, i < ts + n → M' 55 i = tpF tp ts (fdV a b c d e) i) ∧ (∀ i, i ≠ 12 → M' 50 i = M 50 i) ∧ ∀ q, q ≠ 50 → q ≠ 55 → M' q = M q := by
  have a55 : isAr K 55 160 := hK.ar (by decide) rfl
  intro f
  induction f with
  | zero =>
    intro y k M hk hy h1 h2
    obtain ⟨y, rfl⟩ : ∃ z, y = z + 1 := ⟨y - 1, by omega⟩
    obtain rfl : k = n := by omega
    refine ⟨M, ?_, h1, h2, fun _ _ => rfl, fun _ _ _ => rfl⟩
    rw [b_X8_feed_68, iteLe (by omega) (by omega), if_pos (by omega)]
  | succ f ih =>
    intro y k M hk hy h1 h2
    obtain ⟨y, rfl⟩ : ∃ z, y = z + 1 := ⟨y - 1, by omega⟩
    have ej : (if nI k = 0 then (some a) else (if nI k = (1 : Int32) then (some b) else (if nI k = (2 : Int32) then (some c) else (if nI k = (3 : Int32) then (some d) else (some e))))) = some (fdV a b c d e k) := by
      rcases (show k = 0 ∨ k = 1 ∨ k = 2 ∨ k = 3 ∨ k = 4 by omega) with rfl | rfl | rfl | rfl | rfl <;> rfl
    obtain ⟨M', r1, r2, r3, r4, r5⟩ := ih y (k + 1) (yS (yS M 55 (ts + k) (fdV a b c d e k)) 50 12 (nI (ts + k + 1))) (by omega) (by omega) (yS_at _ _ _ _) (fun i hi => by
      rw [yS_op _ _ _ _ (by decide)]
      by_cases z : i = ts + k
      · subst z
        rw [yS_at]
        unfold tpF
        rw [if_neg (by omega), show ts + k - ts = k by omega]
      · rw [yS_oi _ _ _ _ z]; exact h2 i (by omega))
    refine ⟨M', ?_, r2, r3, fun i hi => ?_, fun q z1 z2 => ?_⟩
    · rw [b_X8_feed_68, iteLe (by omega) (by omega), if_neg (by omega), if_pos hK.mo, hK.mr (f := 11) rfl, Option.bind_some, ej, Option.bind_some, h1, if_pos (gA_N a55 (by omega) (by omega)), nC (by omega), Option.bind_some, yS_op _ _ _ _ (by decide), h1, incN, Option.bind_some, incN, Option.bind_some]
      exact r1
    · rw [r4 i hi, yS_oi _ _ _ _ hi, yS_op _ _ _ _ (by decide)]
    · rw [r5 q z1 z2, yS_q _ _ _ z1, yS_q _ _ _ z2]
theorem q_isByte {K : yK} {M : yM} (x : Int32) : b_X8_isByte K M x = some (decide (0 ≤ x ∧ x ≤ 255)) := by
  unfold b_X8_isByte
  rw [q_in, Option.bind_some]
/-- tape and texts have changed -/
theorem IN.tp' {K : yK} {M M1 M2 : yM} {b ib : Bk} {im : Bool} {tn ts : Nat} {tx : Nat → Tx} {tp so : Nat → Int32} {sz : Nat → Nat} {ce : Nat → Nat → Int32} (h : IN K M b ib im tn ts tx tp so sz ce) {ts' : Nat} {tp' : Nat → Int32} (g0 : ∀ i, i ≠ 6 → M1 0 i = M 0 i) (g1 : ∀ q, q ≠ 0 → q ≠ 49 → (q < 34 ∨ 39 < q) → M1 q = M q) (c6 : M1 0 6 = nI ts') (c7 : ∀ i, i < ts' → M1 49 i = tp' i) (k0 : ∀ i, i = 0 ∨ i = 4 ∨ i = 6 ∨ i = 7 ∨ i = 8 ∨ i = 9 ∨ i = 10 ∨ i = 15 ∨ i = 16 ∨ i = 17 ∨ i = 18 ∨ i = 19 ∨ i = 20 ∨ i = 49 ∨ i = 50 → M2 50 i = M1 50 i) (k1 : ∀ q, q < 50 ∨ (51 ≤ q ∧ q ≤ 54) ∨ (58 ≤ q ∧ q ≤ 63) ∨ q = 65 ∨ 70 < q → M2 q = M1 q) (k2 : ∀ l, l < tn → MT M2 l (tx l)) (m12 : M2 50 12 = nI ts') (m55 : ∀ i, i < ts' → M2 55 i = tp' i) (ht : ts' ≤ 160 ∧ ∀ i, i < ts' → ∃ j, j < 256 ∧ tp' i = nI j) : IN K M2 b ib im tn ts' tx tp' so sz ce := by
  obtain ⟨⟨w1, w2, w3, w4, w5, w6⟩, ⟨⟨c1, c11⟩, c2, ⟨c31, c32, c33⟩, c4, c5, c6'⟩, ⟨⟨m1, m2, m3, m4⟩, n2, ⟨n31, n32, n33⟩, n4, n5, n6⟩⟩ := h
  have kk : ∀ q, (q < 34 ∨ (39 < q ∧ q < 49) ∨ 70 < q) → q ≠ 0 → M2 q = M q := fun q z z0 => by rw [k1 q (by omega), g1 q z0 (by omega) (by omega)]
  have k5 : ∀ i, i = 0 ∨ i = 4 ∨ i = 6 ∨ i = 7 ∨ i = 8 ∨ i = 9 ∨ i = 10 ∨ i = 15 ∨ i = 16 ∨ i = 17 ∨ i = 18 ∨ i = 19 ∨ i = 20 ∨ i = 49 ∨ i = 50 → M2 50 i = M 50 i := fun i z => by rw [k0 i z, g1 50 (by omega) (by omega) (by omega)]
  have k6 : ∀ q, (51 ≤ q ∧ q ≤ 54) ∨ (58 ≤ q ∧ q ≤ 63) ∨ q = 65 → M2 q = M q := fun q z => by rw [k1 q (by omega), g1 q (by omega) (by omega) (by omega)]
  refine ⟨⟨w1, w2, w3, ht, w5, w6⟩, ⟨⟨c1.cg (fun q z1 z2 => kk q (by omega) (by omega)), c11.cg (fun q z1 z2 => kk q (by omega) (by omega))⟩, fun z => ⟨(c2 z).1.cg (fun q z1 z2 => kk q (by omega) (by omega)), (c2 z).2.cg (fun q z1 z2 => kk q (by omega) (by omega))⟩, ⟨?_, ?_, ?_⟩, fun i hi => ?_, fun l hl => (c5 l hl).cg (fun q z => kk q (by omega) (by omega)), fun s hs => ?_⟩, ⟨⟨?_, ?_, ?_⟩, ?_, ?_, k2⟩, fun z => ?_, ⟨m12, ?_, ?_⟩, m55, fun i hi => ?_, fun s hs => ?_⟩
  · rw [k1 0 (by omega)]; exact c6
  · rw [k1 0 (by omega), g0 7 (by decide)]; exact c32
  · rw [k1 0 (by omega), g0 8 (by decide)]; exact c33
  · rw [k1 49 (by omega)]; exact c7 i hi
  · rw [kk (41 + 2 * s) (by omega) (by omega), kk (42 + 2 * s) (by omega) (by omega)]; exact c6' s hs
  · rw [k5 0 (by omega), k5 4 (by omega), k5 6 (by omega), k5 7 (by omega), k5 8 (by omega), k5 9 (by omega), k5 10 (by omega), k5 16 (by omega)]; exact m1.1
  · rw [k6 51 (by omega), k6 52 (by omega), k6 53 (by omega)]; exact m1.2.1
  · rw [k6 54 (by omega)]; exact m1.2.2
  · rw [k5 49 (by omega)]; exact m2
  · rw [k5 50 (by omega)]; exact m3
  · unfold IR
    rw [k5 18 (by omega), k5 19 (by omega), k5 20 (by omega), k6 58 (by omega), k6 59 (by omega), k6 60 (by omega)]
    exact n2 z
  · rw [k5 15 (by omega)]; exact n32
  · rw [k5 17 (by omega)]; exact n33
  · rw [k6 65 (by omega)]; exact n5 i hi
  · rw [k6 61 (by omega), k6 62 (by omega), k6 63 (by omega)]; exact n6 s hs
theorem a_feed {K : yK} {M : yM} {b ib : Bk} {im : Bool} {tn ts : Nat} {tx : Nat → Tx} {tp so : Nat → Int32} {sz : Nat → Nat} {ce : Nat → Nat → Int32} (h : IN K M b ib im tn ts tx tp so sz ce) (x1 x2 x3 x4 x5 x6 : Int32) : AL K (fun M => b_X7_feed K M 0 x1 x2 x3 x4 x5 x6) (fun M => b_X8_feed K M 50 x1 x2 x3 x4 x5 x6) M := by
  obtain ⟨hK, -⟩ := h.cls
  obtain ⟨t160, tby⟩ := h.1.2.2.2.1
  have c6 := h.2.1.2.2.1.1
  have m12 := h.2.2.2.2.1.1
  have no : ∀ r, b_X7_feed K M 0 x1 x2 x3 x4 x5 x6 = some (r, M) → b_X8_feed K M 50 x1 x2 x3 x4 x5 x6 = some (r, M) → AL K (fun M => b_X7_feed K M 0 x1 x2 x3 x4 x5 x6) (fun M => b_X8_feed K M 50 x1 x2 x3 x4 x5 x6) M := fun r e1 e2 => AL.no h e1 e2
  by_cases c1 : 1 ≤ x1 ∧ x1 ≤ 5
  rotate_left
  · refine no (-2) ?_ ?_
    · unfold b_X7_feed
      by_cases z : x1 < 1
      · rw [if_pos z]
      · rw [if_neg z, if_pos (show (5 : Int32) < x1 by
          rcases (show (5 : Int32) < x1 ∨ ¬ (5 : Int32) < x1 from Classical.em _) with q | q
          · exact q
          · exact absurd ⟨by rw [i_lt] at z; rw [i_le]; omega, by rw [i_lt] at q; rw [i_le]; omega⟩ c1)]
    · unfold b_X8_feed
      rw [q_in, Option.bind_some, ifn c1]
  have d1 : ¬ x1 < 1 ∧ ¬ (5 : Int32) < x1 := ⟨by have := c1.1; rw [i_le] at this; rw [i_lt]; omega, by have := c1.2; rw [i_le] at this; rw [i_lt]; omega⟩
  obtain ⟨n, hn, rfl⟩ := in_N (e := 5) (x := x1) (by decide) ⟨by have := c1.1; rw [i_le] at this ⊢; rw [i_0]; rw [show (1 : Int32).toInt = 1 by decide] at this; omega, c1.2⟩
  have hn1 : 1 ≤ n := by have := c1.1; rw [show (1 : Int32) = nI 1 from rfl, leN (by omega) (by omega)] at this; exact this
  by_cases c2 : 0 ≤ x2 ∧ x2 ≤ 255
  rotate_left
  · refine no (-2) ?_ ?_
    · unfold b_X7_feed
      rw [if_neg d1.1, if_neg d1.2, c_isByte, Option.bind_some, ifn c2]
    · unfold b_X8_feed
      rw [q_in, Option.bind_some, ifd c1, q_isByte, Option.bind_some, ifn c2]
  by_cases c3 : 0 ≤ x3 ∧ x3 ≤ 255
  rotate_left
  · refine no (-2) ?_ ?_
    · unfold b_X7_feed
      rw [if_neg d1.1, if_neg d1.2, c_isByte, Option.bind_some, ifd c2, c_isByte, Option.bind_some, ifn c3]
    · unfold b_X8_feed
      rw [q_in, Option.bind_some, ifd c1, q_isByte, Option.bind_some, ifd c2, q_isByte, Option.bind_some, ifn c3]
  by_cases c4 : 0 ≤ x4 ∧ x4 ≤ 255
  rotate_left
  · refine no (-2) ?_ ?_
    · unfold b_X7_feed
      rw [if_neg d1.1, if_neg d1.2, c_isByte, Option.bind_some, ifd c2, c_isByte, Option.bind_some, ifd c3, c_isByte, Option.bind_some, ifn c4]
    · unfold b_X8_feed
      rw [q_in, Option.bind_some, ifd c1, q_isByte, Option.bind_some, ifd c2, q_isByte, Option.bind_some, ifd c3, q_isByte, Option.bind_some, ifn c4]
  by_cases c5 : 0 ≤ x5 ∧ x5 ≤ 255
  rotate_left
  · refine no (-2) ?_ ?_
    · unfold b_X7_feed
      rw [if_neg d1.1, if_neg d1.2, c_isByte, Option.bind_some, ifd c2, c_isByte, Option.bind_some, ifd c3, c_isByte, Option.bind_some, ifd c4, c_isByte, Option.bind_some, ifn c5]
    · unfold b_X8_feed
      rw [q_in, Option.bind_some, ifd c1, q_isByte, Option.bind_some, ifd c2, q_isByte, Option.bind_some, ifd c3, q_isByte, Option.bind_some, ifd c4, q_isByte, Option.bind_some, ifn c5]
  by_cases c7 : 0 ≤ x6 ∧ x6 ≤ 255
  rotate_left
  · refine no (-2) ?_ ?_
    · unfold b_X7_feed
      rw [if_neg d1.1, if_neg d1.2, c_isByte, Option.bind_some, ifd c2, c_isByte, Option.bind_some, ifd c3, c_isByte, Option.bind_some, ifd c4, c_isByte, Option.bind_some, ifd c5, c_isByte, Option.bind_some, ifn c7]
    · unfold b_X8_feed
      rw [q_in, Option.bind_some, ifd c1, q_isByte, Option.bind_some, ifd c2, q_isByte, Option.bind_some, ifd c3, q_isByte, Option.bind_some, ifd c4, q_isByte, Option.bind_some, ifd c5, q_isByte, Option.bind_some, ifn c7]
  have e160 : (160 : Int32) - nI n = nI (160 - n) := subN (a := 160) (by omega)
  by_cases f : ts + n ≤ 160
  rotate_left
  · refine no (-4) ?_ ?_
    · unfold b_X7_feed
      rw [if_neg d1.1, if_neg d1.2, c_isByte, Option.bind_some, ifd c2, c_isByte, Option.bind_some, ifd c3, c_isByte, Option.bind_some, ifd c4, c_isByte, Option.bind_some, ifd c5, c_isByte, Option.bind_some, ifd c7, if_pos hK.o0, c6, e160, iteLe (by omega) (by omega), if_neg (by omega)]
    · unfold b_X8_feed
      rw [q_in, Option.bind_some, ifd c1, q_isByte, Option.bind_some, ifd c2, q_isByte, Option.bind_some, ifd c3, q_isByte, Option.bind_some, ifd c4, q_isByte, Option.bind_some, ifd c5, q_isByte, Option.bind_some, ifd c7, if_pos hK.mo, m12, addN, show (160 : Int32) = nI 160 from rfl, iteLe (by omega) (by omega), if_neg f]
  have a0 : AT tp ts (fdV x2 x3 x4 x5 x6) M 0 M := ⟨c6, fun i hi => by unfold tpF; rw [if_pos (show i < ts from hi)]; exact h.2.1.2.2.2.1 i hi, fun _ _ => rfl, fun _ _ _ => rfl⟩
  obtain ⟨M1, p1, a1⟩ := p_append (v := fdV x2 x3 x4 x5 x6) (n := n) hK f (by omega) (by omega) 0 (by rw [if_pos (by omega)]) a0
  obtain ⟨M2, p2, a2⟩ := p_append (v := fdV x2 x3 x4 x5 x6) (n := n) hK f (by split <;> omega) (by split <;> omega) 1 rfl a1
  obtain ⟨M3, p3, a3⟩ := p_append (v := fdV x2 x3 x4 x5 x6) (n := n) hK f (by split <;> omega) (by split <;> omega) 2 rfl a2
  obtain ⟨M4, p4, a4⟩ := p_append (v := fdV x2 x3 x4 x5 x6) (n := n) hK f (by split <;> omega) (by split <;> omega) 3 rfl a3
  obtain ⟨M5, p5, a5⟩ := p_append (v := fdV x2 x3 x4 x5 x6) (n := n) hK f (by split <;> omega) (by split <;> omega) 4 rfl a4
  rw [if_neg (show ¬ 4 + 1 < n by omega)] at a5
  obtain ⟨g1, g2, g3, g4⟩ := a5
  have hm := h.2.2.c (M' := M5) (fun q z1 z2 => g4 q (by omega) (by omega))
  obtain ⟨M6, q1, q2, q3, q4, q5⟩ := q_feed_loop (tp := tp) (a := x2) (b := x3) (c := x4) (d := x5) (e := x6) hK f hn n 1000 0 M5 (by omega) (by omega) hm.2.2.1.1 (fun i hi => by unfold tpF; rw [if_pos (show i < ts from hi)]; exact hm.2.2.2.1 i hi)
  have ej : ∀ j, j < 5 → (if nI n ≤ nI j then (some false) else (some true)) = some (decide (j < n)) := fun j hj => by
    rw [iteLe (by omega) (by omega)]
    by_cases z : n ≤ j
    · rw [if_pos z, decide_eq_false (by omega)]
    · rw [if_neg z, decide_eq_true (by omega)]
  have hb : ∀ x : Int32, 0 ≤ x ∧ x ≤ 255 → ∃ j, j < 256 ∧ x = nI j := fun x hx => by
    obtain ⟨j, hj, e⟩ := in_N (e := 255) (by decide) hx
    exact ⟨j, by omega, e⟩
  refine ⟨nI (ts + n), M5, M6, ?_, ?_, b, ib, im, tn, ts + n, tx, tpF tp ts (fdV x2 x3 x4 x5 x6), so, sz, ce, h.tp' g3 (fun q z1 z2 _ => g4 q z1 z2) g1 g2 (fun i z => q4 i (by omega)) (fun q z => q5 q (by omega) (by omega)) (fun l hl => (hm.1.2.2.2 l hl).cg (q5 57 (by decide) (by decide)) (q5 56 (by decide) (by decide))) q2 q3 ⟨f, fun i hi => ?_⟩⟩
  · show b_X7_feed K M 0 (nI n) x2 x3 x4 x5 x6 = _
    unfold b_X7_feed
    rw [if_neg d1.1, if_neg d1.2, c_isByte, Option.bind_some, ifd c2, c_isByte, Option.bind_some, ifd c3, c_isByte, Option.bind_some, ifd c4, c_isByte, Option.bind_some, ifd c5, c_isByte, Option.bind_some, ifd c7, if_pos hK.o0, c6, e160, iteLe (by omega) (by omega), if_pos (by omega)]
    rw [show (if nI n ≤ 0 then (some false) else (some true)) = some (decide (0 < n)) from ej 0 (by omega), Option.bind_some, show b_X7_appendByte K M 0 x2 (decide (0 < n)) = some M1 from p1, Option.bind_some, show (if nI n ≤ (1 : Int32) then (some false) else (some true)) = some (decide (1 < n)) from ej 1 (by omega), Option.bind_some, show b_X7_appendByte K M1 0 x3 (decide (1 < n)) = some M2 from p2, Option.bind_some, show (if nI n ≤ (2 : Int32) then (some false) else (some true)) = some (decide (2 < n)) from ej 2 (by omega), Option.bind_some, show b_X7_appendByte K M2 0 x4 (decide (2 < n)) = some M3 from p3, Option.bind_some, show (if nI n ≤ (3 : Int32) then (some false) else (some true)) = some (decide (3 < n)) from ej 3 (by omega), Option.bind_some, show b_X7_appendByte K M3 0 x5 (decide (3 < n)) = some M4 from p4, Option.bind_some, show (if nI n ≤ (4 : Int32) then (some false) else (some true)) = some (decide (4 < n)) from ej 4 (by omega), Option.bind_some, show b_X7_appendByte K M4 0 x6 (decide (4 < n)) = some M5 from p5, Option.bind_some, g1]
  · show b_X8_feed K M5 50 (nI n) x2 x3 x4 x5 x6 = _
    unfold b_X8_feed
    rw [q_in, Option.bind_some, ifd c1, q_isByte, Option.bind_some, ifd c2, q_isByte, Option.bind_some, ifd c3, q_isByte, Option.bind_some, ifd c4, q_isByte, Option.bind_some, ifd c5, q_isByte, Option.bind_some, ifd c7, if_pos hK.mo, hm.2.2.1.1, addN, show (160 : Int32) = nI 160 from rfl, iteLe (by omega) (by omega), if_pos f, show b_X8_feed_68 K 50 (nI n) x2 x3 x4 x5 x6 1000 M5 0 = some M6 from q1, Option.bind_some, q2]
  · unfold tpF
    by_cases z : i < ts
    · rw [if_pos z]; exact tby i z
    · rw [if_neg z]
      unfold fdV
      split
      · exact hb _ c2
      · split
        · exact hb _ c3
        · split
          · exact hb _ c4
          · split
            · exact hb _ c5
            · exact hb _ c7
