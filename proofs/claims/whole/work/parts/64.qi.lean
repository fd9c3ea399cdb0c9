/-! sheet, cell, copy -/
theorem q_zero_loop {K : yK} {s : Nat} (hK : KSh K) (hs : s < 4) : ∀ (f y i : Nat) (M : yM), i + f = 40 → f < y → ∃ M', b_X8_sheet_70 K 50 (nI s) y M (nI i) = some M' ∧ (∀ j, i ≤ j → j < 40 → M' 63 (40 * s + j) = 0) ∧ (∀ j, (∀ k, i ≤ k → k < 40 → j ≠ 40 * s + k) → M' 63 j = M 63 j) ∧ ∀ q, q ≠ 63 → M' q = M q := by
  obtain ⟨t1, t2⟩ := hK.m26
  intro f
  induction f with
  | zero =>
    intro y i M hi hy
    obtain ⟨y, rfl⟩ : ∃ k, y = k + 1 := ⟨y - 1, by omega⟩
    refine ⟨M, ?_, fun j h1 h2 => by omega, fun _ _ => rfl, fun _ _ => rfl⟩
    rw [b_X8_sheet_70, show (40 : Int32) = nI 40 from rfl, iteLe (by omega) (by omega), if_pos (by omega)]
  | succ f ih =>
    intro y i M hi hy
    obtain ⟨y, rfl⟩ : ∃ k, y = k + 1 := ⟨y - 1, by omega⟩
    obtain ⟨M', e1, e2, e3, e4⟩ := ih y (i + 1) (yS M 63 (40 * s + i) 0) (by omega) (by omega)
    refine ⟨M', ?_, fun j h1 h2 => ?_, fun j hj => ?_, fun q hq => ?_⟩
    · rw [b_X8_sheet_70, if_neg (show ¬ (40 : Int32) ≤ nI i by rw [show (40 : Int32) = nI 40 from rfl, leN (by omega) (by omega)]; omega), if_pos hK.mo, t1, Option.bind_some, c40, if_pos (gA_N t2 (by omega) (by omega)), nC (by omega), Option.bind_some, incN, Option.bind_some]
      exact e1
    · rcases Nat.lt_or_ge i j with z | z
      · exact e2 j z h2
      · obtain rfl : j = i := by omega
        rw [e3 _ (fun k h3 h4 => by omega), yS_at]
    · rw [e3 j (fun k h3 h4 => hj k (by omega) h4), yS_oi _ _ _ _ (hj i (by omega) (by omega))]
    · rw [e4 q hq, yS_q _ _ _ hq]
theorem IN.mr {K : yK} {M M1 : yM} {b ib : Bk} {im : Bool} {tn ts : Nat} {tx : Nat → Tx} {tp so : Nat → Int32} {sz : Nat → Nat} {ce : Nat → Nat → Int32} (h : IN K M b ib im tn ts tx tp so sz ce) (fs : Fs M M1) : IM M1 b ib im tn ts tx tp so sz ce := h.2.2.c fs.ms
/-- a sheet becomes a row of zeros, or missing -/
theorem become_al {K : yK} {M : yM} {b ib : Bk} {im : Bool} {tn ts : Nat} {tx : Nat → Tx} {tp so : Nat → Int32} {sz : Nat → Nat} {ce : Nat → Nat → Int32} (h : IN K M b ib im tn ts tx tp so sz ce) {s n : Nat} {x2 : Int32} (s4 : s < 4) (hn : n ≤ 40) (hx : x2 = -1 ∨ x2 = 0 ∨ x2 = 1 ∨ x2 = 2) : ∃ M1 M2, b_X5_become K M (41 + 2 * s) x2 (nI n) = some M1 ∧ b_X8_sheet_70 K 50 (nI s) 1000 (yS (yS M1 61 s x2) 62 s (nI n)) 0 = some M2 ∧ IE K M2 := by
  obtain ⟨hK, hW, hd, hl, hT, hx', hB, hS, hXs, hX⟩ := h.cls
  have hsh := h.2.1.2.2.2.2.2
  have hwf := h.1.2.2.2.2.2
  obtain ⟨M1, p1, p2, p3, p4, p5⟩ := p_become (M := M) x2 hK s4 hn
  have fs : Fs M M1 := fun q z1 z2 z3 z4 => p5 q (by omega) (by omega)
  have hm := h.mr fs
  obtain ⟨M2, q1, q2, q3, q4⟩ := q_zero_loop hK s4 40 1000 0 (yS (yS M1 61 s x2) 62 s (nI n)) (by omega) (by omega)
  have nq : ∀ q, q ≠ 61 → q ≠ 62 → q ≠ 63 → M2 q = M1 q := fun q z1 z2 z3 => by rw [q4 q z3, yS_q _ _ _ z2, yS_q _ _ _ z1]
  refine ⟨M1, M2, p1, q1, h.sh' (so' := upN so s x2) (sz' := upN sz s n) (ce' := upN ce s (fun _ => 0)) fs ⟨fun i _ => by rw [nq 50 (by decide) (by decide) (by decide)], fun q z => nq q (by omega) (by omega) (by omega)⟩ (hm.1.1.cg (fun q z1 z2 => nq q (by omega) (by omega) (by omega))) (fun s' h4 => ?_) (fun s' h4 => ?_) (fun s' h4 => ?_)⟩
  · by_cases e : s' = s
    · subst e
      rw [upN_at, upN_at, upN_at]
      exact ⟨p2, p3, fun j hj => p4 j (by omega)⟩
    · rw [upN_o _ _ _ e, upN_o _ _ _ e, upN_o _ _ _ e, p5 _ (by omega) (by omega), p5 (42 + 2 * s') (by omega) (by omega)]
      exact hsh s' h4
  · obtain ⟨g1, g2, g3⟩ := hm.2.2.2.2.2 s' h4
    rw [q4 61 (by decide), q4 62 (by decide)]
    by_cases e : s' = s
    · subst e
      rw [upN_at, upN_at, upN_at]
      refine ⟨?_, ?_, fun j hj => q2 j (by omega) (by omega)⟩
      · rw [yS_op _ _ _ _ (by decide), yS_at]
      · rw [yS_at]
    · rw [upN_o _ _ _ e, upN_o _ _ _ e, upN_o _ _ _ e]
      refine ⟨?_, ?_, fun j hj => ?_⟩
      · rw [yS_op _ _ _ _ (by decide), yS_oi _ _ _ _ e]; exact g1
      · rw [yS_oi _ _ _ _ e, yS_op _ _ _ _ (by decide)]; exact g2
      · have := (hwf s' h4).1
        rw [q3 _ (fun k h1 h2 => by omega), yS_op _ _ _ _ (by decide), yS_op _ _ _ _ (by decide)]
        exact g3 j hj
  · by_cases e : s' = s
    · subst e
      rw [upN_at, upN_at]
      exact ⟨hn, hx⟩
    · rw [upN_o _ _ _ e, upN_o _ _ _ e]
      exact hwf s' h4
theorem a_sheet {K : yK} {M : yM} {b ib : Bk} {im : Bool} {tn ts : Nat} {tx : Nat → Tx} {tp so : Nat → Int32} {sz : Nat → Nat} {ce : Nat → Nat → Int32} (h : IN K M b ib im tn ts tx tp so sz ce) (x1 x2 x3 : Int32) : AL K (fun M => b_X7_sheet K M 0 x1 x2 x3) (fun M => b_X8_sheet K M 50 x1 x2 x3) M := by
  obtain ⟨hK, -⟩ := h.cls
  by_cases c1 : 0 ≤ x1 ∧ x1 ≤ 3
  rotate_left
  · refine AL.no (r := -2) h ?_ ?_
    · show b_X7_sheet K M 0 x1 x2 x3 = _
      unfold b_X7_sheet
      rw [c_isSheet, Option.bind_some, ifn c1]
    · show b_X8_sheet K M 50 x1 x2 x3 = _
      unfold b_X8_sheet
      rw [q_in, Option.bind_some, ifn c1]
  by_cases c2 : -1 ≤ x2 ∧ x2 ≤ 2
  rotate_left
  · refine AL.no (r := -2) h ?_ ?_
    · show b_X7_sheet K M 0 x1 x2 x3 = _
      unfold b_X7_sheet
      rw [c_isSheet, Option.bind_some, ifd c1]
      by_cases z : x2 < -1
      · rw [if_pos z]
      · rw [if_neg z, if_neg (fun y => c2 ⟨by rw [i_lt] at z; rw [i_le]; omega, y⟩)]
    · show b_X8_sheet K M 50 x1 x2 x3 = _
      unfold b_X8_sheet
      rw [q_in, Option.bind_some, ifd c1, q_in, Option.bind_some, ifn c2]
  have d2 : ¬ x2 < -1 := by have := c2.1; rw [i_le] at this; rw [i_lt]; omega
  obtain ⟨s, s1, rfl⟩ := in_N (e := 3) (by decide) c1
  have s4 : s < 4 := by omega
  by_cases m1 : x2 = -1
  · subst m1
    obtain ⟨M1, M2, p1, p2, p3⟩ := become_al h s4 (n := 0) (by omega) (.inl rfl)
    have p1 : b_X5_become K M (41 + 2 * s) (-1) 0 = some M1 := p1
    have p2 : b_X8_sheet_70 K 50 (nI s) 1000 (yS (yS M1 61 s (-1)) 62 s 0) 0 = some M2 := p2
    refine ⟨1, M1, M2, ?_, ?_, p3⟩
    · show b_X7_sheet K M 0 (nI s) (-1) x3 = _
      unfold b_X7_sheet
      rw [c_isSheet, Option.bind_some, ifd c1, if_neg d2, if_pos c2.2, if_pos rfl, if_pos hK.o0, hK.r04, Option.bind_some, if_pos (hK.q40 s4).1, (hK.q40 s4).2, Option.bind_some, if_pos (hK.so s4).1, p1, Option.bind_some]
    · show b_X8_sheet K M1 50 (nI s) (-1) x3 = _
      unfold b_X8_sheet
      rw [q_in, Option.bind_some, ifd c1, q_in, Option.bind_some, ifd c2, if_pos rfl, if_pos rfl, if_pos hK.mo, hK.m24.1, Option.bind_some, if_pos (gA_N hK.m24.2 s4 (by omega)), nC (by omega), Option.bind_some, hK.m25.1, Option.bind_some, if_pos rfl, Option.bind_some, if_pos (gA_N hK.m25.2 s4 (by omega)), Option.bind_some, p2, Option.bind_some]
  by_cases c3 : x3 ≤ 40
  rotate_left
  · refine AL.no (r := -2) h ?_ ?_
    · show b_X7_sheet K M 0 (nI s) x2 x3 = _
      unfold b_X7_sheet
      rw [c_isSheet, Option.bind_some, ifd c1, if_neg d2, if_pos c2.2, if_neg m1, if_neg c3]
    · show b_X8_sheet K M 50 (nI s) x2 x3 = _
      unfold b_X8_sheet
      rw [q_in, Option.bind_some, ifd c1, q_in, Option.bind_some, ifd c2, if_neg m1, if_neg c3]
  by_cases c4 : 0 ≤ x3
  rotate_left
  · refine AL.no (r := -14) h ?_ ?_
    · show b_X7_sheet K M 0 (nI s) x2 x3 = _
      unfold b_X7_sheet
      rw [c_isSheet, Option.bind_some, ifd c1, if_neg d2, if_pos c2.2, if_neg m1, if_pos c3, if_neg c4]
    · show b_X8_sheet K M 50 (nI s) x2 x3 = _
      unfold b_X8_sheet
      rw [q_in, Option.bind_some, ifd c1, q_in, Option.bind_some, ifd c2, if_neg m1, if_pos c3, if_neg m1, if_neg c4]
  obtain ⟨n, hn, rfl⟩ := in_N (e := 40) (by decide) ⟨c4, c3⟩
  have hx2 : x2 = -1 ∨ x2 = 0 ∨ x2 = 1 ∨ x2 = 2 := by
    have h1 := c2.1
    have h2 := c2.2
    rw [i_le, i_m1] at h1
    rw [i_le, show (2 : Int32).toInt = 2 by decide] at h2
    rw [i_eq, i_eq, i_eq, i_eq, i_m1, i_0, show (1 : Int32).toInt = 1 by decide, show (2 : Int32).toInt = 2 by decide]
    omega
  obtain ⟨M1, M2, p1, p2, p3⟩ := become_al h s4 hn hx2
  refine ⟨1, M1, M2, ?_, ?_, p3⟩
  · show b_X7_sheet K M 0 (nI s) x2 (nI n) = _
    unfold b_X7_sheet
    rw [c_isSheet, Option.bind_some, ifd c1, if_neg d2, if_pos c2.2, if_neg m1, if_pos c3, if_pos c4, if_pos hK.o0, hK.r04, Option.bind_some, if_pos (hK.q40 s4).1, (hK.q40 s4).2, Option.bind_some, if_pos (hK.so s4).1, p1, Option.bind_some]
  · show b_X8_sheet K M1 50 (nI s) x2 (nI n) = _
    unfold b_X8_sheet
    rw [q_in, Option.bind_some, ifd c1, q_in, Option.bind_some, ifd c2, if_neg m1, if_pos c3, if_neg m1, if_pos c4, if_pos hK.mo, hK.m24.1, Option.bind_some, if_pos (gA_N hK.m24.2 s4 (by omega)), nC (by omega), Option.bind_some, hK.m25.1, Option.bind_some, if_neg m1, Option.bind_some, if_pos (gA_N hK.m25.2 s4 (by omega)), Option.bind_some, p2, Option.bind_some]
/-- cells of a sheet have changed -/
theorem cells_al {K : yK} {M M1 M2 : yM} {b ib : Bk} {im : Bool} {tn ts : Nat} {tx : Nat → Tx} {tp so : Nat → Int32} {sz : Nat → Nat} {ce : Nat → Nat → Int32} (h : IN K M b ib im tn ts tx tp so sz ce) {o : Nat} {c' : Nat → Int32} (o4 : o < 4) (h1 : ∀ q, q ≠ 42 + 2 * o → M1 q = M q) (h2 : ∀ q, q ≠ 63 → M2 q = M1 q) (hc : ∀ j, j < sz o → M1 (42 + 2 * o) j = c' j) (hq : ∀ j, j < sz o → M2 63 (40 * o + j) = c' j) (hq2 : ∀ y, (∀ j, j < sz o → y ≠ 40 * o + j) → M2 63 y = M1 63 y) : IE K M2 := by
  have hsh := h.2.1.2.2.2.2.2
  have hwf := h.1.2.2.2.2.2
  have fs : Fs M M1 := fun q z1 z2 z3 z4 => h1 q (by omega)
  have hm := h.mr fs
  refine h.sh' (so' := so) (sz' := sz) (ce' := upN ce o c') fs ⟨fun i _ => by rw [h2 50 (by decide)], fun q z => h2 q (by omega)⟩ (hm.1.1.cg (fun q z1 z2 => h2 q (by omega))) (fun s' h4 => ?_) (fun s' h4 => ?_) hwf
  · obtain ⟨g1, g2, g3⟩ := hsh s' h4
    rw [h1 (41 + 2 * s') (by omega)]
    refine ⟨g1, g2, fun j hj => ?_⟩
    by_cases e : s' = o
    · subst e; rw [upN_at]; exact hc j hj
    · rw [upN_o _ _ _ e, h1 (42 + 2 * s') (by omega)]; exact g3 j hj
  · obtain ⟨g1, g2, g3⟩ := hm.2.2.2.2.2 s' h4
    rw [h2 61 (by decide), h2 62 (by decide)]
    refine ⟨g1, g2, fun j hj => ?_⟩
    by_cases e : s' = o
    · subst e; rw [upN_at]; exact hq j hj
    · have w1 := (hwf s' h4).1
      have w2 := (hwf o o4).1
      rw [upN_o _ _ _ e, hq2 _ (fun k hk => by omega)]; exact g3 j hj
theorem a_cell {K : yK} {M : yM} {b ib : Bk} {im : Bool} {tn ts : Nat} {tx : Nat → Tx} {tp so : Nat → Int32} {sz : Nat → Nat} {ce : Nat → Nat → Int32} (h : IN K M b ib im tn ts tx tp so sz ce) (x1 x2 x3 : Int32) : AL K (fun M => b_X7_cell K M 0 x1 x2 x3) (fun M => b_X8_cell K M 50 x1 x2 x3) M := by
  obtain ⟨hK, -⟩ := h.cls
  obtain ⟨hs1, hs2, hs3, hs4, hs5⟩ := h.sh
  by_cases c1 : 0 ≤ x1 ∧ x1 ≤ 3
  rotate_left
  · have r0 : rfS so x1 = -2 := if_neg c1
    refine AL.no (r := -2) h ?_ ?_
    · show b_X7_cell K M 0 x1 x2 x3 = _
      unfold b_X7_cell
      rw [if_pos hK.o0, p_refusal hK hs1, Option.bind_some, r0, if_neg (by decide)]
    · show b_X8_cell K M 50 x1 x2 x3 = _
      unfold b_X8_cell
      rw [q_in, Option.bind_some, ifn c1]
  obtain ⟨s, s1, rfl⟩ := in_N (e := 3) (by decide) c1
  have s4 : s < 4 := by omega
  by_cases c2 : so s = -1
  · have r0 : rfS so (nI s) = -11 := by unfold rfS; rw [if_pos c1, nC (by omega), if_pos c2]
    refine AL.no (r := -11) h ?_ ?_
    · show b_X7_cell K M 0 (nI s) x2 x3 = _
      unfold b_X7_cell
      rw [if_pos hK.o0, p_refusal hK hs1, Option.bind_some, r0, if_neg (by decide)]
    · show b_X8_cell K M 50 (nI s) x2 x3 = _
      unfold b_X8_cell
      rw [q_in, Option.bind_some, ifd c1, if_pos hK.mo, hK.m24.1, Option.bind_some, if_pos (gA_N hK.m24.2 s4 (by omega)), nC (by omega), hs3 s s4, if_pos c2]
  have r0 : rfS so (nI s) = 0 := by unfold rfS; rw [if_pos c1, nC (by omega), if_neg c2]
  have hm5 := hs5 s s4
  by_cases c3 : isN x2 (sz s) = true
  rotate_left
  · refine AL.no (r := -12) h ?_ ?_
    · show b_X7_cell K M 0 (nI s) x2 x3 = _
      unfold b_X7_cell
      rw [if_pos hK.o0, p_refusal hK hs1, Option.bind_some, r0, if_pos rfl]
      by_cases z : x2 < 0
      · rw [if_pos z]
      · obtain ⟨j, hj, rfl⟩ := nI_of z
        rw [if_neg z, hK.r04, Option.bind_some, if_pos (hK.q40 s4).1, (hK.q40 s4).2, Option.bind_some, if_pos (hK.so s4).1, (hs2 s s4).1, iteLt hj (by omega)]
        rw [isN_nI hj] at c3
        rw [if_neg (fun y => c3 (decide_eq_true y))]
    · show b_X8_cell K M 50 (nI s) x2 x3 = _
      unfold b_X8_cell
      rw [q_in, Option.bind_some, ifd c1, if_pos hK.mo, hK.m24.1, Option.bind_some, if_pos (gA_N hK.m24.2 s4 (by omega)), nC (by omega), hs3 s s4, if_neg c2, hK.m25.1, Option.bind_some, if_pos (gA_N hK.m25.2 s4 (by omega)), (hs4 s s4).1, q_in0 _ (by omega), Option.bind_some, if_neg c3]
  obtain ⟨i, hi, rfl⟩ := isN_of c3
  have hw := p_write (M := M) hK s4 (i := i) (by omega) x3
  rw [hs1 s s4] at hw
  have o1 : ∀ q, q ≠ 42 + 2 * s → yS M (42 + 2 * s) i (cvS (so s) x3) q = M q := fun q z => yS_q _ _ _ z
  have ej : (if so s = 0 then (some x3.toInt8.toInt32) else (if so s = (1 : Int32) then (some x3.toInt16.toInt32) else (some x3))) = some (cvS (so s) x3) := by
    unfold cvS
    by_cases z : so s = 0
    · rw [if_pos z, if_pos z]
    · rw [if_neg z, if_neg z]
      by_cases y : so s = 1
      · rw [if_pos y, if_pos y]
      · rw [if_neg y, if_neg y]
  refine ⟨1, yS M (42 + 2 * s) i (cvS (so s) x3), yS (yS M (42 + 2 * s) i (cvS (so s) x3)) 63 (40 * s + i) (cvS (so s) x3), ?_, ?_, cells_al h s4 (c' := upN (ce s) i (cvS (so s) x3)) o1 (fun q z => yS_q _ _ _ z) (fun j hj => ?_) (fun j hj => ?_) (fun y hy => ?_)⟩
  · show b_X7_cell K M 0 (nI s) (nI i) x3 = _
    unfold b_X7_cell
    rw [if_pos hK.o0, p_refusal hK hs1, Option.bind_some, r0, if_pos rfl, if_neg (nI_pos (by omega)), hK.r04, Option.bind_some, if_pos (hK.q40 s4).1, (hK.q40 s4).2, Option.bind_some, if_pos (hK.so s4).1, (hs2 s s4).1, iteLt (by omega) (by omega), if_pos hi, hw, Option.bind_some]
  · show b_X8_cell K (yS M (42 + 2 * s) i (cvS (so s) x3)) 50 (nI s) (nI i) x3 = _
    unfold b_X8_cell
    rw [q_in, Option.bind_some, ifd c1, if_pos hK.mo, hK.m24.1, Option.bind_some, if_pos (gA_N hK.m24.2 s4 (by omega)), nC (by omega), o1 61 (by omega), hs3 s s4, if_neg c2, hK.m25.1, Option.bind_some, if_pos (gA_N hK.m25.2 s4 (by omega)), o1 62 (by omega), (hs4 s s4).1, q_in0 _ (by omega), Option.bind_some, if_pos c3, hK.m26.1, Option.bind_some, ej, Option.bind_some, c40, if_pos (gA_N hK.m26.2 (by omega) (by omega)), nC (by omega), Option.bind_some]
  · by_cases e : j = i
    · rw [e, yS_at, upN_at]
    · rw [yS_oi _ _ _ _ e, upN_o _ _ _ e]; exact (hs2 s s4).2 j hj
  · by_cases e : j = i
    · rw [e, yS_at, upN_at]
    · rw [yS_oi _ _ _ _ (by omega), upN_o _ _ _ e, yS_op _ _ _ _ (by omega)]; exact (hs4 s s4).2 j hj
  · rw [yS_oi _ _ _ _ (hy i hi)]
/-! copy -/
theorem p_hasRow2 {K : yK} {M : yM} {s m : Nat} {x n : Int32} (hK : KSh K) (hs : s < 4) (h2 : M (41 + 2 * s) 2 = nI m) (hm : m ≤ 40) : b_X5_hasRow K M (41 + 2 * s) x n = some (decide (0 ≤ n.toInt ∧ 0 ≤ x.toInt ∧ x.toInt + n.toInt ≤ m)) := by
  unfold b_X5_hasRow
  by_cases z1 : n < 0
  · rw [if_pos z1, decide_eq_false]
    rw [i_lt, i_0] at z1
    omega
  rw [if_neg z1]
  by_cases z2 : x < 0
  · rw [if_pos z2, decide_eq_false]
    rw [i_lt, i_0] at z2
    omega
  rw [if_neg z2, if_pos (hK.so hs).1, h2]
  rw [i_lt, i_0] at z1 z2
  have hn := Int32.toInt_lt n
  have hx := Int32.toInt_lt x
  have e : (nI m - n).toInt = (m : Int) - n.toInt := by
    rw [Int32.toInt_sub, nJ (by omega), Int.bmod_eq_of_le (by omega) (by omega)]
  have e2 : ((nI m - n) < x) = ¬ (x.toInt + n.toInt ≤ m) := by
    rw [i_lt, e]
    apply propext
    omega
  by_cases z3 : x.toInt + n.toInt ≤ m
  · rw [if_neg (by rw [e2]; exact fun y => y z3), decide_eq_true ⟨by omega, by omega, z3⟩]
  · rw [if_pos (by rw [e2]; exact z3), decide_eq_false (fun y => z3 y.2.2)]
/-- a row laid over another -/
def cpF (g : Nat → Int32) (a c n : Nat) (y : Nat) : Int32 := if c ≤ y ∧ y < c + n then g (a + (y - c)) else g y
theorem q_copy_loop {K : yK} {a c n : Nat} (hK : KSh K) (ha : a + n ≤ 160) (hc : c + n ≤ 160) : ∀ (f y k : Nat) (M N : yM), k + f = n → f < y → (∀ q, q ≠ 63 → N q = M q) → (∀ z, N 63 z = if c ≤ a then (if c ≤ z ∧ z < c + k then M 63 (a + (z - c)) else M 63 z) else (if c + (n - k) ≤ z ∧ z < c + n then M 63 (a + (z - c)) else M 63 z)) →
    ∃ M', b_X8_copy_147 K 50 (nI n) (nI a) (nI c) y N (nI k) = some M' ∧ (∀ q, q ≠ 63 → M' q = M q) ∧ ∀ z, M' 63 z = cpF (M 63) a c n z := by
  obtain ⟨t1, t2⟩ := hK.m26
  intro f
  induction f with
  | zero =>
    intro y k M N hk hy h1 h2
    obtain ⟨y, rfl⟩ : ∃ w, y = w + 1 := ⟨y - 1, by omega⟩
    obtain rfl : k = n := by omega
    refine ⟨N, ?_, h1, fun z => ?_⟩
    · rw [b_X8_copy_147, iteLe (by omega) (by omega), if_pos (by omega)]
    · rw [h2 z]
      unfold cpF
      by_cases q : c ≤ a
      · rw [if_pos q]
      · rw [if_neg q, show c + (k - k) = c by omega]
  | succ f ih =>
    intro y k M N hk hy h1 h2
    obtain ⟨y, rfl⟩ : ∃ w, y = w + 1 := ⟨y - 1, by omega⟩
    rw [b_X8_copy_147, iteLe (by omega) (by omega), if_neg (by omega), iteLe (by omega) (by omega)]
    by_cases q : c ≤ a
    · have ev : N 63 (a + k) = M 63 (a + k) := by rw [h2, if_pos q, if_neg (by omega)]
      rw [if_pos q, Option.bind_some, if_pos hK.mo, t1, Option.bind_some, addN, addN, if_pos (gA_N t2 (by omega) (by omega)), if_pos (gA_N t2 (by omega) (by omega)), nC (by omega), nC (by omega), ev, Option.bind_some, incN, Option.bind_some]
      refine ih y (k + 1) M _ (by omega) (by omega) (fun p hp => by rw [yS_q _ _ _ hp]; exact h1 p hp) (fun z => ?_)
      rw [if_pos q]
      by_cases e : z = c + k
      · rw [e, yS_at, if_pos (by omega), show c + k - c = k by omega]
      · rw [yS_oi _ _ _ _ e, h2, if_pos q]
        by_cases e2 : c ≤ z ∧ z < c + k
        · rw [if_pos e2, if_pos (by omega)]
        · rw [if_neg e2, if_neg (by omega)]
    · have ev : N 63 (a + (n - 1 - k)) = M 63 (a + (n - 1 - k)) := by rw [h2, if_neg q, if_neg (by omega)]
      have en : (nI n - (1 : Int32)) - nI k = nI (n - 1 - k) := by
        rw [show nI n - (1 : Int32) = nI (n - 1) from subN (b := 1) (by omega), subN (by omega)]
      rw [if_neg q, en, Option.bind_some, if_pos hK.mo, t1, Option.bind_some, addN, addN, if_pos (gA_N t2 (by omega) (by omega)), if_pos (gA_N t2 (by omega) (by omega)), nC (by omega), nC (by omega), ev, Option.bind_some, incN, Option.bind_some]
      refine ih y (k + 1) M _ (by omega) (by omega) (fun p hp => by rw [yS_q _ _ _ hp]; exact h1 p hp) (fun z => ?_)
      rw [if_neg q]
      by_cases e : z = c + (n - 1 - k)
      · rw [e, yS_at, if_pos (by omega), show c + (n - 1 - k) - c = n - 1 - k by omega]
      · rw [yS_oi _ _ _ _ e, h2, if_neg q]
        by_cases e2 : c + (n - k) ≤ z ∧ z < c + n
        · rw [if_pos e2, if_pos (by omega)]
        · rw [if_neg e2, if_neg (by omega)]
theorem a_copy {K : yK} {M : yM} {b ib : Bk} {im : Bool} {tn ts : Nat} {tx : Nat → Tx} {tp so : Nat → Int32} {sz : Nat → Nat} {ce : Nat → Nat → Int32} (h : IN K M b ib im tn ts tx tp so sz ce) (x1 x2 x3 x4 x5 : Int32) : AL K (fun M => b_X7_copy K M 0 x1 x2 x3 x4 x5) (fun M => b_X8_copy K M 50 x1 x2 x3 x4 x5) M := by
  obtain ⟨hK, -⟩ := h.cls
  obtain ⟨hs1, hs2, hs3, hs4, hs5⟩ := h.sh
  have no : ∀ r, b_X7_copy K M 0 x1 x2 x3 x4 x5 = some (r, M) → b_X8_copy K M 50 x1 x2 x3 x4 x5 = some (r, M) → AL K (fun M => b_X7_copy K M 0 x1 x2 x3 x4 x5) (fun M => b_X8_copy K M 50 x1 x2 x3 x4 x5) M := fun r e1 e2 => AL.no h e1 e2
  by_cases c1 : 0 ≤ x1 ∧ x1 ≤ 3
  rotate_left
  · refine no (-2) ?_ ?_
    · unfold b_X7_copy
      rw [c_isSheet, Option.bind_some, ifn c1]
    · unfold b_X8_copy
      rw [q_in, Option.bind_some, ifn c1]
  by_cases c3 : 0 ≤ x3 ∧ x3 ≤ 3
  rotate_left
  · refine no (-2) ?_ ?_
    · unfold b_X7_copy
      rw [c_isSheet, Option.bind_some, ifd c1, c_isSheet, Option.bind_some, ifn c3]
    · unfold b_X8_copy
      rw [q_in, Option.bind_some, ifd c1, q_in, Option.bind_some, ifn c3]
  obtain ⟨s, s1, rfl⟩ := in_N (e := 3) (by decide) c1
  obtain ⟨o, o1, rfl⟩ := in_N (e := 3) (by decide) c3
  have s4 : s < 4 := by omega
  have o4 : o < 4 := by omega
  have hms := hs5 s s4
  have hmo := hs5 o o4
  by_cases d1 : so s = -1
  · refine no (-11) ?_ ?_
    · unfold b_X7_copy
      rw [c_isSheet, Option.bind_some, ifd c1, c_isSheet, Option.bind_some, ifd c3, if_pos hK.o0, hK.r04, Option.bind_some, if_pos (hK.q40 s4).1, (hK.q40 s4).2, Option.bind_some, if_pos (hK.so s4).1, p_isMissing hK s4, Option.bind_some, hs1 s s4, ifd d1]
    · unfold b_X8_copy
      rw [q_in, Option.bind_some, ifd c1, q_in, Option.bind_some, ifd c3, if_pos hK.mo, hK.m24.1, Option.bind_some, if_pos (gA_N hK.m24.2 s4 (by omega)), nC (by omega), hs3 s s4, if_pos d1]
  by_cases d2 : so o = -1
  · refine no (-11) ?_ ?_
    · unfold b_X7_copy
      rw [c_isSheet, Option.bind_some, ifd c1, c_isSheet, Option.bind_some, ifd c3, if_pos hK.o0, hK.r04, Option.bind_some, if_pos (hK.q40 s4).1, (hK.q40 s4).2, Option.bind_some, if_pos (hK.so s4).1, p_isMissing hK s4, Option.bind_some, hs1 s s4, ifn d1, if_pos (hK.q40 o4).1, (hK.q40 o4).2, Option.bind_some, if_pos (hK.so o4).1, p_isMissing hK o4, Option.bind_some, hs1 o o4, ifd d2]
    · unfold b_X8_copy
      rw [q_in, Option.bind_some, ifd c1, q_in, Option.bind_some, ifd c3, if_pos hK.mo, hK.m24.1, Option.bind_some, if_pos (gA_N hK.m24.2 s4 (by omega)), nC (by omega), hs3 s s4, if_neg d1, if_pos (gA_N hK.m24.2 o4 (by omega)), nC (by omega), hs3 o o4, if_pos d2]
  by_cases d3 : so s = so o
  rotate_left
  · refine no (-13) ?_ ?_
    · unfold b_X7_copy
      rw [c_isSheet, Option.bind_some, ifd c1, c_isSheet, Option.bind_some, ifd c3, if_pos hK.o0, hK.r04, Option.bind_some, if_pos (hK.q40 s4).1, (hK.q40 s4).2, Option.bind_some, if_pos (hK.so s4).1, p_isMissing hK s4, Option.bind_some, hs1 s s4, ifn d1, if_pos (hK.q40 o4).1, (hK.q40 o4).2, Option.bind_some, if_pos (hK.so o4).1, p_isMissing hK o4, Option.bind_some, hs1 o o4, ifn d2, if_neg d3]
    · unfold b_X8_copy
      rw [q_in, Option.bind_some, ifd c1, q_in, Option.bind_some, ifd c3, if_pos hK.mo, hK.m24.1, Option.bind_some, if_pos (gA_N hK.m24.2 s4 (by omega)), nC (by omega), hs3 s s4, if_neg d1, if_pos (gA_N hK.m24.2 o4 (by omega)), nC (by omega), hs3 o o4, if_neg d2, if_neg d3]
  have r1 := p_hasRow2 (M := M) (x := x2) (n := x5) hK s4 (hs2 s s4).1 hms
  have r2 := p_hasRow2 (M := M) (x := x4) (n := x5) hK o4 (hs2 o o4).1 hmo
  -- both ways up to the rows
  have cl : ∀ r, (if decide (0 ≤ x5.toInt ∧ 0 ≤ x2.toInt ∧ x2.toInt + x5.toInt ≤ sz s) = true then (if decide (0 ≤ x5.toInt ∧ 0 ≤ x4.toInt ∧ x4.toInt + x5.toInt ≤ sz o) = true then (if gC K (42 + 2 * s) x2 (42 + 2 * o) x4 x5 = true then (some (x5, yCp M (42 + 2 * s) x2 (42 + 2 * o) x4 x5)) else none) else (some ((-12 : Int32), M))) else (some ((-12 : Int32), M))) = some r → b_X7_copy K M 0 (nI s) x2 (nI o) x4 x5 = some r := by
    intro r hr
    unfold b_X7_copy
    rw [c_isSheet, Option.bind_some, ifd c1, c_isSheet, Option.bind_some, ifd c3, if_pos hK.o0, hK.r04, Option.bind_some, if_pos (hK.q40 s4).1, (hK.q40 s4).2, Option.bind_some, if_pos (hK.so s4).1, p_isMissing hK s4, Option.bind_some, hs1 s s4, ifn d1, if_pos (hK.q40 o4).1, (hK.q40 o4).2, Option.bind_some, if_pos (hK.so o4).1, p_isMissing hK o4, Option.bind_some, hs1 o o4, ifn d2, if_pos d3, r1, Option.bind_some, r2, Option.bind_some, (hK.so s4).2.1, Option.bind_some, (hK.so o4).2.1, Option.bind_some, Option.bind_some]
    exact hr
  have ml : ∀ M' r, (∀ q, 50 ≤ q → q ≤ 70 → M' q = M q) → (if x5 < 0 then (some ((-12 : Int32), M')) else (if x2 < 0 then (some ((-12 : Int32), M')) else (if x4 < 0 then (some ((-12 : Int32), M')) else (if nI (sz s) < x2 then (some ((-12 : Int32), M')) else (if nI (sz o) < x4 then (some ((-12 : Int32), M')) else (if (nI (sz s) - x2) < x5 then (some ((-12 : Int32), M')) else (if x5 ≤ (nI (sz o) - x4) then (Option.bind (b_X8_copy_147 K 50 x5 (((40 : Int32) * nI s) + x2) (((40 : Int32) * nI o) + x4) 1000 M' ((0 : Int32))) fun j24 => (some (x5, j24))) else (some ((-12 : Int32), M'))))))))) = some r → b_X8_copy K M' 50 (nI s) x2 (nI o) x4 x5 = some r := by
    intro M' r hM hr
    have g1 := hM 61 (by decide) (by decide)
    have g2 := hM 62 (by decide) (by decide)
    unfold b_X8_copy
    rw [q_in, Option.bind_some, ifd c1, q_in, Option.bind_some, ifd c3, if_pos hK.mo, hK.m24.1, Option.bind_some, if_pos (gA_N hK.m24.2 s4 (by omega)), nC (by omega), g1, hs3 s s4, if_neg d1, if_pos (gA_N hK.m24.2 o4 (by omega)), nC (by omega), hs3 o o4, if_neg d2, if_pos d3, hK.m25.1, Option.bind_some, if_pos (gA_N hK.m25.2 s4 (by omega)), if_pos (gA_N hK.m25.2 o4 (by omega)), g2, (hs4 s s4).1, (hs4 o o4).1, Option.bind_some, Option.bind_some]
    exact hr
  have hx2 := Int32.toInt_lt x2
  have hx4 := Int32.toInt_lt x4
  have hx5 := Int32.toInt_lt x5
  by_cases C : 0 ≤ x5.toInt ∧ (0 ≤ x2.toInt ∧ x2.toInt + x5.toInt ≤ sz s) ∧ 0 ≤ x4.toInt ∧ x4.toInt + x5.toInt ≤ sz o
  · obtain ⟨C1, ⟨C2, C3⟩, C4, C5⟩ := C
    obtain ⟨n, hn, rfl⟩ := nI_of (x := x5) (by rw [i_lt, i_0]; omega)
    obtain ⟨i, hi, rfl⟩ := nI_of (x := x2) (by rw [i_lt, i_0]; omega)
    obtain ⟨j, hj, rfl⟩ := nI_of (x := x4) (by rw [i_lt, i_0]; omega)
    rw [nJ hn] at *
    rw [nJ hi] at *
    rw [nJ hj] at *
    have e1 : i + n ≤ sz s := by omega
    have e2 : j + n ≤ sz o := by omega
    have hgc : gC K (42 + 2 * s) (nI i) (42 + 2 * o) (nI j) (nI n) = true := by
      obtain ⟨-, -, a1, a2⟩ := hK.so s4
      obtain ⟨-, -, a3, a4⟩ := hK.so o4
      refine decide_eq_true ⟨⟨a1, by rw [a2]⟩, ⟨a3, by rw [a4]⟩, nI_pos (by omega), nI_pos (by omega), nI_pos (by omega), ?_, ?_⟩
      · rw [nC (by omega), nC (by omega), a2]; show i + n ≤ 40; omega
      · rw [nC (by omega), nC (by omega), a4]; show j + n ≤ 40; omega
    obtain ⟨M1, hM1⟩ : ∃ M1, M1 = yCp M (42 + 2 * s) (nI i) (42 + 2 * o) (nI j) (nI n) := ⟨_, rfl⟩
    have m1 : ∀ q, q ≠ 42 + 2 * o → M1 q = M q := fun q hq => by
      rw [hM1]
      funext z
      exact if_neg hq
    have m1o : ∀ z, M1 (42 + 2 * o) z = if j ≤ z ∧ z < j + n then M (42 + 2 * s) (i + (z - j)) else M (42 + 2 * o) z := fun z => by
      rw [hM1]
      show (if 42 + 2 * o = 42 + 2 * o then va_cpy (M (42 + 2 * s)) (M (42 + 2 * o)) (nI i).toNatClampNeg (nI j).toNatClampNeg (nI n).toNatClampNeg z else M (42 + 2 * o) z) = _
      rw [if_pos rfl, nC (by omega), nC (by omega), nC (by omega)]
      rfl
    obtain ⟨M2, q1, q2, q3⟩ := q_copy_loop (a := 40 * s + i) (c := 40 * o + j) (n := n) hK (by omega) (by omega) n 1000 0 M1 M1 (by omega) (by omega) (fun _ _ => rfl) (fun z => by
      by_cases q : 40 * o + j ≤ 40 * s + i
      · rw [if_pos q, if_neg (by omega)]
      · rw [if_neg q, if_neg (by omega)])
    refine ⟨nI n, M1, M2, cl _ ?_, ml M1 _ (fun q z1 z2 => m1 q (by omega)) ?_, cells_al h o4 (c' := fun z => if j ≤ z ∧ z < j + n then ce s (i + (z - j)) else ce o z) m1 q2 (fun z hz => ?_) (fun z hz => ?_) (fun y hy => ?_)⟩
    · rw [if_pos (decide_eq_true ⟨by omega, by omega, by omega⟩), if_pos (decide_eq_true ⟨by omega, by omega, by omega⟩), if_pos hgc, ← hM1]
    · have l1 : ¬ (nI (sz s) - nI i) < nI n := by rw [subN (by omega), ltN (by omega) (by omega)]; omega
      have l2 : nI n ≤ (nI (sz o) - nI j) := by rw [subN (by omega), leN (by omega) (by omega)]; omega
      rw [if_neg (nI_pos (by omega)), if_neg (nI_pos (by omega)), if_neg (nI_pos (by omega)), if_neg (show ¬ nI (sz s) < nI i by rw [ltN (by omega) (by omega)]; omega), if_neg (show ¬ nI (sz o) < nI j by rw [ltN (by omega) (by omega)]; omega), if_neg l1, if_pos l2, c40, c40, show b_X8_copy_147 K 50 (nI n) (nI (40 * s + i)) (nI (40 * o + j)) 1000 M1 0 = some M2 from q1, Option.bind_some]
    · rw [m1o]
      by_cases e : j ≤ z ∧ z < j + n
      · rw [if_pos e, if_pos e]; exact (hs2 s s4).2 _ (by omega)
      · rw [if_neg e, if_neg e]; exact (hs2 o o4).2 _ hz
    · rw [q3, m1 63 (by omega)]
      unfold cpF
      by_cases e : j ≤ z ∧ z < j + n
      · rw [if_pos e, if_pos (by omega), show 40 * s + i + (40 * o + z - (40 * o + j)) = 40 * s + (i + (z - j)) by omega]; exact (hs4 s s4).2 _ (by omega)
      · rw [if_neg e, if_neg (by omega)]; exact (hs4 o o4).2 _ hz
    · rw [q3]
      unfold cpF
      rw [if_neg (fun z => hy (y - 40 * o) (by omega) (by omega))]
  · refine no (-12) (cl _ ?_) (ml M _ (fun _ _ _ => rfl) ?_)
    · by_cases z1 : 0 ≤ x5.toInt ∧ 0 ≤ x2.toInt ∧ x2.toInt + x5.toInt ≤ sz s
      · rw [if_pos (decide_eq_true z1), if_neg (fun y => C ⟨z1.1, z1.2, (of_decide_eq_true y).2⟩)]
      · rw [if_neg (fun y => z1 (of_decide_eq_true y))]
    · by_cases y1 : x5 < 0
      · rw [if_pos y1]
      by_cases y2 : x2 < 0
      · rw [if_neg y1, if_pos y2]
      by_cases y3 : x4 < 0
      · rw [if_neg y1, if_neg y2, if_pos y3]
      rw [if_neg y1, if_neg y2, if_neg y3]
      rw [i_lt, i_0] at y1 y2 y3
      by_cases y4 : nI (sz s) < x2
      · rw [if_pos y4]
      by_cases y5 : nI (sz o) < x4
      · rw [if_neg y4, if_pos y5]
      rw [if_neg y4, if_neg y5]
      rw [i_lt, nJ (by omega)] at y4 y5
      have e1 : (nI (sz s) - x2).toInt = (sz s : Int) - x2.toInt := by rw [Int32.toInt_sub, nJ (by omega), Int.bmod_eq_of_le (by omega) (by omega)]
      have e2 : (nI (sz o) - x4).toInt = (sz o : Int) - x4.toInt := by rw [Int32.toInt_sub, nJ (by omega), Int.bmod_eq_of_le (by omega) (by omega)]
      by_cases y6 : (nI (sz s) - x2) < x5
      · rw [if_pos y6]
      rw [if_neg y6, if_neg]
      rw [i_lt, e1] at y6
      rw [i_le, e2]
      omega
