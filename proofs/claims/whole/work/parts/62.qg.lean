/-! image, back -/
theorem five {K : yK} (hK : KSh K) : gA K 60 (0 : Int32) = true ∧ gA K 60 (1 : Int32) = true ∧ gA K 60 (2 : Int32) = true ∧ gA K 60 (3 : Int32) = true ∧ gA K 60 (4 : Int32) = true := by
  have a : isAr K 60 5 := hK.ar (by decide) rfl
  exact ⟨gA_N (i := 0) a (by decide) (by decide), gA_N (i := 1) a (by decide) (by decide), gA_N (i := 2) a (by decide) (by decide), gA_N (i := 3) a (by decide) (by decide), gA_N (i := 4) a (by decide) (by decide)⟩
theorem a_back {K : yK} {M : yM} {b ib : Bk} {im : Bool} {tn ts : Nat} {tx : Nat → Tx} {tp so : Nat → Int32} {sz : Nat → Nat} {ce : Nat → Nat → Int32} (h : IN K M b ib im tn ts tx tp so sz ce) : AL K (fun M => b_X7_back K M 0) (fun M => b_X8_back K M 50) M := by
  obtain ⟨hK, hW, hd, hl, hT, hx, hB, hS, hXs, hX⟩ := h.cls
  have e8 := h.2.1.2.2.1.2.2
  have e17 := h.2.2.2.2.1.2.2
  cases im with
  | false =>
    refine AL.no (r := -3) h ?_ ?_
    · show b_X7_back K M 0 = _
      unfold b_X7_back
      rw [if_pos hK.o0, e8, if_pos (show imI false = 0 from rfl)]
    · show b_X8_back K M 50 = _
      unfold b_X8_back
      rw [if_pos hK.mo, e17, if_pos (show imI false = 0 from rfl)]
  | true =>
    obtain ⟨iW, id1, il, iE, ik⟩ := h.1.2.2.2.2.1 rfl
    obtain ⟨iB, iS⟩ := h.2.1.2.1 rfl
    have i12 := iW.1.1
    have i6 := iW.1.2.2.1
    obtain ⟨M1, p1, p2, p3, -, -, p6⟩ := p_takeFrom hK iB7 iB16 (by decide) iW.1 iB iS
    have fb : Fb M M1 := fun q z1 z2 z3 z4 => p6 q (by omega)
    have hm1 := h.2.2.c fb.ms
    obtain ⟨⟨m0, -, -, -⟩, h2, ⟨-, -, m17⟩, -, -, -⟩ := id hm1
    obtain ⟨⟨r18, r19, r20⟩, rw1, rd1, r0, r1, r2, r3, r4⟩ := h2 rfl
    obtain ⟨N, hN⟩ : ∃ N, N = yS (yS (yS M1 50 0 (nI (bE ib))) 50 4 (nI (bDn ib))) 50 16 (nI (bLw ib)) := ⟨_, rfl⟩
    have no : ∀ q, q ≠ 50 → N q = M1 q := fun q hq => by rw [hN, yS_q _ _ _ hq, yS_q _ _ _ hq, yS_q _ _ _ hq]
    obtain ⟨N2, a1, a2, -, a4⟩ := q_back_36 hK 36 1000 0 N (by omega) (by omega)
    obtain ⟨N3, c1, c2, -, c4⟩ := q_back_62 hK 6 1000 0 N2 (by omega) (by omega)
    have n50 : N3 50 = N 50 := by rw [c4 50 (by decide), a4 50 (by decide)]
    have n60 : ∀ i, N3 60 i = M1 60 i := fun i => by rw [c4 60 (by decide), a4 60 (by decide), no 60 (by decide)]
    have n53 : ∀ j, j < 36 → N3 53 j = M1 58 j := fun j hj => by rw [c4 53 (by decide), a2 j (by omega) hj, no 58 (by decide)]
    have n54 : ∀ j, j < 6 → N3 54 j = M1 59 j := fun j hj => by rw [c2 j (by omega) hj, a4 59 (by decide), no 59 (by decide)]
    have nq : ∀ q, q ≠ 50 → q ≠ 53 → q ≠ 54 → N3 q = M1 q := fun q z1 z2 z3 => by rw [c4 q z3, a4 q z2, no q z1]
    obtain ⟨P, hP⟩ : ∃ P, P = yS (yS (yS (yS (yS N3 50 6 (nI (bPg ib))) 50 7 (nI (bDy ib))) 50 8 (bBm ib)) 50 9 (bSk ib)) 50 10 (bCa ib) := ⟨_, rfl⟩
    have po : ∀ q, q ≠ 50 → P q = N3 q := fun q hq => by rw [hP, yS_q _ _ _ hq, yS_q _ _ _ hq, yS_q _ _ _ hq, yS_q _ _ _ hq, yS_q _ _ _ hq]
    have pi : ∀ i, i ≠ 6 → i ≠ 7 → i ≠ 8 → i ≠ 9 → i ≠ 10 → P 50 i = N 50 i := fun i z6 z7 z8 z9 z10 => by rw [hP, yS_oi _ _ _ _ z10, yS_oi _ _ _ _ z9, yS_oi _ _ _ _ z8, yS_oi _ _ _ _ z7, yS_oi _ _ _ _ z6, n50]
    have p50 : P 50 0 = nI (bE ib) := by rw [pi 0 (by decide) (by decide) (by decide) (by decide) (by decide), hN, yS_oi _ _ _ _ (by decide), yS_oi _ _ _ _ (by decide), yS_at]
    have hmr : MR P ib := by
      refine ⟨⟨p50, ?_, ?_, ?_, ?_, ?_, ?_, ?_⟩, fun w hw => ?_, fun d hd => ?_⟩
      · rw [pi 4 (by decide) (by decide) (by decide) (by decide) (by decide), hN, yS_oi _ _ _ _ (by decide), yS_at]
      · rw [hP, yS_oi _ _ _ _ (by decide), yS_oi _ _ _ _ (by decide), yS_oi _ _ _ _ (by decide), yS_oi _ _ _ _ (by decide), yS_at]
      · rw [hP, yS_oi _ _ _ _ (by decide), yS_oi _ _ _ _ (by decide), yS_oi _ _ _ _ (by decide), yS_at]
      · rw [hP, yS_oi _ _ _ _ (by decide), yS_oi _ _ _ _ (by decide), yS_at]
      · rw [hP, yS_oi _ _ _ _ (by decide), yS_at]
      · rw [hP, yS_at]
      · rw [pi 16 (by decide) (by decide) (by decide) (by decide) (by decide), hN, yS_at]
      · obtain ⟨g1, g2, -, -, -⟩ := m0.2.1 w (by omega)
        obtain ⟨k1, k2⟩ := ik w hw
        obtain ⟨v1, v2, v3⟩ := rw1 w hw
        rw [po 51 (by decide), po 52 (by decide), po 53 (by decide), nq 51 (by decide) (by decide) (by decide), nq 52 (by decide) (by decide) (by decide), n53 _ (by omega), n53 _ (by omega), n53 _ (by omega), g1, g2, v1, v2, v3, k1, k2]
        exact ⟨rfl, rfl, rfl, rfl, rfl⟩
      · rw [po 54 (by decide), n54 d (by omega)]
        exact rd1 d hd
    have hms : Ms M1 P := by
      refine ⟨fun i hi => ?_, fun q hq => ?_⟩
      · rw [pi i (by omega) (by omega) (by omega) (by omega) (by omega), hN, yS_oi _ _ _ _ (by omega), yS_oi _ _ _ _ (by omega), yS_oi _ _ _ _ (by omega)]
      · rw [po q (by omega), nq q (by omega) (by omega) (by omega)]
    obtain ⟨f0, f1, f2, f3, f4⟩ := five hK
    refine AL.bk (b' := ib) (r := nI (bE ib)) h ⟨⟨iW, id1, il⟩, fun _ => ⟨Nat.le_refl _, fun _ _ => ⟨rfl, rfl⟩⟩⟩ (M1 := M1) p2 p3 fb ?_ (M2 := P) ?_ hms hmr
    · show b_X7_back K M 0 = _
      unfold b_X7_back
      rw [if_pos hK.o0, e8, if_neg (show ¬ imI true = 0 by decide), hK.r00, Option.bind_some, hK.r01, Option.bind_some, if_pos hK.o7, p1, Option.bind_some, p2.1.1]
    · show b_X8_back K M1 50 = _
      unfold b_X8_back
      rw [if_pos hK.mo, m17, if_neg (show ¬ imI true = 0 by decide), r18, Option.bind_some, yS_oi _ _ _ _ (show (19 : Nat) ≠ 0 by decide), r19, Option.bind_some, yS_oi _ _ _ _ (show (20 : Nat) ≠ 4 by decide), yS_oi _ _ _ _ (show (20 : Nat) ≠ 0 by decide), r20, Option.bind_some, ← hN, show b_X8_back_36 K 50 1000 N 0 = some N2 from a1, Option.bind_some, show b_X8_back_62 K 50 1000 N2 0 = some N3 from c1, Option.bind_some, hK.mr (f := 23) rfl, Option.bind_some, if_pos f0, show ((0 : Int32)).toNatClampNeg = 0 from rfl, show ((1 : Int32)).toNatClampNeg = 1 from rfl, show ((2 : Int32)).toNatClampNeg = 2 from rfl, show ((3 : Int32)).toNatClampNeg = 3 from rfl, show ((4 : Int32)).toNatClampNeg = 4 from rfl]
      rw [n60, r0, Option.bind_some, if_pos f1, yS_op _ _ _ _ (show (60 : Nat) ≠ 50 by decide), n60, r1, Option.bind_some, if_pos f2, yS_op _ _ _ _ (show (60 : Nat) ≠ 50 by decide), yS_op _ _ _ _ (show (60 : Nat) ≠ 50 by decide), n60, r2, Option.bind_some, if_pos f3, yS_op _ _ _ _ (show (60 : Nat) ≠ 50 by decide), yS_op _ _ _ _ (show (60 : Nat) ≠ 50 by decide), yS_op _ _ _ _ (show (60 : Nat) ≠ 50 by decide), n60, r3, Option.bind_some, if_pos f4, yS_op _ _ _ _ (show (60 : Nat) ≠ 50 by decide), yS_op _ _ _ _ (show (60 : Nat) ≠ 50 by decide), yS_op _ _ _ _ (show (60 : Nat) ≠ 50 by decide), yS_op _ _ _ _ (show (60 : Nat) ≠ 50 by decide), n60, r4, Option.bind_some, ← hP, p50]
theorem a_image {K : yK} {M : yM} {b ib : Bk} {im : Bool} {tn ts : Nat} {tx : Nat → Tx} {tp so : Nat → Int32} {sz : Nat → Nat} {ce : Nat → Nat → Int32} (h : IN K M b ib im tn ts tx tp so sz ce) : AL K (fun M => b_X7_image K M 0) (fun M => b_X8_image K M 50) M := by
  obtain ⟨hK, hW, hd, hl, hT, hx, hB, hS, hXs, hX⟩ := h.cls
  have h12 := hW.1.1
  have h6 := hW.1.2.2.1
  obtain ⟨M0, p1, p2, p3, -, -, p6⟩ := p_takeFrom hK iB16 iB7 (by decide) hW.1 hB hS
  obtain ⟨M1, hM1⟩ : ∃ M1, M1 = yS M0 0 8 1 := ⟨_, rfl⟩
  have o1 : ∀ q, q ≠ 0 → (q < 16 ∨ 24 < q) → M1 q = M q := fun q z1 z2 => by rw [hM1, yS_q _ _ _ z1, p6 q z2]
  have o16 : ∀ q, 16 ≤ q → q ≤ 24 → M1 q = M0 q := fun q z1 z2 => by rw [hM1, yS_q _ _ _ (by omega)]
  have hm1 := h.2.2.c (M' := M1) (fun q z1 z2 => o1 q (by omega) (by omega))
  obtain ⟨⟨m0, m49, m50, mt⟩, -, ⟨m12, m15, -⟩, mtp, mwd, msh⟩ := id hm1
  obtain ⟨⟨e0, e4, e6, e7, e8, e9, e10, e16⟩, ev, ed⟩ := id m0
  obtain ⟨N, hN⟩ : ∃ N, N = yS (yS (yS (yS M1 50 17 1) 50 18 (nI (bE b))) 50 19 (nI (bDn b))) 50 20 (nI (bLw b)) := ⟨_, rfl⟩
  have no : ∀ q, q ≠ 50 → N q = M1 q := fun q hq => by rw [hN, yS_q _ _ _ hq, yS_q _ _ _ hq, yS_q _ _ _ hq, yS_q _ _ _ hq]
  have ni : ∀ i, i ≠ 17 → i ≠ 18 → i ≠ 19 → i ≠ 20 → N 50 i = M1 50 i := fun i z1 z2 z3 z4 => by rw [hN, yS_oi _ _ _ _ z4, yS_oi _ _ _ _ z3, yS_oi _ _ _ _ z2, yS_oi _ _ _ _ z1]
  obtain ⟨N2, a1, a2, -, a4⟩ := q_image_31 hK 36 1000 0 N (by omega) (by omega)
  obtain ⟨N3, c1, c2, -, c4⟩ := q_image_57 hK 6 1000 0 N2 (by omega) (by omega)
  have n50 : N3 50 = N 50 := by rw [c4 50 (by decide), a4 50 (by decide)]
  have nq : ∀ q, q ≠ 50 → q ≠ 58 → q ≠ 59 → N3 q = M1 q := fun q z1 z2 z3 => by rw [c4 q z3, a4 q z2, no q z1]
  have n58 : ∀ j, j < 36 → N3 58 j = M1 53 j := fun j hj => by rw [c4 58 (by decide), a2 j (by omega) hj, no 53 (by decide)]
  have n59 : ∀ j, j < 6 → N3 59 j = M1 54 j := fun j hj => by rw [c2 j (by omega) hj, a4 54 (by decide), no 54 (by decide)]
  obtain ⟨P, hP⟩ : ∃ P, P = yS (yS (yS (yS (yS N3 60 0 (nI (bPg b))) 60 1 (nI (bDy b))) 60 2 (bBm b)) 60 3 (bSk b)) 60 4 (bCa b) := ⟨_, rfl⟩
  have po : ∀ q, q ≠ 60 → P q = N3 q := fun q hq => by rw [hP, yS_q _ _ _ hq, yS_q _ _ _ hq, yS_q _ _ _ hq, yS_q _ _ _ hq, yS_q _ _ _ hq]
  have pq : ∀ q, q ≠ 50 → q ≠ 58 → q ≠ 59 → q ≠ 60 → P q = M1 q := fun q z1 z2 z3 z4 => by rw [po q z4, nq q z1 z2 z3]
  have pi : ∀ i, i ≠ 17 → i ≠ 18 → i ≠ 19 → i ≠ 20 → P 50 i = M1 50 i := fun i z1 z2 z3 z4 => by rw [po 50 (by decide), n50, ni i z1 z2 z3 z4]
  have p17 : P 50 17 = 1 ∧ P 50 18 = nI (bE b) ∧ P 50 19 = nI (bDn b) ∧ P 50 20 = nI (bLw b) := by
    rw [po 50 (by decide), n50, hN]
    refine ⟨?_, ?_, ?_, ?_⟩
    · rw [yS_oi _ _ _ _ (by decide), yS_oi _ _ _ _ (by decide), yS_oi _ _ _ _ (by decide), yS_at]
    · rw [yS_oi _ _ _ _ (by decide), yS_oi _ _ _ _ (by decide), yS_at]
    · rw [yS_oi _ _ _ _ (by decide), yS_at]
    · rw [yS_at]
  have hir : IR P b := by
    refine ⟨p17.2, fun w hw => ?_, fun d hd => ?_, ?_, ?_, ?_, ?_, ?_⟩
    · rw [po 58 (by decide), n58 _ (by omega), n58 _ (by omega), n58 _ (by omega)]
      exact (ev w hw).2.2
    · rw [po 59 (by decide), n59 _ (by omega)]
      exact ed d hd
    · rw [hP, yS_oi _ _ _ _ (by decide), yS_oi _ _ _ _ (by decide), yS_oi _ _ _ _ (by decide), yS_oi _ _ _ _ (by decide), yS_at]
    · rw [hP, yS_oi _ _ _ _ (by decide), yS_oi _ _ _ _ (by decide), yS_oi _ _ _ _ (by decide), yS_at]
    · rw [hP, yS_oi _ _ _ _ (by decide), yS_oi _ _ _ _ (by decide), yS_at]
    · rw [hP, yS_oi _ _ _ _ (by decide), yS_at]
    · rw [hP, yS_at]
  obtain ⟨f0, f1, f2, f3, f4⟩ := five hK
  obtain ⟨⟨w1, w2, w3, w4, w5, w6⟩, ⟨q1, q2, ⟨q31, q32, q33⟩, q4, q5, q6⟩, -⟩ := id h
  have kk : ∀ q, (q < 50 ∨ 70 < q) → P q = M1 q := fun q hq => pq q (by omega) (by omega) (by omega) (by omega)
  refine ⟨nI (bE b), M1, P, ?_, ?_, b, b, true, tn, ts, tx, tp, so, sz, ce, ⟨w1, w2, w3, w4, fun _ => ⟨hW, hd, hl, Nat.le_refl _, fun _ _ => ⟨rfl, rfl⟩⟩, w6⟩, ⟨⟨?_, ?_⟩, fun _ => ⟨?_, ?_⟩, ⟨?_, ?_, ?_⟩, fun i hi => ?_, fun l hl => ?_, fun s hs => ?_⟩, ⟨?_, ?_, ?_, ?_⟩, fun _ => hir, ⟨?_, ?_, ?_⟩, fun i hi => ?_, fun i hi => ?_, fun s hs => ?_⟩
  · show b_X7_image K M 0 = _
    unfold b_X7_image
    rw [if_pos hK.o0, hK.r01, Option.bind_some, hK.r00, Option.bind_some, if_pos hK.o16, p1, Option.bind_some, Option.bind_some, if_pos hK.o7, yS_op _ _ _ _ (show (7 : Nat) ≠ 0 by decide), p6 7 (by omega), hB.1.1, ← hM1]
  · show b_X8_image K M1 50 = _
    unfold b_X8_image
    rw [if_pos hK.mo, Option.bind_some, yS_oi _ _ _ _ (show (0 : Nat) ≠ 17 by decide), e0, Option.bind_some, yS_oi _ _ _ _ (show (4 : Nat) ≠ 18 by decide), yS_oi _ _ _ _ (show (4 : Nat) ≠ 17 by decide), e4, Option.bind_some, yS_oi _ _ _ _ (show (16 : Nat) ≠ 19 by decide), yS_oi _ _ _ _ (show (16 : Nat) ≠ 18 by decide), yS_oi _ _ _ _ (show (16 : Nat) ≠ 17 by decide), e16, Option.bind_some, ← hN, show b_X8_image_31 K 50 1000 N 0 = some N2 from a1, Option.bind_some, show b_X8_image_57 K 50 1000 N2 0 = some N3 from c1, Option.bind_some, hK.mr (f := 23) rfl, Option.bind_some, if_pos f0, show ((0 : Int32)).toNatClampNeg = 0 from rfl, show ((1 : Int32)).toNatClampNeg = 1 from rfl, show ((2 : Int32)).toNatClampNeg = 2 from rfl, show ((3 : Int32)).toNatClampNeg = 3 from rfl, show ((4 : Int32)).toNatClampNeg = 4 from rfl]
    have n6 : ∀ i, i ≠ 17 → i ≠ 18 → i ≠ 19 → i ≠ 20 → N3 50 i = M1 50 i := fun i z1 z2 z3 z4 => by rw [n50, ni i z1 z2 z3 z4]
    have y5 : ∀ (Q : yM) (i : Nat) (v : Int32) (j : Nat), yS Q 60 i v 50 j = Q 50 j := fun Q i v j => yS_op _ _ _ _ (by decide) _
    rw [n6 6 (by decide) (by decide) (by decide) (by decide), e6, Option.bind_some, if_pos f1, y5, n6 7 (by decide) (by decide) (by decide) (by decide), e7, Option.bind_some, if_pos f2, y5, y5, n6 8 (by decide) (by decide) (by decide) (by decide), e8, Option.bind_some, if_pos f3, y5, y5, y5, n6 9 (by decide) (by decide) (by decide) (by decide), e9, Option.bind_some, if_pos f4, y5, y5, y5, y5, n6 10 (by decide) (by decide) (by decide) (by decide), e10, Option.bind_some, ← hP, pi 0 (by decide) (by decide) (by decide) (by decide), e0]
  · exact hB.cg (fun q z1 z2 => by rw [kk q (by omega), o1 q (by omega) (by omega)])
  · exact hS.cg (fun q z1 z2 => by rw [kk q (by omega), o1 q (by omega) (by omega)])
  · exact p2.cg (fun q z1 z2 => by rw [kk q (by omega), o16 q (by omega) (by omega)])
  · exact p3.cg (fun q z1 z2 => by rw [kk q (by omega), o16 q (by omega) (by omega)])
  · rw [kk 0 (by omega), hM1, yS_oi _ _ _ _ (by decide), p6 0 (by omega)]; exact q31
  · rw [kk 0 (by omega), hM1, yS_oi _ _ _ _ (by decide), p6 0 (by omega)]; exact q32
  · rw [kk 0 (by omega), hM1, yS_at]; rfl
  · rw [kk 49 (by omega), o1 49 (by omega) (by omega)]; exact q4 i hi
  · exact (q5 l hl).cg (fun q z => by rw [kk q (by omega), o1 q (by omega) (by omega)])
  · rw [kk (41 + 2 * s) (by omega), kk (42 + 2 * s) (by omega), o1 (41 + 2 * s) (by omega) (by omega), o1 (42 + 2 * s) (by omega) (by omega)]; exact q6 s hs
  · refine ⟨?_, ?_, ?_⟩
    · rw [pi 0 (by decide) (by decide) (by decide) (by decide), pi 4 (by decide) (by decide) (by decide) (by decide), pi 6 (by decide) (by decide) (by decide) (by decide), pi 7 (by decide) (by decide) (by decide) (by decide), pi 8 (by decide) (by decide) (by decide) (by decide), pi 9 (by decide) (by decide) (by decide) (by decide), pi 10 (by decide) (by decide) (by decide) (by decide), pi 16 (by decide) (by decide) (by decide) (by decide)]
      exact m0.1
    · rw [pq 51 (by decide) (by decide) (by decide) (by decide), pq 52 (by decide) (by decide) (by decide) (by decide), pq 53 (by decide) (by decide) (by decide) (by decide)]
      exact ev
    · rw [pq 54 (by decide) (by decide) (by decide) (by decide)]
      exact ed
  · rw [pi 49 (by decide) (by decide) (by decide) (by decide)]; exact m49
  · rw [pi 50 (by decide) (by decide) (by decide) (by decide)]; exact m50
  · exact fun l hl => (mt l hl).cg (pq 57 (by decide) (by decide) (by decide) (by decide)) (pq 56 (by decide) (by decide) (by decide) (by decide))
  · rw [pi 12 (by decide) (by decide) (by decide) (by decide)]; exact m12
  · rw [pi 15 (by decide) (by decide) (by decide) (by decide)]; exact m15
  · rw [p17.1]; rfl
  · rw [pq 55 (by decide) (by decide) (by decide) (by decide)]; exact mtp i hi
  · rw [pq 65 (by decide) (by decide) (by decide) (by decide)]; exact mwd i hi
  · rw [pq 61 (by decide) (by decide) (by decide) (by decide), pq 62 (by decide) (by decide) (by decide) (by decide), pq 63 (by decide) (by decide) (by decide) (by decide)]; exact msh s hs
