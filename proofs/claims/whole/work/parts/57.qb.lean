/-! taken, asks, now, done -/
theorem q_isUnder {K : yK} {M : yM} {k o : Nat} (hk : k < 6) (ho : o < 6) : b_X8_isUnder K M (nI k) (nI o) = some (isAb k o) := by
  rcases (show k = 0 ∨ k = 1 ∨ k = 2 ∨ k = 3 ∨ k = 4 ∨ k = 5 by omega) with rfl | rfl | rfl | rfl | rfl | rfl <;>
  rcases (show o = 0 ∨ o = 1 ∨ o = 2 ∨ o = 3 ∨ o = 4 ∨ o = 5 by omega) with rfl | rfl | rfl | rfl | rfl | rfl <;> rfl
theorem isAb_6 {k : Nat} (hk : k < 6) : isAb k 6 = false := by
  rcases (show k = 0 ∨ k = 1 ∨ k = 2 ∨ k = 3 ∨ k = 4 ∨ k = 5 by omega) with rfl | rfl | rfl | rfl | rfl | rfl <;> rfl
theorem le_of {x : Int32} {e : Nat} (h0 : ¬ x < 0) (he : e < 2147483648) : (∃ j, j ≤ e ∧ x = nI j) ∨ (¬ x ≤ nI e ∧ nI e < x ∧ ¬ x < nI e) := by
  obtain ⟨j, hj, rfl⟩ := nI_of h0
  rw [leN hj he, ltN he hj, ltN hj he]
  rcases Nat.lt_or_ge e j with h | h
  · exact .inr ⟨by omega, by omega, by omega⟩
  · exact .inl ⟨j, h, rfl⟩
theorem not_in {x lo hi : Int32} (h : x < lo) : ¬ (lo ≤ x ∧ x ≤ hi) := fun z => by
  have := z.1
  rw [i_le] at this
  rw [i_lt] at h
  omega
theorem not_in2 {x lo hi : Int32} (h : hi < x) : ¬ (lo ≤ x ∧ x ≤ hi) := fun z => by
  have := z.2
  rw [i_le] at this
  rw [i_lt] at h
  omega
theorem a_taken {K : yK} {M : yM} {b ib : Bk} {im : Bool} {tn ts : Nat} {tx : Nat → Tx} {tp so : Nat → Int32} {sz : Nat → Nat} {ce : Nat → Nat → Int32} (h : IN K M b ib im tn ts tx tp so sz ce) (x1 x2 : Int32) : AP (b_X7_taken K M 0 x1 x2) (b_X8_taken K M 50 x1 x2) := by
  obtain ⟨hK, hW, hd, hl, hT, hx, hB, hS, hXs, hX⟩ := h.cls
  have h12 := hW.1.1
  have h6 := hW.1.2.2.1
  have hQ := h.2.2.1.1
  unfold b_X7_taken b_X8_taken
  rw [q_in, Option.bind_some]
  by_cases z2 : x2 < 0
  · rw [if_pos z2, ifn (not_in z2)]; exact ⟨_, rfl, rfl⟩
  rw [if_neg z2]
  rcases le_of (e := 6) z2 (by decide) with ⟨o, ho, rfl⟩ | ⟨y1, y2, y3⟩
  rotate_left
  · rw [if_neg (show ¬ x2 ≤ (6 : Int32) from y1), ifn (not_in2 (hi := 6) y2)]; exact ⟨_, rfl, rfl⟩
  have o6 : nI o ≤ (6 : Int32) := by rw [show (6 : Int32) = nI 6 from rfl, leN (by omega) (by omega)]; exact ho
  rw [if_pos o6, ifd ⟨ge0 (by omega), o6⟩, q_in, Option.bind_some]
  by_cases z1 : x1 < 0
  · rw [if_pos z1, ifn (not_in z1)]; exact ⟨_, rfl, rfl⟩
  rw [if_neg z1]
  obtain ⟨i, hi, rfl⟩ := nI_of z1
  have e18 : ((18 : Int32) = nI 18) := rfl
  have e12 : ((12 : Int32) = nI 12) := rfl
  rw [e18, iteLt hi (by omega)]
  by_cases c : i < 18
  rotate_left
  · rw [if_neg c, ifn (fun z => by have := z.2; rw [show (17 : Int32) = nI 17 from rfl, leN hi (by omega)] at this; omega)]; exact ⟨_, rfl, rfl⟩
  rw [if_pos c, ifd ⟨ge0 (by omega), by rw [show (17 : Int32) = nI 17 from rfl, leN hi (by omega)]; omega⟩]
  by_cases d : i < 12
  · have d2 : nI i < (12 : Int32) := by rw [e12, ltN hi (by omega)]; exact d
    rw [if_pos d2, if_pos d2, Option.bind_some, if_neg Bool.false_ne_true, if_pos hK.o0, hK.r00, Option.bind_some, if_pos hK.o7, p_has hK iB7 hB.1.1 h12, Option.bind_some, if_pos hK.mo, hQ.1.1, iteLt (by omega) (by omega)]
    by_cases q : i < bE b
    · obtain ⟨v1, -⟩ := hW.1.2.1 i q
      rw [if_pos (isN_at q (by omega)), if_pos q, if_neg Bool.false_ne_true, hK.br iB7 (f := 0) (by omega), Option.bind_some, if_pos (gA_N (hK.ba iB7 (f := 0) (by omega)) (by omega) (by omega)), nC (by omega), show M (7 + 1 + 0) i = nI (bK b i) from (hB.2.1 i q).1, p_isA v1 (by omega), Option.bind_some]
      rw [show (6 : Int32) = nI 6 from rfl, iteLe (by omega) (by omega)]
      by_cases r : 6 ≤ o
      · obtain rfl : o = 6 := by omega
        rw [if_pos r, isAb_6 v1]
        exact ⟨_, rfl, rfl⟩
      · rw [if_neg r, hK.mr (f := 1) rfl, Option.bind_some, if_pos (gA_N (hK.ar (p := 51) (n := 12) (by decide) rfl) (by omega) (by omega)), (hQ.2.1 i q).1, q_isUnder v1 (by omega), Option.bind_some]
        cases isAb (bK b i) o
        · exact ⟨_, rfl, rfl⟩
        · exact ⟨_, rfl, rfl⟩
    · rw [isN_nI (by omega), dcF q, if_neg Bool.false_ne_true, if_neg q]
      exact ⟨_, rfl, rfl⟩
  · have d2 : ¬ nI i < (12 : Int32) := by rw [e12, ltN hi (by omega)]; exact d
    have e3 : nI i - (12 : Int32) = nI (i - 12) := subN (b := 12) (by omega)
    rw [if_neg d2, if_neg d2, Option.bind_some, if_pos rfl, if_pos hK.o0, hK.r00, Option.bind_some, if_pos hK.o7, e3, p_hasDeed hK iB7 hB.1.2.1 h6, Option.bind_some, if_pos hK.mo, hQ.1.2.1, iteLt (by omega) (by omega)]
    by_cases q : i - 12 < bDn b
    · rw [if_pos (isN_at q (by omega)), if_pos q, if_pos rfl]
      by_cases r : nI o = (6 : Int32)
      · rw [if_pos r, if_pos r, hK.br iB7 (f := 7) (by omega), Option.bind_some, if_pos (gA_N (hK.b8 iB7) (by omega) (by omega)), nC (by omega), hK.mr (f := 5) rfl, Option.bind_some, if_pos (gA_N (hK.ar (p := 54) (n := 6) (by decide) rfl) (by omega) (by omega)), show M (7 + 1 + 7) (i - 12) = bDs b (i - 12) from hB.2.2 _ q, hQ.2.2 _ q]
        exact ⟨_, rfl, rfl⟩
      · rw [if_neg r, if_neg r]
        exact ⟨_, rfl, rfl⟩
    · rw [isN_nI (by omega), dcF q, if_neg Bool.false_ne_true, if_neg q]
      exact ⟨_, rfl, rfl⟩
theorem Ms.w {M M' : yM} (h : ∀ q, q ≠ 67 → q ≠ 68 → M' q = M q) : Ms M M' := ⟨fun i _ => by rw [h 50 (by decide) (by decide)], fun q z => h q (by omega) (by omega)⟩
theorem Fc.w {M M' : yM} (h : ∀ q, q ≠ 5 → q ≠ 6 → M' q = M q) : Fc M M' := fun q z1 z2 _ => h q z1 z2
theorem MR.w {M M' : yM} {b : Bk} (hB : MR M b) (h : ∀ q, q ≠ 67 → q ≠ 68 → M' q = M q) : MR M' b := hB.cg (fun q z1 z2 => h q (by omega) (by omega))
theorem a_asks {K : yK} {M : yM} {b ib : Bk} {im : Bool} {tn ts : Nat} {tx : Nat → Tx} {tp so : Nat → Int32} {sz : Nat → Nat} {ce : Nat → Nat → Int32} (h : IN K M b ib im tn ts tx tp so sz ce) (x1 x2 x3 x4 : Int32) : AL K (fun M => b_X7_asks K M 0 x1 x2 x3 x4) (fun M => b_X8_asks K M 50 x1 x2 x3 x4) M := by
  obtain ⟨hK, hW, hd, hl, hT, hx, hB, hS, hXs, hX⟩ := h.cls
  have h12 := hW.1.1
  have hQ := h.2.2.1
  have c_has := p_has hK iB7 hB.1.1 h12 x2
  have m_has := q_isEntry hK hQ.1.1.1 h12 x2
  by_cases C : (0 ≤ x1 ∧ x1 ≤ 2) ∧ isN x2 (bE b) = true ∧ (0 ≤ x3 ∧ x3 ≤ 12) ∧ (0 ≤ x4 ∧ x4 ≤ 999)
  · obtain ⟨C1, C2, C3, C4⟩ := C
    obtain ⟨w, hw, rfl⟩ := isN_of C2
    obtain ⟨p, hp, rfl⟩ := in_N (e := 2) (by decide) C1
    obtain ⟨M1, p1, p2⟩ := p_says (part := p) hK iB7 hW.1 hB hW.2.1 hX hx (by omega) hw x3 x4
    have f1 : Fc M M1 := Fc.w p2
    have hQ1 := h.qb f1
    obtain ⟨M2, q1, q2⟩ := q_asksOf (part := p) hK hW.1 hQ1.1.me hQ1.1.1.2.2.2.1 hQ1.1.1.2.2.2.2.2.2.2 hW.2.1 (hQ1.2.2.2 _ hl) hx (by omega) hw x3 x4
    refine AL.q (r := saysB (tx (bLw b)) b p w x3 x4) h (M1 := M1) (M2 := M2) ?_ f1 ?_ (Ms.w q2) (hQ1.1.w q2)
    · show b_X7_asks K M 0 (nI p) (nI w) x3 x4 = _
      unfold b_X7_asks
      rw [if_neg (nI_pos (by omega)), if_neg (show ¬ (2 : Int32) < nI p by rw [show (2 : Int32) = nI 2 from rfl, ltN (by omega) (by omega)]; omega), if_pos hK.o0, hK.r00, Option.bind_some, if_pos hK.o7, c_has, Option.bind_some, if_pos C2, if_neg (show ¬ x3 < 0 by have := C3.1; rw [i_le] at this; rw [i_lt]; omega), if_neg (show ¬ (12 : Int32) < x3 by have := C3.2; rw [i_le] at this; rw [i_lt]; omega), if_neg (show ¬ x4 < 0 by have := C4.1; rw [i_le] at this; rw [i_lt]; omega), if_pos C4.2, p1, Option.bind_some]
    · show b_X8_asks K M1 50 (nI p) (nI w) x3 x4 = _
      unfold b_X8_asks
      rw [q_in, Option.bind_some, ifd C1, if_pos hK.mo, q_isEntry hK hQ1.1.1.1 h12, Option.bind_some, if_pos C2, q_in, Option.bind_some, ifd C3, q_in, Option.bind_some, ifd C4, q1, Option.bind_some]
  · refine AL.no (r := -2) h ?_ ?_
    · show b_X7_asks K M 0 x1 x2 x3 x4 = _
      unfold b_X7_asks
      by_cases y1 : x1 < 0
      · rw [if_pos y1]
      rw [if_neg y1]
      by_cases y2 : (2 : Int32) < x1
      · rw [if_pos y2]
      rw [if_neg y2, if_pos hK.o0, hK.r00, Option.bind_some, if_pos hK.o7, c_has, Option.bind_some]
      by_cases y3 : isN x2 (bE b) = true
      rotate_left
      · rw [if_neg y3]
      rw [if_pos y3]
      by_cases y4 : x3 < 0
      · rw [if_pos y4]
      rw [if_neg y4]
      by_cases y5 : (12 : Int32) < x3
      · rw [if_pos y5]
      rw [if_neg y5]
      by_cases y6 : x4 < 0
      · rw [if_pos y6]
      rw [if_neg y6, if_neg]
      intro y7
      apply C
      refine ⟨⟨?_, ?_⟩, y3, ⟨?_, ?_⟩, ?_, y7⟩
      · rw [i_lt] at y1; rw [i_le]; omega
      · rw [i_lt] at y2; rw [i_le]; omega
      · rw [i_lt] at y4; rw [i_le]; omega
      · rw [i_lt] at y5; rw [i_le]; omega
      · rw [i_lt] at y6; rw [i_le]; omega
    · show b_X8_asks K M 50 x1 x2 x3 x4 = _
      unfold b_X8_asks
      rw [q_in, Option.bind_some]
      by_cases y1 : 0 ≤ x1 ∧ x1 ≤ 2
      rotate_left
      · rw [ifn y1]
      rw [ifd y1, if_pos hK.mo, m_has, Option.bind_some]
      by_cases y3 : isN x2 (bE b) = true
      rotate_left
      · rw [if_neg y3]
      rw [if_pos y3, q_in, Option.bind_some]
      by_cases y4 : 0 ≤ x3 ∧ x3 ≤ 12
      rotate_left
      · rw [ifn y4]
      rw [ifd y4, q_in, Option.bind_some, ifn (fun y5 => C ⟨y1, y3, y4, y5⟩)]
/-- what holds by itself, what holds: both sides at once -/
theorem both_hold {K : yK} {M : yM} {b ib : Bk} {im : Bool} {tn ts : Nat} {tx : Nat → Tx} {tp so : Nat → Int32} {sz : Nat → Nat} {ce : Nat → Nat → Int32} (h : IN K M b ib im tn ts tx tp so sz ce) : ∃ M1, b_X0_itself K M 7 = some (itsB (tx (bLw b)) b (bE b), M1) ∧ Fc M M1 ∧ BR M1 7 b ∧ b_X0_held K M1 7 (itsB (tx (bLw b)) b (bE b)) = some (heB (tx (bLw b)) b) ∧ xT K M1 (bLw b) (tx (bLw b)) := by
  obtain ⟨hK, hW, hd, hl, hT, hx, hB, hS, hXs, hX⟩ := h.cls
  obtain ⟨M1, p1, p2⟩ := p_itself hK iB7 hW hB hX hx
  have f1 : Fc M M1 := Fc.w p2
  exact ⟨M1, p1, f1, f1.br hB, p_held hK iB7 hW.1 (f1.br hB) (f1.bs hS) _, f1.xT hX⟩
theorem a_now {K : yK} {M : yM} {b ib : Bk} {im : Bool} {tn ts : Nat} {tx : Nat → Tx} {tp so : Nat → Int32} {sz : Nat → Nat} {ce : Nat → Nat → Int32} (h : IN K M b ib im tn ts tx tp so sz ce) (x1 : Int32) : AL K (fun M => b_X7_now K M 0 x1) (fun M => b_X8_now K M 50 x1) M := by
  obtain ⟨hK, hW, hd, hl, hT, hx, hB, hS, hXs, hX⟩ := h.cls
  have hQ := h.2.2.1
  obtain ⟨M1, p1, f1, p2, p3, p4⟩ := both_hold h
  have hQ1 := h.qb f1
  by_cases z0 : x1 = 0
  · subst z0
    obtain ⟨M2, q1, q2⟩ := q_holding hK hW hQ1.1 (hQ1.2.2.2 _ hl) hx
    refine AL.q (r := heB (tx (bLw b)) b) h (M1 := M1) (M2 := M2) ?_ f1 ?_ (Ms.w q2) (hQ1.1.w q2)
    · show b_X7_now K M 0 0 = _
      unfold b_X7_now
      rw [if_pos rfl, if_pos hK.o0, hK.r00, Option.bind_some, if_pos hK.o7, p1, Option.bind_some]
      dsimp only
      rw [p3, Option.bind_some]
    · show b_X8_now K M1 50 0 = _
      unfold b_X8_now
      rw [if_pos rfl, if_pos hK.mo, q1, Option.bind_some]
  by_cases z1 : x1 = 1
  · subst z1
    refine AL.no (r := bCa b) h ?_ ?_
    · show b_X7_now K M 0 1 = _
      unfold b_X7_now
      rw [if_neg z0, if_pos rfl, if_pos hK.o0, hK.r00, Option.bind_some, if_pos hK.o7, hB.1.2.2.2.2.2.2.1]
    · show b_X8_now K M 50 1 = _
      unfold b_X8_now
      rw [if_neg z0, if_pos rfl, if_pos hK.mo, hQ.1.1.2.2.2.2.2.2.1]
  by_cases z2 : x1 = 2
  · subst z2
    obtain ⟨M2, q1, q2⟩ := q_byThemselves hK hW hQ1.1 (hQ1.2.2.2 _ hl) hx
    refine AL.q (r := itsB (tx (bLw b)) b (bE b)) h (M1 := M1) (M2 := M2) ?_ f1 ?_ (Ms.w q2) (hQ1.1.w q2)
    · show b_X7_now K M 0 2 = _
      unfold b_X7_now
      rw [if_neg z0, if_neg z1, if_pos rfl, if_pos hK.o0, hK.r00, Option.bind_some, if_pos hK.o7, p1, Option.bind_some]
    · show b_X8_now K M1 50 2 = _
      unfold b_X8_now
      rw [if_neg z0, if_neg z1, if_pos rfl, if_pos hK.mo, q1, Option.bind_some]
  refine AL.no (r := -2) h ?_ ?_
  · show b_X7_now K M 0 x1 = _
    unfold b_X7_now
    rw [if_neg z0, if_neg z1, if_neg z2]
  · show b_X8_now K M 50 x1 = _
    unfold b_X8_now
    rw [if_neg z0, if_neg z1, if_neg z2]
theorem a_done {K : yK} {M : yM} {b ib : Bk} {im : Bool} {tn ts : Nat} {tx : Nat → Tx} {tp so : Nat → Int32} {sz : Nat → Nat} {ce : Nat → Nat → Int32} (h : IN K M b ib im tn ts tx tp so sz ce) (x1 : Int32) : AL K (fun M => b_X7_done K M 0 x1) (fun M => b_X8_done K M 50 x1) M := by
  obtain ⟨hK, hW, hd, hl, hT, hx, hB, hS, hXs, hX⟩ := h.cls
  have hQ := h.2.2.1
  by_cases c : 0 ≤ x1 ∧ x1 ≤ 1
  · obtain ⟨M1, p1, f1, p2, p3, p4⟩ := both_hold h
    have p5 := p_canDo hK iB7 hW.1 p2 (heB (tx (bLw b)) b)
    have ref : ∀ M', Fc M M' → ∃ M2, b_X8_holding K M' 50 = some (heB (tx (bLw b)) b, M2) ∧ b_X8_doneBy K M2 50 (heB (tx (bLw b)) b) = some (hdB (tx (bLw b)) b) ∧ QB tn tx b M2 ∧ Ms M' M2 := by
      intro M' f
      have hQ1 := h.qb f
      obtain ⟨M2, q1, q2⟩ := q_holding hK hW hQ1.1 (hQ1.2.2.2 _ hl) hx
      exact ⟨M2, q1, q_doneBy hK hW.1 (hQ1.1.w q2) _, hQ1.ms (Ms.w q2) (hQ1.1.w q2), Ms.w q2⟩
    rcases zo_of c with rfl | rfl
    · obtain ⟨M2, q1, q2, q3, q4⟩ := ref M1 f1
      refine AL.q (r := hdB (tx (bLw b)) b) h (M1 := M1) (M2 := M2) ?_ f1 ?_ q4 q3.1
      · show b_X7_done K M 0 0 = _
        unfold b_X7_done
        rw [c_zo, Option.bind_some, ifd c, if_pos hK.o0, hK.r00, Option.bind_some, if_pos hK.o7, p1, Option.bind_some]
        dsimp only
        rw [p3, Option.bind_some, p5, Option.bind_some, if_pos rfl]
        rfl
      · show b_X8_done K M1 50 0 = _
        unfold b_X8_done
        rw [q_in, Option.bind_some, ifd c, if_pos hK.mo, q1, Option.bind_some]
        dsimp only
        rw [q2, Option.bind_some, if_pos rfl]
    · obtain ⟨M3, s1, s2⟩ := p_worth hK iB7 hW p2 p4 hx (hdB (tx (bLw b)) b)
      have f3 := f1.tr (Fc.w s2)
      obtain ⟨M2, q1, q2, q3, q4⟩ := ref M3 f3
      obtain ⟨M4, r1, r2⟩ := q_worth hK hW q3.1 (q3.2.2.2 _ hl) hx (hdB (tx (bLw b)) b)
      refine AL.q (r := woF (tx (bLw b)) b (hdB (tx (bLw b)) b) (bDn b)) h (M1 := M3) (M2 := M4) ?_ f3 ?_ (q4.tr (Ms.w r2)) (q3.1.w r2)
      · show b_X7_done K M 0 1 = _
        unfold b_X7_done
        rw [c_zo, Option.bind_some, ifd c, if_pos hK.o0, hK.r00, Option.bind_some, if_pos hK.o7, p1, Option.bind_some]
        dsimp only
        rw [p3, Option.bind_some, p5, Option.bind_some, if_neg (by decide), show caF b (heB (tx (bLw b)) b) (bDn b) = hdB (tx (bLw b)) b from rfl, s1, Option.bind_some]
      · show b_X8_done K M3 50 1 = _
        unfold b_X8_done
        rw [q_in, Option.bind_some, ifd c, if_pos hK.mo, q1, Option.bind_some]
        dsimp only
        rw [q2, Option.bind_some, if_neg (by decide), r1, Option.bind_some]
  · refine AL.no (r := -2) h ?_ ?_
    · show b_X7_done K M 0 x1 = _
      unfold b_X7_done
      rw [c_zo, Option.bind_some, ifn c]
    · show b_X8_done K M 50 x1 = _
      unfold b_X8_done
      rw [q_in, Option.bind_some, ifn c]
