/-! force, live, put, deed -/
theorem BS.st7 {M M' : yM} {b c : Bk} (h : BS M 7 b) (hs : SB b c) (h1 : M' 13 = M 13) (h2 : M' 14 = M 14) : BS M' 7 c := h.st hs h1 h2
theorem a_force {K : yK} {M : yM} {b ib : Bk} {im : Bool} {tn ts : Nat} {tx : Nat → Tx} {tp so : Nat → Int32} {sz : Nat → Nat} {ce : Nat → Nat → Int32} (h : IN K M b ib im tn ts tx tp so sz ce) (x1 : Int32) : AL K (fun M => b_X7_force K M 0 x1) (fun M => b_X8_force K M 50 x1) M := by
  obtain ⟨hK, hW, hd, hl, hT, hx, hB, hS, hXs, hX⟩ := h.cls
  have h6 := h.1.2.2.1.2.2
  have e7 := h.2.1.2.2.1.2.1
  by_cases c : isN x1 tn = true
  · obtain ⟨v, hv, rfl⟩ := isN_of c
    have fb : Fb M (yS M 7 15 (nI v)) := fun q z1 z2 z3 z4 => yS_q _ _ _ (by omega)
    have q1 := (h.qf fb).1
    obtain ⟨⟨b8, b9, b10, b11, b12, b13, b14, b15⟩, -, -⟩ := id hB
    have e15 : yS M 7 15 (nI v) 50 15 = nI tn := by rw [yS_op _ _ _ _ (by decide)]; exact h.2.2.2.2.1.2.1
    refine AL.bk (b' := lwB b v) (r := nI (bLw b)) h (h.ib (lwB_W hW (by omega)) hd hv (Nat.le_refl _) (fun w _ => ⟨rfl, rfl⟩)) (M1 := yS M 7 15 (nI v)) (BR_f hB (fun q h1 h2 => yS_q _ _ _ (by omega)) ?_ ?_ ?_ ?_ ?_ ?_ ?_ ?_) (BS_f hS (yS_q _ _ _ (by omega)) (yS_q _ _ _ (by omega))) fb ?_ (M2 := yS (yS M 7 15 (nI v)) 50 16 (nI v)) ?_ (Ms.f (by decide)) q1.lw
    · rw [yS_oi _ _ _ _ (by decide)]
    · rw [yS_oi _ _ _ _ (by decide)]
    · rw [yS_oi _ _ _ _ (by decide)]; exact b10
    · rw [yS_oi _ _ _ _ (by decide)]; exact b11
    · rw [yS_oi _ _ _ _ (by decide)]; exact b12
    · rw [yS_oi _ _ _ _ (by decide)]; exact b13
    · rw [yS_oi _ _ _ _ (by decide)]
    · rw [yS_at]
    · show b_X7_force K M 0 (nI v) = _
      unfold b_X7_force
      rw [if_neg (nI_pos (by omega)), if_pos hK.o0, e7, iteLt (by omega) (by omega), if_pos hv, hK.r00, Option.bind_some, if_pos hK.o7, Option.bind_some, Option.bind_some, b15]
    · show b_X8_force K (yS M 7 15 (nI v)) 50 (nI v) = _
      unfold b_X8_force
      rw [if_pos hK.mo, e15, q_in0 _ (by omega), Option.bind_some, if_pos c, Option.bind_some, Option.bind_some, q1.1.2.2.2.2.2.2.2]
  · refine AL.no (r := -2) h ?_ ?_
    · show b_X7_force K M 0 x1 = _
      unfold b_X7_force
      by_cases z : x1 < 0
      · rw [if_pos z]
      · obtain ⟨j, hj, rfl⟩ := nI_of z
        rw [if_neg z, if_pos hK.o0, e7, iteLt hj (by omega)]
        rw [isN_nI hj] at c
        rw [if_neg (fun y => c (decide_eq_true y))]
    · show b_X8_force K M 50 x1 = _
      unfold b_X8_force
      rw [if_pos hK.mo, h.2.2.2.2.1.2.1, q_in0 _ (by omega), Option.bind_some, if_neg c]
theorem a_live {K : yK} {M : yM} {b ib : Bk} {im : Bool} {tn ts : Nat} {tx : Nat → Tx} {tp so : Nat → Int32} {sz : Nat → Nat} {ce : Nat → Nat → Int32} (h : IN K M b ib im tn ts tx tp so sz ce) : AL K (fun M => b_X7_live K M 0) (fun M => b_X8_live K M 50) M := by
  obtain ⟨hK, hW, hd, hl, hT, hx, hB, hS, hXs, hX⟩ := h.cls
  have hQ := h.2.2.1
  by_cases c : bDy b < 999
  · obtain ⟨M1, p1, p2, p3, -, -, p6⟩ := p_passDay hK iB7 hW (by omega) hB hS hX hx
    have fb : Fb M M1 := fun q z1 z2 z3 z4 => p6 q z1 z2 (by omega)
    have q1 := h.qf fb
    obtain ⟨M2, q2, q3, -, q5, q6⟩ := q_dayOf hK hW (by omega) q1.1 (q1.2.2.2 _ hl) hx
    have ms : Ms M1 M2 := ⟨fun i z => q5 i (by omega) (by omega) (by omega) (by omega) (by omega), fun q z => q6 q (by omega) (by omega) (by omega) (by omega)⟩
    have hs := dyB_S (tx (bLw b)) b
    refine AL.bk (b' := dyB (tx (bLw b)) b) (r := bCa (dyB (tx (bLw b)) b)) h (h.ib (dyB_W hW (by omega)) (by rw [dyB_D]; omega) (by rw [hs.2.2.2.2.2.2.2.2]; exact hl) (by rw [hs.1]; exact Nat.le_refl _) (fun w _ => ⟨by rw [hs.2.1], by rw [hs.2.2.1]⟩)) (M1 := M1) p2 p3 fb ?_ (M2 := M2) ?_ ms q3
    · show b_X7_live K M 0 = _
      unfold b_X7_live
      rw [if_pos hK.o0, hK.r00, Option.bind_some, if_pos hK.o7, hB.1.2.2.2.1, if_pos (show nI (bDy b) < 999 by rw [show (999 : Int32) = nI 999 from rfl, ltN (by omega) (by omega)]; exact c), p1, Option.bind_some, p2.1.2.2.2.2.2.2.1]
    · show b_X8_live K M1 50 = _
      unfold b_X8_live
      rw [if_pos hK.mo, q1.1.1.2.2.2.1, if_neg (show ¬ nI (bDy b) = 999 by rw [show (999 : Int32) = nI 999 from rfl, eqN (by omega) (by omega)]; omega), q2, Option.bind_some, q3.1.2.2.2.2.2.2.1]
  · refine AL.no (r := -4) h ?_ ?_
    · show b_X7_live K M 0 = _
      unfold b_X7_live
      rw [if_pos hK.o0, hK.r00, Option.bind_some, if_pos hK.o7, hB.1.2.2.2.1, if_neg (show ¬ nI (bDy b) < 999 by rw [show (999 : Int32) = nI 999 from rfl, ltN (by omega) (by omega)]; exact c)]
    · show b_X8_live K M 50 = _
      unfold b_X8_live
      rw [if_pos hK.mo, hQ.1.1.2.2.2.1, if_pos (show nI (bDy b) = 999 by rw [show (999 : Int32) = nI 999 from rfl, eqN (by omega) (by omega)]; omega)]
theorem a_put {K : yK} {M : yM} {b ib : Bk} {im : Bool} {tn ts : Nat} {tx : Nat → Tx} {tp so : Nat → Int32} {sz : Nat → Nat} {ce : Nat → Nat → Int32} (h : IN K M b ib im tn ts tx tp so sz ce) (x1 x2 x3 : Int32) : AL K (fun M => b_X7_put K M 0 x1 x2 x3) (fun M => b_X8_put K M 50 x1 x2 x3) M := by
  obtain ⟨hK, hW, hd, hl, hT, hx, hB, hS, hXs, hX⟩ := h.cls
  have h12 := hW.1.1
  have hQ := h.2.2.1
  have c_has := p_has hK iB7 hB.1.1 h12 x1
  have m_has := q_isEntry hK hQ.1.1.1 h12 x1
  have a53 : isAr K 53 36 := hK.ar (by decide) rfl
  by_cases c0 : isN x1 (bE b) = true
  · obtain ⟨w, hw, rfl⟩ := isN_of c0
    obtain ⟨e1, e2, e3, e4, e5⟩ := hB.2.1 w hw
    by_cases z0 : x2 = 0
    · subst z0
      by_cases c : 1 ≤ x3 ∧ x3 ≤ 60
      · obtain ⟨z, hz, rfl⟩ := in_N (e := 60) (x := x3) (by decide) ⟨by have := c.1; rw [i_le] at this ⊢; rw [i_0]; rw [show (1 : Int32).toInt = 1 by decide] at this; omega, c.2⟩
        have hz1 : 1 ≤ z := by have := c.1; rw [show (1 : Int32) = nI 1 from rfl, leN (by omega) (by omega)] at this; exact this
        obtain ⟨M1, p1, p2, p3, p4⟩ := BR.settle hK iB7 (szB_W (w := w) hW hz1 hz).1 (hB.sz (w := w) (k := z))
        have fb : Fb M M1 := fun q z1 z2 z3 z4 => by rw [p4 q (by omega) (by omega), yS_q _ _ _ (by omega)]
        have q1 := (h.qf fb).1
        refine AL.bk (b' := szB b w z) (r := nI (bZ b w)) h (h.ib (szB_W hW hz1 hz) hd hl (Nat.le_refl _) (fun w _ => ⟨rfl, rfl⟩)) (M1 := M1) p2 p3 fb ?_ (M2 := yS M1 53 (3 * w) (nI z)) ?_ (Ms.a (by decide)) q1.sz
        · show b_X7_put K M 0 (nI w) 0 (nI z) = _
          unfold b_X7_put
          rw [if_pos hK.o0, hK.r00, Option.bind_some, if_pos hK.o7, c_has, Option.bind_some, if_pos c0, if_pos rfl, if_neg (show ¬ nI z < 1 by rw [show (1 : Int32) = nI 1 from rfl, ltN (by omega) (by omega)]; omega), if_neg (show ¬ (60 : Int32) < nI z by rw [show (60 : Int32) = nI 60 from rfl, ltN (by omega) (by omega)]; omega), hK.br iB7 (f := 2) (by omega), Option.bind_some, if_pos (gA_N (hK.ba iB7 (f := 2) (by omega)) (by omega) (by omega)), Option.bind_some, Option.bind_some, nC (by omega), p1, Option.bind_some]
          exact congrArg (fun v => some (v, M1)) e3
        · show b_X8_put K M1 50 (nI w) 0 (nI z) = _
          unfold b_X8_put
          have ea : (3 : Int32) * nI w + 0 = nI (3 * w) := by rw [show (3 : Int32) = nI 3 from rfl, mulN, Int32.add_zero]
          rw [if_pos hK.mo, q_isEntry hK q1.1.1 h12, Option.bind_some, if_pos c0, q_in, Option.bind_some, ifd (by decide), if_pos rfl, Option.bind_some, if_pos rfl, Option.bind_some, q_in, Option.bind_some, ifd c, hK.mr (f := 3) rfl, Option.bind_some, ea, if_pos (gA_N a53 (by omega) (by omega)), nC (by omega), Option.bind_some, Option.bind_some, (q1.2.1 w hw).2.2.1]
      · refine AL.no (r := -7) h ?_ ?_
        · show b_X7_put K M 0 (nI w) 0 x3 = _
          unfold b_X7_put
          rw [if_pos hK.o0, hK.r00, Option.bind_some, if_pos hK.o7, c_has, Option.bind_some, if_pos c0, if_pos rfl]
          by_cases y : x3 < 1
          · rw [if_pos y, if_neg (by decide)]
          · rw [if_neg y, if_pos (show (60 : Int32) < x3 by
              rcases (show (60 : Int32) < x3 ∨ ¬ (60 : Int32) < x3 from Classical.em _) with q | q
              · exact q
              · exact absurd ⟨by rw [i_lt] at y; rw [i_le]; omega, by rw [i_lt] at q; rw [i_le]; omega⟩ c), if_neg (by decide)]
        · show b_X8_put K M 50 (nI w) 0 x3 = _
          unfold b_X8_put
          rw [if_pos hK.mo, m_has, Option.bind_some, if_pos c0, q_in, Option.bind_some, ifd (by decide), if_pos rfl, Option.bind_some, if_pos rfl, Option.bind_some, q_in, Option.bind_some, ifn c]
    by_cases z1 : x2 = 1
    · subst z1
      have e12 : ((12 : Int32) ≤ x3) = ((11 : Int32) < x3) := by
        rw [i_le, i_lt, show (12 : Int32).toInt = 12 by decide, show (11 : Int32).toInt = 11 by decide]
        apply propext
        omega
      by_cases c : -1 ≤ x3 ∧ x3 ≤ 11
      · have hv : x3 = -1 ∨ ∃ j, j < 12 ∧ x3 = nI j := by
          by_cases z : x3 < 0
          · left
            have := c.1
            rw [i_le, i_m1] at this
            rw [i_lt, i_0] at z
            rw [i_eq, i_m1]
            omega
          · obtain ⟨j, hj, rfl⟩ := nI_of z
            have := c.2
            rw [show (11 : Int32) = nI 11 from rfl, leN hj (by omega)] at this
            exact .inr ⟨j, by omega, rfl⟩
        obtain ⟨M1, p1, p2, p3, p4⟩ := BR.settle hK iB7 (toB_W (w := w) hW hv).1 (hB.to (w := w) (v := x3))
        have fb : Fb M M1 := fun q z1 z2 z3 z4 => by rw [p4 q (by omega) (by omega), yS_q _ _ _ (by omega)]
        have q1 := (h.qf fb).1
        refine AL.bk (b' := toB b w x3) (r := bT b w) h (h.ib (toB_W hW hv) hd hl (Nat.le_refl _) (fun w _ => ⟨rfl, rfl⟩)) (M1 := M1) p2 p3 fb ?_ (M2 := yS M1 53 (3 * w + 1) x3) ?_ (Ms.a (by decide)) q1.to
        · show b_X7_put K M 0 (nI w) 1 x3 = _
          unfold b_X7_put
          rw [if_pos hK.o0, hK.r00, Option.bind_some, if_pos hK.o7, c_has, Option.bind_some, if_pos c0, if_neg (by decide), if_pos rfl, if_neg (show ¬ x3 < -1 by have := c.1; rw [i_le] at this; rw [i_lt]; omega), if_neg (show ¬ (12 : Int32) ≤ x3 by rw [e12]; have := c.2; rw [i_le] at this; rw [i_lt]; omega), hK.br iB7 (f := 3) (by omega), Option.bind_some, if_pos (gA_N (hK.ba iB7 (f := 3) (by omega)) (by omega) (by omega)), Option.bind_some, Option.bind_some, nC (by omega), p1, Option.bind_some]
          exact congrArg (fun v => some (v, M1)) e4
        · show b_X8_put K M1 50 (nI w) 1 x3 = _
          unfold b_X8_put
          have ea : (3 : Int32) * nI w + 1 = nI (3 * w + 1) := by rw [show (3 : Int32) = nI 3 from rfl, mulN, incN]
          rw [if_pos hK.mo, q_isEntry hK q1.1.1 h12, Option.bind_some, if_pos c0, q_in, Option.bind_some, ifd (by decide), if_neg (by decide), Option.bind_some, if_neg (by decide), Option.bind_some, q_in, Option.bind_some, ifd c, hK.mr (f := 3) rfl, Option.bind_some, ea, if_pos (gA_N a53 (by omega) (by omega)), nC (by omega), Option.bind_some, Option.bind_some, (q1.2.1 w hw).2.2.2.1]
      · refine AL.no (r := -7) h ?_ ?_
        · show b_X7_put K M 0 (nI w) 1 x3 = _
          unfold b_X7_put
          rw [if_pos hK.o0, hK.r00, Option.bind_some, if_pos hK.o7, c_has, Option.bind_some, if_pos c0, if_neg (by decide), if_pos rfl]
          by_cases y : x3 < -1
          · rw [if_pos y]
          · rw [if_neg y, if_pos (show (12 : Int32) ≤ x3 by
              rw [e12]
              rcases (show (11 : Int32) < x3 ∨ ¬ (11 : Int32) < x3 from Classical.em _) with q | q
              · exact q
              · exact absurd ⟨by rw [i_lt] at y; rw [i_le]; omega, by rw [i_lt] at q; rw [i_le]; omega⟩ c)]
        · show b_X8_put K M 50 (nI w) 1 x3 = _
          unfold b_X8_put
          rw [if_pos hK.mo, m_has, Option.bind_some, if_pos c0, q_in, Option.bind_some, ifd (by decide), if_neg (by decide), Option.bind_some, if_neg (by decide), Option.bind_some, q_in, Option.bind_some, ifn c]
    · refine AL.no (r := -7) h ?_ ?_
      · show b_X7_put K M 0 (nI w) x2 x3 = _
        unfold b_X7_put
        rw [if_pos hK.o0, hK.r00, Option.bind_some, if_pos hK.o7, c_has, Option.bind_some, if_pos c0, if_neg z0, if_neg z1]
      · show b_X8_put K M 50 (nI w) x2 x3 = _
        unfold b_X8_put
        rw [if_pos hK.mo, m_has, Option.bind_some, if_pos c0, q_in, Option.bind_some, ifn (fun y => (zo_of y).elim z0 z1)]
  · refine AL.no (r := -5) h ?_ ?_
    · show b_X7_put K M 0 x1 x2 x3 = _
      unfold b_X7_put
      rw [if_pos hK.o0, hK.r00, Option.bind_some, if_pos hK.o7, c_has, Option.bind_some, if_neg c0]
    · show b_X8_put K M 50 x1 x2 x3 = _
      unfold b_X8_put
      rw [if_pos hK.mo, m_has, Option.bind_some, if_neg c0]
def deB (b : Bk) (s : Int32) : Bk := (bE b, bK b, bM b, bZ b, bT b, bR b, bDn b + 1, upN (bDs b) (bDn b) s, bPg b, bDy b, bBm b, bSk b, bCa b, bLw b)
theorem deB_W {b : Bk} {j : Nat} (hW : WX b) (hd : bDn b < 6) (h0 : 0 < j) (hj : j < 2 ^ bE b) : WX (deB b (nI j)) := by
  obtain ⟨⟨w1, w2, w3, w4, w5, w6⟩, w7, w8, w9, w10⟩ := hW
  refine ⟨⟨w1, w2, hd, w4, w5, w6⟩, w7, w8, w9, fun d hd' => ?_⟩
  show ∃ i, 0 < i ∧ i < 2 ^ bE b ∧ upN (bDs b) (bDn b) (nI j) d = nI i
  by_cases e : d = bDn b
  · exact ⟨j, h0, hj, by rw [e, upN_at]⟩
  · rw [upN_o _ _ _ e]
    have hd'' : d < bDn b + 1 := hd'
    exact w10 d (by omega)
theorem BR.de {M : yM} {t : Nat} {s : Int32} {b : Bk} (h : BR M t b) : BR (yS (yS M (t + 8) (bDn b) s) t 9 (nI (bDn b + 1))) t (deB b s) := by
  obtain ⟨⟨b8, b9, b10, b11, b12, b13, b14, b15⟩, bv, bd⟩ := h
  have e1 : ∀ i, i ≠ 9 → yS (yS M (t + 8) (bDn b) s) t 9 (nI (bDn b + 1)) t i = M t i := fun i hi => by rw [yS_oi _ _ _ _ hi, yS_op _ _ _ _ (by omega)]
  refine ⟨⟨(e1 8 (by decide)).trans b8, yS_at _ _ _ _, (e1 10 (by decide)).trans b10, (e1 11 (by decide)).trans b11, (e1 12 (by decide)).trans b12, (e1 13 (by decide)).trans b13, (e1 14 (by decide)).trans b14, (e1 15 (by decide)).trans b15⟩, fun w hw => ?_, fun d hd => ?_⟩
  · rw [yS_q _ _ _ (show t + 1 ≠ t by omega), yS_q _ _ _ (show t + 2 ≠ t by omega), yS_q _ _ _ (show t + 3 ≠ t by omega), yS_q _ _ _ (show t + 4 ≠ t by omega), yS_q _ _ _ (show t + 5 ≠ t by omega), yS_q _ _ _ (show t + 1 ≠ t + 8 by omega), yS_q _ _ _ (show t + 2 ≠ t + 8 by omega), yS_q _ _ _ (show t + 3 ≠ t + 8 by omega), yS_q _ _ _ (show t + 4 ≠ t + 8 by omega), yS_q _ _ _ (show t + 5 ≠ t + 8 by omega)]
    exact bv w hw
  · rw [yS_op _ _ _ _ (by omega)]
    show yS M (t + 8) (bDn b) s (t + 8) d = upN (bDs b) (bDn b) s d
    have hd' : d < bDn b + 1 := hd
    by_cases e : d = bDn b
    · rw [e, yS_at, upN_at]
    · rw [yS_oi _ _ _ _ e, upN_o _ _ _ e]; exact bd d (by omega)
theorem MR.de {M : yM} {s : Int32} {b : Bk} (h : MR M b) : MR (yS (yS M 54 (bDn b) s) 50 4 (nI (bDn b + 1))) (deB b s) := by
  obtain ⟨⟨b0, b4, b6, b7, b8, b9, b10, b16⟩, bv, bd⟩ := h
  have e1 : ∀ i, i ≠ 4 → yS (yS M 54 (bDn b) s) 50 4 (nI (bDn b + 1)) 50 i = M 50 i := fun i hi => by rw [yS_oi _ _ _ _ hi, yS_op _ _ _ _ (by omega)]
  refine ⟨⟨(e1 0 (by decide)).trans b0, yS_at _ _ _ _, (e1 6 (by decide)).trans b6, (e1 7 (by decide)).trans b7, (e1 8 (by decide)).trans b8, (e1 9 (by decide)).trans b9, (e1 10 (by decide)).trans b10, (e1 16 (by decide)).trans b16⟩, fun w hw => ?_, fun d hd => ?_⟩
  · rw [yS_q _ _ _ (show 51 ≠ 50 by decide), yS_q _ _ _ (show 52 ≠ 50 by decide), yS_q _ _ _ (show 53 ≠ 50 by decide), yS_q _ _ _ (show 51 ≠ 54 by decide), yS_q _ _ _ (show 52 ≠ 54 by decide), yS_q _ _ _ (show 53 ≠ 54 by decide)]
    exact bv w hw
  · rw [yS_op _ _ _ _ (by decide)]
    show yS M 54 (bDn b) s 54 d = upN (bDs b) (bDn b) s d
    have hd' : d < bDn b + 1 := hd
    by_cases e : d = bDn b
    · rw [e, yS_at, upN_at]
    · rw [yS_oi _ _ _ _ e, upN_o _ _ _ e]; exact bd d (by omega)
theorem BS_d {M M' : yM} {t : Nat} {b : Bk} {s : Int32} (h : BS M t b) (h6 : M' (t + 6) = M (t + 6)) (h7 : M' (t + 7) = M (t + 7)) : BS M' t (deB b s) := by
  unfold BS
  rw [h6, h7]
  refine ⟨fun w hw => ?_, fun w hw => ?_⟩
  · rw [show fsB (deB b s) w = fsB b w from fsB_cg (b := b) (b' := deB b s) rfl rfl rfl w]; exact h.1 w hw
  · rw [show chB (deB b s) w = chB b w from chF_cg (b := b) (b' := deB b s) rfl rfl rfl 12 (nI w) 0]; exact h.2 w hw
theorem a_deed {K : yK} {M : yM} {b ib : Bk} {im : Bool} {tn ts : Nat} {tx : Nat → Tx} {tp so : Nat → Int32} {sz : Nat → Nat} {ce : Nat → Nat → Int32} (h : IN K M b ib im tn ts tx tp so sz ce) (x1 : Int32) : AL K (fun M => b_X7_deed K M 0 x1) (fun M => b_X8_deed K M 50 x1) M := by
  obtain ⟨hK, hW, hd, hl, hT, hx, hB, hS, hXs, hX⟩ := h.cls
  have h12 := hW.1.1
  have h6 := hW.1.2.2.1
  have hQ := h.2.2.1
  have hpw := pow_le h12
  have pa := p_all hK h12 hB
  by_cases c : 1 ≤ x1 ∧ x1 ≤ nI (2 ^ bE b - 1)
  · obtain ⟨j, hj, rfl⟩ := in_N (e := 2 ^ bE b - 1) (x := x1) (by omega) ⟨by have := c.1; rw [i_le] at this ⊢; rw [i_0]; rw [show (1 : Int32).toInt = 1 by decide] at this; omega, c.2⟩
    have hj1 : 1 ≤ j := by have := c.1; rw [show (1 : Int32) = nI 1 from rfl, leN (by omega) (by omega)] at this; exact this
    have cn : ¬ nI j < 1 := by rw [show (1 : Int32) = nI 1 from rfl, ltN (by omega) (by omega)]; omega
    by_cases d : bDn b < 6
    · have fb : Fb M (yS (yS M (7 + 8) (bDn b) (nI j)) 7 9 (nI (bDn b + 1))) := fun q z1 z2 z3 z4 => by rw [yS_q _ _ _ (by omega), yS_q _ _ _ (by omega)]
      have q1 := (h.qf fb).1
      refine AL.bk (b' := deB b (nI j)) (r := nI (bDn b)) h (h.ib (deB_W hW d (by omega) (by omega)) hd hl (Nat.le_refl _) (fun w _ => ⟨rfl, rfl⟩)) (M1 := yS (yS M (7 + 8) (bDn b) (nI j)) 7 9 (nI (bDn b + 1))) hB.de (BS_d hS (by rw [yS_q _ _ _ (by omega), yS_q _ _ _ (by omega)]) (by rw [yS_q _ _ _ (by omega), yS_q _ _ _ (by omega)])) fb ?_ (M2 := yS (yS (yS (yS M (7 + 8) (bDn b) (nI j)) 7 9 (nI (bDn b + 1))) 54 (bDn b) (nI j)) 50 4 (nI (bDn b + 1))) ?_ ((Ms.a (by decide)).tr (Ms.f (by decide))) q1.de
      · show b_X7_deed K M 0 (nI j) = _
        unfold b_X7_deed
        rw [if_neg cn, if_pos hK.o0, hK.r00, Option.bind_some, if_pos hK.o7, pa, Option.bind_some, if_pos c.2]
        unfold b_X0_addDeed
        rw [if_pos hK.o7, hB.1.2.1, if_neg (nI_pos (by omega)), if_pos (show nI (bDn b) < 6 by rw [show (6 : Int32) = nI 6 from rfl, ltN (by omega) (by omega)]; exact d), hK.br iB7 (f := 7) (by omega), Option.bind_some, if_pos (gA_N (hK.b8 iB7) (by omega) (by omega)), nC (by omega), Option.bind_some, Option.bind_some, yS_op _ _ _ _ (by decide), hB.1.2.1, incN, Option.bind_some, if_pos rfl]
        dsimp only
        rw [yS_at, show nI (bDn b + 1) - (1 : Int32) = nI (bDn b + 1 - 1) from subN (b := 1) (by omega)]
        rfl
      · show b_X8_deed K (yS (yS M (7 + 8) (bDn b) (nI j)) 7 9 (nI (bDn b + 1))) 50 (nI j) = _
        unfold b_X8_deed
        rw [if_pos hK.mo, q_all hK h12 q1, Option.bind_some, q_in, Option.bind_some, ifd c, q1.1.2.1, if_neg (show ¬ nI (bDn b) = 6 by rw [show (6 : Int32) = nI 6 from rfl, eqN (by omega) (by omega)]; omega), hK.mr (f := 5) rfl, Option.bind_some, if_pos (gA_N (hK.ar (p := 54) (n := 6) (by decide) rfl) (by omega) (by omega)), nC (by omega), Option.bind_some, yS_op _ 54 _ _ (show 50 ≠ 54 by decide), q1.1.2.1, incN, Option.bind_some, yS_at, show nI (bDn b + 1) - (1 : Int32) = nI (bDn b + 1 - 1) from subN (b := 1) (by omega)]
        rfl
    · refine AL.no (r := -4) h ?_ ?_
      · show b_X7_deed K M 0 (nI j) = _
        unfold b_X7_deed
        rw [if_neg cn, if_pos hK.o0, hK.r00, Option.bind_some, if_pos hK.o7, pa, Option.bind_some, if_pos c.2]
        unfold b_X0_addDeed
        rw [if_pos hK.o7, hB.1.2.1, if_neg (nI_pos (by omega)), if_neg (show ¬ nI (bDn b) < 6 by rw [show (6 : Int32) = nI 6 from rfl, ltN (by omega) (by omega)]; exact d), Option.bind_some, if_neg Bool.false_ne_true]
      · show b_X8_deed K M 50 (nI j) = _
        unfold b_X8_deed
        rw [if_pos hK.mo, q_all hK h12 hQ.1, Option.bind_some, q_in, Option.bind_some, ifd c, hQ.1.1.2.1, if_pos (show nI (bDn b) = 6 by rw [show (6 : Int32) = nI 6 from rfl, eqN (by omega) (by omega)]; omega)]
  · refine AL.no (r := -2) h ?_ ?_
    · show b_X7_deed K M 0 x1 = _
      unfold b_X7_deed
      by_cases z : x1 < 1
      · rw [if_pos z]
      · rw [if_neg z, if_pos hK.o0, hK.r00, Option.bind_some, if_pos hK.o7, pa, Option.bind_some, if_neg (fun y => c ⟨by rw [i_lt] at z; rw [i_le]; omega, y⟩)]
    · show b_X8_deed K M 50 x1 = _
      unfold b_X8_deed
      rw [if_pos hK.mo, q_all hK h12 hQ.1, Option.bind_some, q_in, Option.bind_some, ifn c]
