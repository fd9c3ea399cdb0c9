/-! a day, by the model -/
theorem MR_mk {M : yM} {b : Bk} {R : Nat → Int32} {pg dy : Nat} {bm cm : Int32} (h0 : M 50 0 = nI (bE b)) (h4 : M 50 4 = nI (bDn b)) (h6 : M 50 6 = nI pg) (h7 : M 50 7 = nI dy) (h8 : M 50 8 = bm) (h9 : M 50 9 = bSk b) (h10 : M 50 10 = cm) (h16 : M 50 16 = nI (bLw b)) (hv : ∀ w, w < bE b → M 51 w = nI (bK b w) ∧ M 52 w = nI (bM b w) ∧ M 53 (3 * w) = nI (bZ b w) ∧ M 53 (3 * w + 1) = bT b w ∧ M 53 (3 * w + 2) = R w) (hd : ∀ d, d < bDn b → M 54 d = bDs b d) : MR M (bE b, bK b, bM b, bZ b, bT b, R, bDn b, bDs b, pg, dy, bm, bSk b, cm, bLw b) := ⟨⟨h0, h4, h6, h7, h8, h9, h10, h16⟩, hv, hd⟩
theorem q_dayOf {K : yK} {M : yM} {b : Bk} {x : Tx} (hK : KSh K) (hW : WX b) (hd : bDy b + 1 < 2000) (hB : MR M b) (hX : MT M (bLw b) x) (hx : TxW x) : ∃ M', b_X8_dayOf K M 50 = some M' ∧ MR M' (dyB x b) ∧ (M' 50 39 = if fsB b (bE b) = 0 then M 50 39 else nI (begB b)) ∧ (∀ i, i ≠ 6 → i ≠ 7 → i ≠ 8 → i ≠ 10 → i ≠ 39 → M' 50 i = M 50 i) ∧ ∀ q, q ≠ 50 → q ≠ 53 → q ≠ 67 → q ≠ 68 → M' q = M q := by
  have h12 := hW.1.1
  have hP := (fsB_le hW.1 (bE b) (Nat.le_refl _)).2
  obtain ⟨⟨b0, b4, b6, b7, b8, b9, b10, b16⟩, bv, bd⟩ := id hB
  obtain ⟨M4, hM4⟩ : ∃ z, z = yS (yS M 50 7 (nI (bDy b + 1))) 50 10 0 := ⟨_, rfl⟩
  have m4 : ∀ i, i ≠ 7 → i ≠ 10 → M4 50 i = M 50 i := fun i z1 z2 => by rw [hM4, yS_oi _ _ _ _ z2, yS_oi _ _ _ _ z1]
  have m4o : ∀ q, q ≠ 50 → M4 q = M q := fun q z => funext fun i => by rw [hM4, yS_op _ _ _ _ z, yS_op _ _ _ _ z]
  have m7 : M4 50 7 = nI (bDy b + 1) := by rw [hM4, yS_oi _ _ _ _ (by decide), yS_at]
  have m10 : M4 50 10 = 0 := by rw [hM4, yS_at]
  have hE4 : ME M4 b := ⟨by rw [m4 0 (by decide) (by decide)]; exact b0, fun w hw => by rw [m4o 51 (by decide), m4o 52 (by decide), m4o 53 (by decide)]; exact hB.me.2 w hw⟩
  unfold b_X8_dayOf
  rw [if_pos hK.mo, q_pagesAll hK hW.1 hB.me, Option.bind_some, Option.bind_some, Option.bind_some, b7, incN, ← hM4]
  by_cases c : fsB b (bE b) = 0
  · refine ⟨M4, ?_, ?_, ?_, fun i _ z1 _ z2 _ => m4 i z1 z2, fun q z _ _ _ => m4o q z⟩
    · rw [if_pos (show nI (fsB b (bE b)) ≤ 0 by rw [c]; decide)]
    · unfold dyB
      rw [if_pos c]
      exact MR_mk (by rw [m4 0 (by decide) (by decide)]; exact b0) (by rw [m4 4 (by decide) (by decide)]; exact b4) (by rw [m4 6 (by decide) (by decide)]; exact b6) m7 (by rw [m4 8 (by decide) (by decide)]; exact b8) (by rw [m4 9 (by decide) (by decide)]; exact b9) m10 (by rw [m4 16 (by decide) (by decide)]; exact b16) (fun w hw => by rw [m4o 51 (by decide), m4o 52 (by decide), m4o 53 (by decide)]; exact bv w hw) (fun d hd => by rw [m4o 54 (by decide)]; exact bd d hd)
    · rw [if_pos c, m4 39 (by decide) (by decide)]
  · have hbe := begB_lt hW.1 c
    have hz : ¬ nI (fsB b (bE b)) = 0 := by
      rw [show (0 : Int32) = nI 0 from rfl, eqN (by omega) (by omega)]; exact c
    have hz2 : ¬ nI (fsB b (bE b)) ≤ 0 := by
      rw [show (0 : Int32) = nI 0 from rfl, leN (by omega) (by omega)]; omega
    have ej : (if bBm b = (-1 : Int32) then (if ¬ nI (fsB b (bE b)) = 0 then some (nI (bPg b) - nI (bPg b) / nI (fsB b (bE b)) * nI (fsB b (bE b))) else none) else (Option.bind (b_X8_firstPage K M4 50 (bBm b)) fun r8 => some r8)) = some (nI (begB b)) := by
      unfold begB
      have hpg := hW.1.2.2.2.1
      rcases hW.1.2.2.2.2.2 with e | ⟨j, hj, e⟩
      · rw [if_pos e, if_pos hz, if_neg (by rw [e]; exact fun z => Bool.noConfusion ((isN_neg (x := -1) (by decide)).symm.trans z)), remN (by omega) (by omega) (by omega)]
      · rw [if_neg (by rw [e]; exact fun z => absurd (show nI j < 0 by rw [z]; decide) (nI_pos (by omega))), e, if_pos (isN_at hj (by omega)), q_firstPage hK hW.1 hE4 (by omega), Option.bind_some, nC (by omega)]
    rw [if_neg hz2, m4 8 (by decide) (by decide), b8, m4 6 (by decide) (by decide), b6, ej, Option.bind_some, Option.bind_some, Option.bind_some]
    obtain ⟨N, hN⟩ : ∃ z, z = yS (yS M4 50 39 (nI (begB b))) 50 8 (-1) := ⟨_, rfl⟩
    have n4 : ∀ i, i ≠ 8 → i ≠ 39 → N 50 i = M4 50 i := fun i z1 z2 => by rw [hN, yS_oi _ _ _ _ z1, yS_oi _ _ _ _ z2]
    have n4o : ∀ q, q ≠ 50 → N q = M q := fun q z => funext fun i => by rw [hN, yS_op _ _ _ _ z, yS_op _ _ _ _ z, m4o q z]
    have n8 : N 50 8 = -1 := by rw [hN, yS_at]
    have n39 : N 50 39 = nI (begB b) := by rw [hN, yS_oi _ _ _ _ (by decide), yS_at]
    have n7 : N 50 7 = nI (bDy b + 1) := by rw [n4 7 (by decide) (by decide)]; exact m7
    have n10 : N 50 10 = 0 := by rw [n4 10 (by decide) (by decide)]; exact m10
    have nn : ∀ i, i ≠ 7 → i ≠ 8 → i ≠ 10 → i ≠ 39 → N 50 i = M 50 i := fun i z1 z2 z3 z4 => by rw [n4 i z2 z4, m4 i z1 z3]
    rw [← hN, n39]
    have hEN : ME N b := ⟨by rw [nn 0 (by decide) (by decide) (by decide) (by decide)]; exact b0, fun w hw => by rw [n4o 51 (by decide), n4o 52 (by decide), n4o 53 (by decide)]; exact hB.me.2 w hw⟩
    have he := (enB_is hbe).2.2
    rw [q_entryOn hK hW.1 hEN hbe, Option.bind_some]
    have hBN : MR N (bE b, bK b, bM b, bZ b, bT b, bR b, bDn b, bDs b, bPg b, bDy b + 1, -1, bSk b, 0, bLw b) := MR_mk (by rw [nn 0 (by decide) (by decide) (by decide) (by decide)]; exact b0) (by rw [nn 4 (by decide) (by decide) (by decide) (by decide)]; exact b4) (by rw [nn 6 (by decide) (by decide) (by decide) (by decide)]; exact b6) n7 n8 (by rw [nn 9 (by decide) (by decide) (by decide) (by decide)]; exact b9) n10 (by rw [nn 16 (by decide) (by decide) (by decide) (by decide)]; exact b16) (fun w hw => by rw [n4o 51 (by decide), n4o 52 (by decide), n4o 53 (by decide)]; exact bv w hw) (fun d hd => by rw [n4o 54 (by decide)]; exact bd d hd)
    have hWN : WX (bE b, bK b, bM b, bZ b, bT b, bR b, bDn b, bDs b, bPg b, bDy b + 1, -1, bSk b, 0, bLw b) := WX_mk hW (fun w hw => (hW.1.2.1 w hw).2.2.2.2.2) hW.1.2.2.2.1 hd (.inl rfl) (bB_0 12)
    obtain ⟨M6, s1, s2⟩ := q_asksOf (part := 0) (w := enB b (begB b)) hK hWN.1 hBN.me n7 hBN.1.2.2.2.2.2.2.2 hW.2.1 (hX.cg (n4o 57 (by decide)) (n4o 56 (by decide))) hx (by omega) he 0 0
    have s1 : b_X8_asksOf K N 50 0 (nI (enB b (begB b))) 0 0 = some (saysB x (dA b) 0 (enB b (begB b)) 0 0, M6) := s1
    rw [s1, Option.bind_some]
    dsimp only
    obtain ⟨v, v1, v2⟩ := saysB_N x (dA b) (part := 0) (by decide) (enB b (begB b)) 0 0
    have ev : (if saysB x (dA b) 0 (enB b (begB b)) 0 0 ≤ nI (fsB b (bE b)) then some (saysB x (dA b) 0 (enB b (begB b)) 0 0) else some (nI (fsB b (bE b)))) = some (nI (mnyB x b)) := by
      unfold mnyB
      rw [v2, nC (by omega), iteLe (by omega) (by omega)]
      by_cases z : fsB b (bE b) < v
      · rw [if_neg (by omega), if_pos z]
      · rw [if_pos (by omega), if_neg z]
    have hm := mnyB_le x b
    have s2t : M6 50 = N 50 := s2 50 (by decide) (by decide)
    obtain ⟨M7, u1, u2, u3, u4⟩ := q_87 (K := K) (b := b) (be := begB b) (m := mnyB x b) hK hW.1 hbe hm (mnyB x b) 1000 0 M6 ⟨by rw [s2t]; exact hEN.1, fun w hw => by rw [s2 51 (by decide) (by decide), s2 52 (by decide) (by decide), s2 53 (by decide) (by decide)]; exact hEN.2 w hw⟩ (by rw [s2t, nn 9 (by decide) (by decide) (by decide) (by decide)]; exact b9) (by rw [s2t]; exact n39) (by rw [s2t]; exact n10) (by omega) (by omega)
    have k7 : ∀ i, i ≠ 10 → M7 50 i = N 50 i := fun i z => by rw [u3 i z, s2t]
    obtain ⟨M8, r1, r2, r3, r4⟩ := q_143 (K := K) (dy := bDy b + 1) (b := b) (cm := moF b (begB b) (mnyB x b)) (x1 := nI (fsB b (bE b))) (x2 := nI (mnyB x b)) hK hW.1 (bE b) 1000 0 M7 (by rw [k7 0 (by decide)]; exact hEN.1) u2 (by rw [k7 7 (by decide)]; exact n7) (by omega) (by omega)
    have e8 : M8 50 = M7 50 := r4 50 (by decide)
    rw [ev, Option.bind_some, show b_X8_dayOf_87 K 50 (nI (fsB b (bE b))) (nI (mnyB x b)) 1000 M6 0 = some M7 from u1, Option.bind_some, show b_X8_dayOf_143 K 50 (nI (fsB b (bE b))) (nI (mnyB x b)) 1000 M7 0 = some M8 from r1, Option.bind_some, if_pos hz, e8, k7 39 (by decide), n39, addN, remN (by omega) (by omega) (by omega), Option.bind_some]
    have k8 : ∀ i, i ≠ 6 → i ≠ 10 → yS M8 50 6 (nI ((begB b + mnyB x b) % fsB b (bE b))) 50 i = N 50 i := fun i z1 z2 => by rw [yS_oi _ _ _ _ z1, e8, k7 i z2]
    have ko : ∀ q, q ≠ 50 → q ≠ 53 → q ≠ 67 → q ≠ 68 → yS M8 50 6 (nI ((begB b + mnyB x b) % fsB b (bE b))) q = M q := fun q z1 z2 z3 z4 => by rw [show yS M8 50 6 (nI ((begB b + mnyB x b) % fsB b (bE b))) q = M8 q from funext fun z => yS_op _ _ _ _ z1 z, r4 q z2, u4 q z1, s2 q z3 z4, n4o q z1]
    have k53 : M7 53 = M 53 := by rw [u4 53 (by decide), s2 53 (by decide) (by decide), n4o 53 (by decide)]
    refine ⟨_, rfl, ?_, ?_, fun i z1 z2 z3 z4 z5 => ?_, ko⟩
    · unfold dyB
      rw [if_neg c]
      refine MR_mk (by rw [k8 0 (by decide) (by decide)]; exact hEN.1) (by rw [k8 4 (by decide) (by decide), nn 4 (by decide) (by decide) (by decide) (by decide)]; exact b4) (by rw [yS_at]) (by rw [k8 7 (by decide) (by decide)]; exact n7) (by rw [k8 8 (by decide) (by decide)]; exact n8) (by rw [k8 9 (by decide) (by decide), nn 9 (by decide) (by decide) (by decide) (by decide)]; exact b9) (by rw [yS_oi _ _ _ _ (by decide), e8, u2, cm_mo hW.1 hbe hm]) (by rw [k8 16 (by decide) (by decide), nn 16 (by decide) (by decide) (by decide) (by decide)]; exact b16) (fun w hw => ?_) (fun d hd => by rw [ko 54 (by decide) (by decide) (by decide) (by decide)]; exact bd d hd)
      rw [ko 51 (by decide) (by decide) (by decide) (by decide), ko 52 (by decide) (by decide) (by decide) (by decide), yS_op _ _ _ _ (by decide), yS_op _ _ _ _ (by decide), yS_op _ _ _ _ (by decide), r3 (3 * w) (fun v _ => by omega), r3 (3 * w + 1) (fun v _ => by omega), r2 w (by omega) hw, k53, (bv w hw).2.2.2.2, ← cm_mo hW.1 hbe hm, cmF_bt (bE b) (by omega) w (by omega), dc hw, Bool.true_and]
      exact ⟨(bv w hw).1, (bv w hw).2.1, (bv w hw).2.2.1, (bv w hw).2.2.2.1, rfl⟩
    · rw [if_neg c, k8 39 (by decide) (by decide)]
      exact n39
    · rw [k8 i z1 z4]
      exact nn i z2 z3 z4 z5
