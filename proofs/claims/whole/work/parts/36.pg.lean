/-! a day -/
def dA (b : Bk) : Bk := (bE b, bK b, bM b, bZ b, bT b, bR b, bDn b, bDs b, bPg b, bDy b + 1, bBm b, bSk b, 0, bLw b)
def begB (b : Bk) : Nat := if isN (bBm b) (bE b) = true then fsB b (bBm b).toNatClampNeg else bPg b % fsB b (bE b)
def mnyB (x : Tx) (b : Bk) : Nat := if fsB b (bE b) < (saysB x (dA b) 0 (enB b (begB b)) 0 0).toNatClampNeg then fsB b (bE b) else (saysB x (dA b) 0 (enB b (begB b)) 0 0).toNatClampNeg
def dyB (x : Tx) (b : Bk) : Bk := if fsB b (bE b) = 0 then dA b else (bE b, bK b, bM b, bZ b, bT b, fun w => if hitB b (begB b) (mnyB x b) w = true then nI (bDy b + 1) else bR b w, bDn b, bDs b, (begB b + mnyB x b) % fsB b (bE b), bDy b + 1, -1, bSk b, cmF b (begB b) (mnyB x b) (bE b), bLw b)
def bgB (b : Bk) : Nat := if fsB b (bE b) = 0 then bPg b else begB b
theorem clS_N (v : Int32) : ∃ m, m ≤ 99 ∧ clS v = nI m := by
  unfold clS
  have h99 : (99 : Int32).toInt = 99 := by decide
  by_cases c : v < 99
  · rw [if_pos c]
    by_cases d : 0 < v
    · rw [if_pos d]
      rw [i_lt, h99] at c
      rw [i_lt, i_0] at d
      obtain ⟨j, hj, rfl⟩ := nI_of (x := v) (by rw [i_lt, i_0]; omega)
      rw [nJ hj] at c
      exact ⟨j, by omega, rfl⟩
    · rw [if_neg d]; exact ⟨0, by omega, rfl⟩
  · rw [if_neg c, if_pos (by decide)]; exact ⟨99, by omega, rfl⟩
theorem saysB_N (x : Tx) (b : Bk) {part : Nat} (hp : part ≠ 1) (w : Nat) (m be : Int32) : ∃ v, v ≤ 99 ∧ saysB x b part w m be = nI v := by
  unfold saysB
  rw [if_neg hp]
  exact clS_N _
theorem begB_lt {b : Bk} (hW : WB b) (hP : fsB b (bE b) ≠ 0) : begB b < fsB b (bE b) := by
  unfold begB
  by_cases c : isN (bBm b) (bE b) = true
  · rw [if_pos c]
    obtain ⟨j, hj, e⟩ := isN_of c
    have h12 := hW.1
    rw [e, nC (by omega)]
    have h1 : fsB b j < fsB b (j + 1) := by
      have := tkB_le hW hj
      show fsB b j < fsB b j + tkB b j
      omega
    have h2 : fsB b (j + 1) ≤ fsB b (bE b) := fsB_mono (by omega)
    omega
  · rw [if_neg c]
    exact Nat.mod_lt _ (by omega)
theorem mnyB_le (x : Tx) (b : Bk) : mnyB x b ≤ fsB b (bE b) := by
  unfold mnyB
  split <;> omega
theorem WX_mk {b : Bk} {R : Nat → Int32} {pg dy : Nat} {bm cm : Int32} (hW : WX b) (hR : ∀ w, w < bE b → (R w = -1 ∨ ∃ j, j < 2000 ∧ R w = nI j)) (hpg : pg < 1000) (hdy : dy < 2000) (hbm : bm = -1 ∨ ∃ j, j < bE b ∧ bm = nI j) (hcm : bB cm 12) : WX (bE b, bK b, bM b, bZ b, bT b, R, bDn b, bDs b, pg, dy, bm, bSk b, cm, bLw b) := by
  obtain ⟨⟨w1, w2, w3, w4, w5, w6⟩, w7, w8, w9, w10⟩ := hW
  refine ⟨⟨w1, fun w hw => ?_, w3, hpg, hdy, hbm⟩, w7, hcm, w9, w10⟩
  obtain ⟨q1, q2, q3, q4, q5, q6⟩ := w2 w hw
  exact ⟨q1, q2, q3, q4, q5, hR w hw⟩
theorem dA_W {b : Bk} (hW : WX b) (hd : bDy b + 1 < 2000) : WX (dA b) := WX_mk hW (fun w hw => (hW.1.2.1 w hw).2.2.2.2.2) hW.1.2.2.2.1 hd hW.1.2.2.2.2.2 (bB_0 12)
theorem dyB_W {x : Tx} {b : Bk} (hW : WX b) (hd : bDy b + 1 < 2000) : WX (dyB x b) := by
  unfold dyB
  by_cases c : fsB b (bE b) = 0
  · rw [if_pos c]; exact dA_W hW hd
  · rw [if_neg c]
    have h12 := hW.1.1
    have hP := (fsB_le hW.1 (bE b) (Nat.le_refl _)).2
    have hmod := Nat.mod_lt (begB b + mnyB x b) (show 0 < fsB b (bE b) by omega)
    refine WX_mk hW (fun w hw => ?_) (by omega) hd (.inl rfl) (fun i hi => ?_)
    · by_cases z : hitB b (begB b) (mnyB x b) w = true
      · rw [if_pos z]; exact .inr ⟨_, hd, rfl⟩
      · rw [if_neg z]; exact (hW.1.2.1 w hw).2.2.2.2.2
    · by_cases z : i < 32
      · rw [cmF_bt (bE b) (by omega) i z, dcF (by omega)]; rfl
      · exact b_big (by omega)
theorem p_pages {K : yK} {M : yM} {t : Nat} {b : Bk} (hK : KSh K) (ht : isB t) (hW : WB b) (h8 : M t 8 = nI (bE b)) (hS : M (t + 6) (bE b) = nI (fsB b (bE b))) : b_X0_pages K M t = some (nI (fsB b (bE b))) := by
  have h12 := hW.1
  unfold b_X0_pages b_X0_firstOf
  rw [if_pos (hK.bo ht), h8, if_neg (nI_pos (by omega)), if_pos (hK.bo ht), hK.br ht (f := 5) (by omega), Option.bind_some, show t + 1 + 5 = t + 6 by omega, if_pos (gI_N (hK.b6 ht)), len_N (hK.b6 ht), iteLe (by omega) (by omega), if_neg (by omega), if_pos (gA_N (hK.b6 ht) (by omega) (by omega)), nC (by omega), hS]
  rfl
theorem BS.cg2 {M M' : yM} {t : Nat} {b : Bk} (h : BS M t b) (h1 : M' (t + 6) = M (t + 6)) (h2 : M' (t + 7) = M (t + 7)) : BS M' t b := by
  unfold BS
  rw [h1, h2]
  exact h
theorem BR_mk {M : yM} {t : Nat} {b : Bk} {R : Nat → Int32} {pg dy : Nat} {bm cm : Int32} (h8 : M t 8 = nI (bE b)) (h9 : M t 9 = nI (bDn b)) (h10 : M t 10 = nI pg) (h11 : M t 11 = nI dy) (h12 : M t 12 = bm) (h13 : M t 13 = bSk b) (h14 : M t 14 = cm) (h15 : M t 15 = nI (bLw b)) (hv : ∀ w, w < bE b → M (t + 1) w = nI (bK b w) ∧ M (t + 2) w = nI (bM b w) ∧ M (t + 3) w = nI (bZ b w) ∧ M (t + 4) w = bT b w ∧ M (t + 5) w = R w) (hd : ∀ d, d < bDn b → M (t + 8) d = bDs b d) : BR M t (bE b, bK b, bM b, bZ b, bT b, R, bDn b, bDs b, pg, dy, bm, bSk b, cm, bLw b) := ⟨⟨h8, h9, h10, h11, h12, h13, h14, h15⟩, hv, hd⟩
theorem BS_mk {M : yM} {t : Nat} {b : Bk} {R : Nat → Int32} {pg dy : Nat} {bm cm : Int32} (h : BS M t b) : BS M t (bE b, bK b, bM b, bZ b, bT b, R, bDn b, bDs b, pg, dy, bm, bSk b, cm, bLw b) := by
  refine ⟨fun w hw => ?_, fun w hw => ?_⟩
  · rw [show fsB (bE b, bK b, bM b, bZ b, bT b, R, bDn b, bDs b, pg, dy, bm, bSk b, cm, bLw b) w = fsB b w from fsB_cg (b := b) (b' := (bE b, bK b, bM b, bZ b, bT b, R, bDn b, bDs b, pg, dy, bm, bSk b, cm, bLw b)) rfl rfl rfl w]; exact h.1 w hw
  · rw [show chB (bE b, bK b, bM b, bZ b, bT b, R, bDn b, bDs b, pg, dy, bm, bSk b, cm, bLw b) w = chB b w from chF_cg (b := b) (b' := (bE b, bK b, bM b, bZ b, bT b, R, bDn b, bDs b, pg, dy, bm, bSk b, cm, bLw b)) rfl rfl rfl 12 (nI w) 0]; exact h.2 w hw
theorem p_passDay {K : yK} {M : yM} {t : Nat} {b : Bk} {x : Tx} (hK : KSh K) (ht : isB t) (hW : WX b) (hd : bDy b + 1 < 2000) (hB : BR M t b) (hS : BS M t b) (hX : xT K M (bLw b) x) (hx : TxW x) : ∃ M', b_X0_passDay K M t = some M' ∧ BR M' t (dyB x b) ∧ BS M' t (dyB x b) ∧ M' t 16 = nI (bgB b) ∧ (∀ i, i < 8 ∨ 16 < i → M' t i = M t i) ∧ ∀ q, q ≠ 5 → q ≠ 6 → (q < t ∨ t + 8 < q) → M' q = M q := by
  have h12 := hW.1.1
  have hP := (fsB_le hW.1 (bE b) (Nat.le_refl _)).2
  have t7 : 7 ≤ t ∧ t ≤ 25 := by rcases ht with rfl | rfl | rfl <;> omega
  obtain ⟨⟨b8, b9, b10, b11, b12, b13, b14, b15⟩, bv, bd⟩ := id hB
  obtain ⟨M4, hM4⟩ : ∃ z, z = yS (yS (yS M t 11 (nI (bDy b + 1))) t 14 0) t 16 (nI (bPg b)) := ⟨_, rfl⟩
  have m4 : ∀ i, i ≠ 11 → i ≠ 14 → i ≠ 16 → M4 t i = M t i := fun i z1 z2 z3 => by rw [hM4, yS_oi _ _ _ _ z3, yS_oi _ _ _ _ z2, yS_oi _ _ _ _ z1]
  have m4o : ∀ q, q ≠ t → M4 q = M q := fun q z => funext fun i => by rw [hM4, yS_op _ _ _ _ z, yS_op _ _ _ _ z, yS_op _ _ _ _ z]
  have m11 : M4 t 11 = nI (bDy b + 1) := by rw [hM4, yS_oi _ _ _ _ (by decide), yS_oi _ _ _ _ (by decide), yS_at]
  have m14 : M4 t 14 = 0 := by rw [hM4, yS_oi _ _ _ _ (by decide), yS_at]
  have m16 : M4 t 16 = nI (bPg b) := by rw [hM4, yS_at]
  have hS4 : BS M4 t b := hS.cg2 (m4o (t + 6) (by omega)) (m4o (t + 7) (by omega))
  unfold b_X0_passDay
  rw [if_pos (hK.bo ht), Option.bind_some, Option.bind_some, Option.bind_some, b11, incN]
  rw [show yS (yS M t 11 (nI (bDy b + 1))) t 14 0 t 10 = nI (bPg b) by rw [yS_oi _ _ _ _ (by decide), yS_oi _ _ _ _ (by decide)]; exact b10, ← hM4]
  rw [p_pages hK ht hW.1 (by rw [m4 8 (by decide) (by decide) (by decide)]; exact b8) (hS4.1 _ (Nat.le_refl _)), Option.bind_some]
  by_cases c : fsB b (bE b) = 0
  · refine ⟨M4, ?_, ?_, ?_, ?_, fun i hi => m4 i (by omega) (by omega) (by omega), fun q _ _ hq => m4o q (by omega)⟩
    · rw [if_pos (show nI (fsB b (bE b)) ≤ 0 by rw [c]; decide)]
    · unfold dyB
      rw [if_pos c]
      exact BR_mk (by rw [m4 8 (by decide) (by decide) (by decide)]; exact b8) (by rw [m4 9 (by decide) (by decide) (by decide)]; exact b9) (by rw [m4 10 (by decide) (by decide) (by decide)]; exact b10) m11 (by rw [m4 12 (by decide) (by decide) (by decide)]; exact b12) (by rw [m4 13 (by decide) (by decide) (by decide)]; exact b13) m14 (by rw [m4 15 (by decide) (by decide) (by decide)]; exact b15) (fun w hw => by rw [m4o (t + 1) (by omega), m4o (t + 2) (by omega), m4o (t + 3) (by omega), m4o (t + 4) (by omega), m4o (t + 5) (by omega)]; exact bv w hw) (fun d hd => by rw [m4o (t + 8) (by omega)]; exact bd d hd)
    · unfold dyB
      rw [if_pos c]
      exact BS_mk hS4
    · unfold bgB
      rw [if_pos c]
      exact m16
  · have hbe := begB_lt hW.1 c
    have hz : ¬ nI (fsB b (bE b)) = 0 := by
      rw [show (0 : Int32) = nI 0 from rfl, eqN (by omega) (by omega)]; exact c
    have hz2 : ¬ nI (fsB b (bE b)) ≤ 0 := by
      rw [show (0 : Int32) = nI 0 from rfl, leN (by omega) (by omega)]; omega
    have ej : (if isN (bBm b) (bE b) = true then (Option.bind (K.2.2 t 5) fun q11 => (if gA K q11 (bBm b) = true then (some (M4 q11 (bBm b).toNatClampNeg)) else none)) else (if ¬ nI (fsB b (bE b)) = 0 then (some (nI (bPg b) - nI (bPg b) / nI (fsB b (bE b)) * nI (fsB b (bE b)))) else none)) = some (nI (begB b)) := by
      unfold begB
      have hpg := hW.1.2.2.2.1
      by_cases z : isN (bBm b) (bE b) = true
      · rw [if_pos z, if_pos z]
        obtain ⟨j, hj, e⟩ := isN_of z
        rw [hK.br ht (f := 5) (by omega), Option.bind_some, show t + 1 + 5 = t + 6 by omega, e, if_pos (gA_N (hK.b6 ht) (by omega) (by omega)), nC (by omega), hS4.1 j (by omega)]
      · rw [if_neg z, if_neg z, if_pos hz, remN (by omega) (by omega) (by omega)]
    rw [if_neg hz2, m4 12 (by decide) (by decide) (by decide), b12, p_has hK ht (by rw [m4 8 (by decide) (by decide) (by decide)]; exact b8) h12, Option.bind_some, m4 10 (by decide) (by decide) (by decide), b10, ej, Option.bind_some, Option.bind_some, Option.bind_some]
    obtain ⟨N, hN⟩ : ∃ z, z = yS (yS M4 t 16 (nI (begB b))) t 12 (-1) := ⟨_, rfl⟩
    have n4 : ∀ i, i ≠ 12 → i ≠ 16 → N t i = M4 t i := fun i z1 z2 => by rw [hN, yS_oi _ _ _ _ z1, yS_oi _ _ _ _ z2]
    have n4o : ∀ q, q ≠ t → N q = M q := fun q z => funext fun i => by rw [hN, yS_op _ _ _ _ z, yS_op _ _ _ _ z, m4o q z]
    have n12 : N t 12 = -1 := by rw [hN, yS_at]
    have n16 : N t 16 = nI (begB b) := by rw [hN, yS_oi _ _ _ _ (by decide), yS_at]
    have n11 : N t 11 = nI (bDy b + 1) := by rw [n4 11 (by decide) (by decide)]; exact m11
    have n14 : N t 14 = 0 := by rw [n4 14 (by decide) (by decide)]; exact m14
    have nn : ∀ i, i ≠ 11 → i ≠ 12 → i ≠ 14 → i ≠ 16 → N t i = M t i := fun i z1 z2 z3 z4 => by rw [n4 i z2 z4, m4 i z1 z3 z4]
    rw [← hN, n16]
    have hSN : BS N t b := hS.cg2 (n4o (t + 6) (by omega)) (n4o (t + 7) (by omega))
    have he := (enB_is hbe).2.2
    rw [p_entryOn hK ht hW.1 (by rw [nn 8 (by decide) (by decide) (by decide) (by decide)]; exact b8) hSN.1 hbe, Option.bind_some]
    have hBN : BR N t (bE b, bK b, bM b, bZ b, bT b, bR b, bDn b, bDs b, bPg b, bDy b + 1, -1, bSk b, 0, bLw b) := BR_mk (by rw [nn 8 (by decide) (by decide) (by decide) (by decide)]; exact b8) (by rw [nn 9 (by decide) (by decide) (by decide) (by decide)]; exact b9) (by rw [nn 10 (by decide) (by decide) (by decide) (by decide)]; exact b10) n11 n12 (by rw [nn 13 (by decide) (by decide) (by decide) (by decide)]; exact b13) n14 (by rw [nn 15 (by decide) (by decide) (by decide) (by decide)]; exact b15) (fun w hw => by rw [n4o (t + 1) (by omega), n4o (t + 2) (by omega), n4o (t + 3) (by omega), n4o (t + 4) (by omega), n4o (t + 5) (by omega)]; exact bv w hw) (fun d hd => by rw [n4o (t + 8) (by omega)]; exact bd d hd)
    have hWN : WX (bE b, bK b, bM b, bZ b, bT b, bR b, bDn b, bDs b, bPg b, bDy b + 1, -1, bSk b, 0, bLw b) := WX_mk hW (fun w hw => (hW.1.2.1 w hw).2.2.2.2.2) hW.1.2.2.2.1 hd (.inl rfl) (bB_0 12)
    obtain ⟨M6, s1, s2⟩ := p_says (part := 0) (w := enB b (begB b)) hK ht hWN.1 hBN hW.2.1 (hX.cg (fun q hq => n4o q (by omega))) hx (by omega) he 0 0
    have s1 : b_X0_says K N t 0 (nI (enB b (begB b))) 0 0 = some (saysB x (dA b) 0 (enB b (begB b)) 0 0, M6) := s1
    rw [s1, Option.bind_some]
    dsimp only
    obtain ⟨v, v1, v2⟩ := saysB_N x (dA b) (part := 0) (by decide) (enB b (begB b)) 0 0
    have ev : (if nI (fsB b (bE b)) < saysB x (dA b) 0 (enB b (begB b)) 0 0 then nI (fsB b (bE b)) else saysB x (dA b) 0 (enB b (begB b)) 0 0) = nI (mnyB x b) := by
      unfold mnyB
      rw [v2, nC (by omega), iteLt (by omega) (by omega)]
      by_cases z : fsB b (bE b) < v
      · rw [if_pos z, if_pos z]
      · rw [if_neg z, if_neg z]
    have hm := mnyB_le x b
    have s2t : M6 t = N t := s2 t (by omega) (by omega)
    obtain ⟨M8, r1, r2, r3, r4, -, r6⟩ := p_readPages_loop (K := K) (t := t) (be := begB b) (m := mnyB x b) (dy := bDy b + 1) (b := b) hK ht hW.1 hbe hm (bE b) 1000 0 M6 (by rw [s2t, nn 8 (by decide) (by decide) (by decide) (by decide)]; exact b8) (by rw [s2t, nn 13 (by decide) (by decide) (by decide) (by decide)]; exact b13) (by rw [s2t]; exact n11) (by rw [s2t]; exact n14) (fun w hw => by rw [s2 (t + 6) (by omega) (by omega)]; exact hSN.1 w hw) (by omega) (by omega)
    have rr : b_X0_readPages K M6 t (nI (begB b)) (nI (mnyB x b)) (nI (fsB b (bE b))) = some M8 := by
      unfold b_X0_readPages
      rw [show b_X0_readPages_3 K t (nI (begB b)) (nI (mnyB x b)) (nI (fsB b (bE b))) 1000 M6 0 = some M8 from r1, Option.bind_some]
    have e16 : M8 t 16 = nI (begB b) := by rw [r3 16 (by decide), s2t]; exact n16
    rw [ev, Option.bind_some, s2t, n16, rr, Option.bind_some, if_pos hz, e16, addN, remN (by omega) (by omega) (by omega), Option.bind_some]
    have k8 : ∀ i, i ≠ 10 → i ≠ 14 → yS M8 t 10 (nI ((begB b + mnyB x b) % fsB b (bE b))) t i = N t i := fun i z1 z2 => by rw [yS_oi _ _ _ _ z1, r3 i z2, s2t]
    have ko : ∀ q, q ≠ t → q ≠ t + 5 → q ≠ 5 → q ≠ 6 → yS M8 t 10 (nI ((begB b + mnyB x b) % fsB b (bE b))) q = M q := fun q z1 z2 z3 z4 => by rw [show yS M8 t 10 (nI ((begB b + mnyB x b) % fsB b (bE b))) q = M8 q from funext fun z => yS_op _ _ _ _ z1 z, r6 q z1 z2, s2 q z3 z4, n4o q z1]
    refine ⟨_, rfl, ?_, ?_, ?_, fun i hi => ?_, fun q z1 z2 hq => ko q (by omega) (by omega) z1 z2⟩
    · unfold dyB
      rw [if_neg c]
      refine BR_mk (by rw [k8 8 (by decide) (by decide), nn 8 (by decide) (by decide) (by decide) (by decide)]; exact b8) (by rw [k8 9 (by decide) (by decide), nn 9 (by decide) (by decide) (by decide) (by decide)]; exact b9) (by rw [yS_at]) (by rw [k8 11 (by decide) (by decide)]; exact n11) (by rw [k8 12 (by decide) (by decide)]; exact n12) (by rw [k8 13 (by decide) (by decide), nn 13 (by decide) (by decide) (by decide) (by decide)]; exact b13) (by rw [yS_oi _ _ _ _ (by decide)]; exact r2) (by rw [k8 15 (by decide) (by decide), nn 15 (by decide) (by decide) (by decide) (by decide)]; exact b15) (fun w hw => ?_) (fun d hd => by rw [ko (t + 8) (by omega) (by omega) (by omega) (by omega)]; exact bd d hd)
      rw [ko (t + 1) (by omega) (by omega) (by omega) (by omega), ko (t + 2) (by omega) (by omega) (by omega) (by omega), ko (t + 3) (by omega) (by omega) (by omega) (by omega), ko (t + 4) (by omega) (by omega) (by omega) (by omega), yS_op _ _ _ _ (by omega), r4 w (by omega) hw, s2 (t + 5) (by omega) (by omega), n4o (t + 5) (by omega), (bv w hw).2.2.2.2]
      exact ⟨(bv w hw).1, (bv w hw).2.1, (bv w hw).2.2.1, (bv w hw).2.2.2.1, rfl⟩
    · unfold dyB
      rw [if_neg c]
      exact BS_mk (hS.cg2 (ko (t + 6) (by omega) (by omega) (by omega) (by omega)) (ko (t + 7) (by omega) (by omega) (by omega) (by omega)))
    · unfold bgB
      rw [if_neg c, k8 16 (by decide) (by decide)]
      exact n16
    · rw [k8 i (by omega) (by omega)]
      exact nn i (by omega) (by omega) (by omega) (by omega)
