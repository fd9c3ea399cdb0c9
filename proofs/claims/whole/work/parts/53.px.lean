/-! road, when -/
def rdG (x : Int32) : Int32 := if (-1 : Int32) ≤ x then (if 0 ≤ x then x else -2) else -1
theorem rd_g {k : Nat} (hk : k < 1000) : rdV k = rdG (vI 1 k) := by
  unfold rdV rdG
  rcases Nat.eq_zero_or_pos k with h | h
  · subst h; decide
  · have e : vI 1 k = nI (k - 1) := subN h
    rw [e, if_neg (nI_m1 (by omega)), if_pos (show (-1 : Int32) ≤ nI (k - 1) by rw [i_le, i_m1, nJ (by omega)]; omega), if_pos (ge0 (by omega))]
theorem a_road {K : yK} {M : yM} {b ib : Bk} {im : Bool} {tn ts : Nat} {tx : Nat → Tx} {tp so : Nat → Int32} {sz : Nat → Nat} {ce : Nat → Nat → Int32} (h : IN K M b ib im tn ts tx tp so sz ce) (x1 x2 x3 : Int32) : AL K (fun M => b_X7_road K M 0 x1 x2 x3) (fun M => b_X8_road K M 50 x1 x2 x3) M := by
  obtain ⟨hK, hW, hd, hl, hT, hx, hB, hS, hXs, hX⟩ := h.cls
  have h12 := hW.1.1
  have c_has := p_has hK iB7 hB.1.1 h12 x1
  have hQ0 := h.qb (Fc.rf M)
  have m_has := q_isEntry hK hQ0.1.1.1 h12 x1
  by_cases c0 : isN x1 (bE b) = true
  · obtain ⟨w, hw, rfl⟩ := isN_of c0
    by_cases c1 : 0 ≤ x2 ∧ x2 ≤ 60
    · by_cases c2 : 0 ≤ x3 ∧ x3 ≤ 1
      · obtain ⟨n, hn, rfl⟩ := in_N (e := 60) (by decide) c1
        obtain ⟨A, hA⟩ : ∃ A, A = wS (tx (bLw b)) noT b n := ⟨_, rfl⟩
        obtain ⟨W, hWd⟩ : ∃ W, W = fun k => wS (tx (bLw b)) noT (toB b w (vI 1 k)) n := ⟨_, rfl⟩
        obtain ⟨M0, z1, z2⟩ := p_worthIf (n := n) (c := b) hK hx hn hB hS (CH_0 hK hW hd 0 0) rfl hX
        rw [← hA] at z1
        obtain ⟨M1, p1, p2⟩ := p_best (c := fun k => toB b w (vI 1 k)) (n := n) (o := 1) (ch := 5) (w := nI w) (sign := 1) (bd := A) hK hx hn (by omega) h12 (fun k hk => ⟨CH_5 hK hW hd hw (vI_1 (by omega)), rfl⟩) (z2.br hB) (z2.bs hS) (z2.xT hX)
        rw [w1, ← hWd, Int32.one_mul] at p1
        have p1 : b_X7_best K M0 0 5 (nI w) (-1) (nI n) 1 A = some ((beF W (vI 1) (bE b + 1) 0 (-2) A).1, M1) := p1
        have f1 := z2.tr p2
        have hmap : beF W rdV (bE b + 1) 0 (-1) A = (rdG (beF W (vI 1) (bE b + 1) 0 (-2) A).1, (beF W (vI 1) (bE b + 1) 0 (-2) A).2) := by
          rw [← beF_map W (vI 1) rdG (bE b + 1) 0 (-2) A]
          exact beF_cg (bE b + 1) 0 (-1) A (fun j _ hj => ⟨rfl, rd_g (by omega)⟩)
        have gl : ∀ M', QB tn tx b M' → ∃ M2 M3, b_X8_goes K M' 50 (nI n) = some (A, M2) ∧ b_X8_road_46 K 50 (nI w) (nI n) x3 1000 M2 (-1) A (-1) = some (rdG (beF W (vI 1) (bE b + 1) 0 (-2) A).1, (beF W (vI 1) (bE b + 1) 0 (-2) A).2, M3) ∧ QB tn tx b M3 ∧ Ms M' M3 := by
          intro M' hQ
          obtain ⟨M2, g1, g2, g3⟩ := q_w (n := n) hK hT hn hW hd hl hQ
          obtain ⟨M3, e1, e2, e3⟩ := q_road_loop (x3 := x3) hK hT hn hW hd hl hw (bE b + 1) 1000 0 M2 (-1) A (by omega) (by omega) g2
          rw [← hWd, mx_be, hmap] at e1
          exact ⟨M2, M3, by rw [hA]; exact g1, e1, e2, g3.tr e3⟩
        rcases zo_of c2 with rfl | rfl
        · obtain ⟨M2, M3, g1, g2, g3, g4⟩ := gl M1 (h.qb f1)
          refine AL.q (r := rdG (beF W (vI 1) (bE b + 1) 0 (-2) A).1) h (M1 := M1) (M2 := M3) ?_ f1 ?_ g4 g3.1
          · show b_X7_road K M 0 (nI w) (nI n) 0 = _
            unfold b_X7_road
            rw [if_pos hK.o0, hK.r00, Option.bind_some, if_pos hK.o7, c_has, Option.bind_some, if_pos c0, c_isDays, Option.bind_some, ifd c1, c_zo, Option.bind_some, ifd c2, z1, Option.bind_some]
            dsimp only
            rw [p1, Option.bind_some, if_neg (by decide)]
            unfold rdG
            dsimp only
            by_cases y : (-1 : Int32) ≤ (beF W (vI 1) (bE b + 1) 0 (-2) A).1
            · rw [if_pos y, if_pos y]
              by_cases v : (0 : Int32) ≤ (beF W (vI 1) (bE b + 1) 0 (-2) A).1
              · rw [if_pos v, if_pos v]
              · rw [if_neg v, if_neg v]
            · rw [if_neg y, if_neg y]
          · show b_X8_road K M1 50 (nI w) (nI n) 0 = _
            unfold b_X8_road
            rw [if_pos hK.mo, q_isEntry hK (h.qb f1).1.1.1 h12, Option.bind_some, if_pos c0, q_in, Option.bind_some, ifd c1, q_in, Option.bind_some, ifd c2, g1, Option.bind_some]
            dsimp only
            rw [g2, Option.bind_some, if_pos rfl]
        · rcases beF_val W (vI 1) (bE b + 1) 0 (-2) A with q | ⟨j, j1, j2, j3⟩
          · obtain ⟨M2, M3, g1, g2, g3, g4⟩ := gl M1 (h.qb f1)
            refine AL.q (r := A) h (M1 := M1) (M2 := M3) ?_ f1 ?_ g4 g3.1
            · show b_X7_road K M 0 (nI w) (nI n) 1 = _
              unfold b_X7_road
              rw [if_pos hK.o0, hK.r00, Option.bind_some, if_pos hK.o7, c_has, Option.bind_some, if_pos c0, c_isDays, Option.bind_some, ifd c1, c_zo, Option.bind_some, ifd c2, z1, Option.bind_some]
              dsimp only
              rw [p1, Option.bind_some, if_pos rfl, q, if_neg (show ¬ (-1 : Int32) ≤ -2 by decide)]
            · show b_X8_road K M1 50 (nI w) (nI n) 1 = _
              unfold b_X8_road
              rw [if_pos hK.mo, q_isEntry hK (h.qb f1).1.1.1 h12, Option.bind_some, if_pos c0, q_in, Option.bind_some, ifd c1, q_in, Option.bind_some, ifd c2, g1, Option.bind_some]
              dsimp only
              rw [g2, Option.bind_some, if_neg (by decide), q]
          · obtain ⟨M4, s1, s2⟩ := p_worthIf (n := n) (c := toB b w (vI 1 j)) hK hx hn (f1.br hB) (f1.bs hS) (CH_5 hK hW hd hw (vI_1 (by omega))) rfl (f1.xT hX)
            obtain ⟨M2, M3, g1, g2, g3, g4⟩ := gl M4 (h.qb (f1.tr s2))
            have hge : (-1 : Int32) ≤ vI 1 j := by
              rcases vI_1 (k := j) (by omega) with e | ⟨i, i1, i2⟩
              · rw [e]; decide
              · rw [i2, i_le, i_m1, nJ (by omega)]; omega
            refine AL.q (r := W j) h (M1 := M4) (M2 := M3) ?_ (f1.tr s2) ?_ g4 g3.1
            · show b_X7_road K M 0 (nI w) (nI n) 1 = _
              unfold b_X7_road
              rw [if_pos hK.o0, hK.r00, Option.bind_some, if_pos hK.o7, c_has, Option.bind_some, if_pos c0, c_isDays, Option.bind_some, ifd c1, c_zo, Option.bind_some, ifd c2, z1, Option.bind_some]
              dsimp only
              rw [p1, Option.bind_some, if_pos rfl, j3, if_pos hge, s1, Option.bind_some, hWd]
            · show b_X8_road K M4 50 (nI w) (nI n) 1 = _
              unfold b_X8_road
              rw [if_pos hK.mo, q_isEntry hK (h.qb (f1.tr s2)).1.1.1 h12, Option.bind_some, if_pos c0, q_in, Option.bind_some, ifd c1, q_in, Option.bind_some, ifd c2, g1, Option.bind_some]
              dsimp only
              rw [g2, Option.bind_some, if_neg (by decide), j3]
      · refine AL.no (r := -7) h ?_ ?_
        · show b_X7_road K M 0 (nI w) x2 x3 = _
          unfold b_X7_road
          rw [if_pos hK.o0, hK.r00, Option.bind_some, if_pos hK.o7, c_has, Option.bind_some, if_pos c0, c_isDays, Option.bind_some, ifd c1, c_zo, Option.bind_some, ifn c2]
        · show b_X8_road K M 50 (nI w) x2 x3 = _
          unfold b_X8_road
          rw [if_pos hK.mo, m_has, Option.bind_some, if_pos c0, q_in, Option.bind_some, ifd c1, q_in, Option.bind_some, ifn c2]
    · refine AL.no (r := -7) h ?_ ?_
      · show b_X7_road K M 0 (nI w) x2 x3 = _
        unfold b_X7_road
        rw [if_pos hK.o0, hK.r00, Option.bind_some, if_pos hK.o7, c_has, Option.bind_some, if_pos c0, c_isDays, Option.bind_some, ifn c1]
      · show b_X8_road K M 50 (nI w) x2 x3 = _
        unfold b_X8_road
        rw [if_pos hK.mo, m_has, Option.bind_some, if_pos c0, q_in, Option.bind_some, ifn c1]
  · refine AL.no (r := -5) h ?_ ?_
    · show b_X7_road K M 0 x1 x2 x3 = _
      unfold b_X7_road
      rw [if_pos hK.o0, hK.r00, Option.bind_some, if_pos hK.o7, c_has, Option.bind_some, if_neg c0]
    · show b_X8_road K M 50 x1 x2 x3 = _
      unfold b_X8_road
      rw [if_pos hK.mo, m_has, Option.bind_some, if_neg c0]
theorem p_hasDeed {K : yK} {M : yM} {t e : Nat} (hK : KSh K) (ht : isB t) (h9 : M t 9 = nI e) (hE : e ≤ 6) (x : Int32) : b_X0_hasDeed K M t x = some (isN x e) := by
  unfold b_X0_hasDeed
  by_cases h : x < 0
  · rw [if_pos h, isN_neg h]
  · obtain ⟨j, hj, rfl⟩ := nI_of h
    rw [if_neg h, if_pos (hK.bo ht), h9, iteLe (by omega) hj, isN_nI hj]
    by_cases c : e ≤ j
    · rw [if_pos c, dcF (by omega)]
    · rw [if_neg c, show (6 : Int32) = nI 6 from rfl, iteLe (by omega) hj, if_neg (by omega), dc (by omega)]
/-- the model goes and watches -/
theorem q_watch {K : yK} {M : yM} {tn : Nat} {tx : Nat → Tx} {b : Bk} {n : Nat} {u v : Int32} (hK : KSh K) (hT : TX tn tx) (hn : n ≤ 60) (hW : WX b) (hd : bDy b ≤ 999) (hl : bLw b < tn) (hQ : QB tn tx b M) (hu : u = -1 ∨ ∃ j, j < 6 ∧ u = nI j) (hv : v = -1 ∨ ∃ j, j < 12 ∧ v = nI j) :
    ∃ a M1, b_X8_goes K (yS (yS M 50 50 v) 50 49 u) 50 (nI n) = some (a, M1) ∧ M1 50 47 = fS (tx (bLw b)) noT b u (hdB (tx (bLw b))) n ∧ M1 50 48 = fS (tx (bLw b)) noT b v (heB (tx (bLw b))) n ∧ MR (yS (yS M1 50 50 (-1)) 50 49 (-1)) b ∧ Ms M (yS (yS M1 50 50 (-1)) 50 49 (-1)) := by
  have q1 := hQ.1
  have hmr : ∀ (N : yM) (x y : Int32), MR N b → MR (yS (yS N 50 50 x) 50 49 y) b := fun N x y hN => hN.cgi (fun i hi => by rw [yS_oi _ _ _ _ (by omega), yS_oi _ _ _ _ (by omega)]) (fun q h1 h2 => by rw [yS_q _ _ _ (by omega), yS_q _ _ _ (by omega)])
  obtain ⟨M1, g1, g2, ⟨-, -, -, -, -, g3, g4⟩, g5⟩ := q_goes (m := n) hK hW (hT _ hl) hn hd hu hv (hmr M v u q1) ((hQ.2.2.2 _ hl).cg (by rw [yS_q _ _ _ (by omega), yS_q _ _ _ (by omega)]) (by rw [yS_q _ _ _ (by omega), yS_q _ _ _ (by omega)])) (yS_at _ _ _ _) (by rw [yS_oi _ _ _ _ (by decide), yS_at])
  refine ⟨_, M1, g1, g3, g4, hmr M1 _ _ g2, fun i hi => ?_, fun q hq => ?_⟩
  · by_cases e : i = 49
    · rw [e, yS_at]; exact hQ.2.1.symm
    · rw [yS_oi _ _ _ _ e]
      by_cases e2 : i = 50
      · rw [e2, yS_at]; exact hQ.2.2.1.symm
      · rw [yS_oi _ _ _ _ e2, g5.1 i (by omega) (by omega), yS_oi _ _ _ _ e, yS_oi _ _ _ _ e2]
  · rw [yS_q _ _ _ (by omega), yS_q _ _ _ (by omega), g5.2 q (by omega) (by omega) (by omega) (by omega) (by omega) (by omega), yS_q _ _ _ (by omega), yS_q _ _ _ (by omega)]
theorem a_when {K : yK} {M : yM} {b ib : Bk} {im : Bool} {tn ts : Nat} {tx : Nat → Tx} {tp so : Nat → Int32} {sz : Nat → Nat} {ce : Nat → Nat → Int32} (h : IN K M b ib im tn ts tx tp so sz ce) (x1 x2 x3 : Int32) : AL K (fun M => b_X7_when K M 0 x1 x2 x3) (fun M => b_X8_when K M 50 x1 x2 x3) M := by
  obtain ⟨hK, hW, hd, hl, hT, hx, hB, hS, hXs, hX⟩ := h.cls
  have h12 := hW.1.1
  have h6 := hW.1.2.2.1
  have c_has := p_has hK iB7 hB.1.1 h12 x2
  have c_hd := p_hasDeed hK iB7 hB.1.2.1 h6 x2
  have hQ0 := h.qb (Fc.rf M)
  have m_has := q_isEntry hK hQ0.1.1.1 h12 x2
  have m_hd := q_isDeed hK hQ0.1.1.2.1 (show bDn b ≤ 12 by omega) x2
  by_cases s0 : x1 = 0
  · subst s0
    by_cases c0 : isN x2 (bE b) = true
    · by_cases c1 : 0 ≤ x3 ∧ x3 ≤ 60
      · obtain ⟨w, hw, rfl⟩ := isN_of c0
        obtain ⟨n, hn, rfl⟩ := in_N (e := 60) (by decide) c1
        obtain ⟨M1, t1, t2, t3, t4⟩ := TH_0 hK hW 0 0 M hB hS
        obtain ⟨M2, p1, p2⟩ := p_when_loop (o := w) (sort := 0) (m := n) hK hW hx hn hd n 1000 0 M1 (by omega) (by omega) t2 t3 (t4.xT hX)
        have f2 := t4.tr p1
        have hq := h.qb f2
        obtain ⟨a, M3, g1, g2, g3, g4, g5⟩ := q_watch (n := n) (u := -1) (v := nI w) hK hT hn hW hd hl hq (.inl rfl) (.inr ⟨w, by omega, rfl⟩)
        refine AL.q (r := fiF (tx (bLw b)) b (heB (tx (bLw b))) w n 0) h (M1 := M2) (M2 := yS (yS M3 50 50 (-1)) 50 49 (-1)) ?_ f2 ?_ g5 g4
        · show b_X7_when K M 0 0 (nI w) (nI n) = _
          unfold b_X7_when
          rw [if_pos rfl, if_pos hK.o0, hK.r00, Option.bind_some, if_pos hK.o7, c_has, Option.bind_some, Option.bind_some, if_pos c0, c_isDays, Option.bind_some, ifd c1, if_pos hK.o0, t1, Option.bind_some]
          exact p2
        · show b_X8_when K M2 50 0 (nI w) (nI n) = _
          unfold b_X8_when
          rw [if_pos rfl, if_pos rfl, if_pos hK.mo, q_isEntry hK hq.1.1.1 h12, Option.bind_some, if_pos c0, q_in, Option.bind_some, ifd c1, if_pos rfl, Option.bind_some, Option.bind_some, if_neg (by decide), Option.bind_some, Option.bind_some, g1, Option.bind_some, Option.bind_some, Option.bind_some, if_pos rfl, yS_oi _ _ _ _ (by decide), yS_oi _ _ _ _ (by decide)]
          dsimp only
          rw [g3, fS_fi (by omega) (by omega)]
      · refine AL.no (r := -7) h ?_ ?_
        · show b_X7_when K M 0 0 x2 x3 = _
          unfold b_X7_when
          rw [if_pos rfl, if_pos hK.o0, hK.r00, Option.bind_some, if_pos hK.o7, c_has, Option.bind_some, Option.bind_some, if_pos c0, c_isDays, Option.bind_some, ifn c1]
        · show b_X8_when K M 50 0 x2 x3 = _
          unfold b_X8_when
          rw [if_pos rfl, if_pos rfl, if_pos hK.mo, m_has, Option.bind_some, if_pos c0, q_in, Option.bind_some, ifn c1]
    · refine AL.no (r := -5) h ?_ ?_
      · show b_X7_when K M 0 0 x2 x3 = _
        unfold b_X7_when
        rw [if_pos rfl, if_pos hK.o0, hK.r00, Option.bind_some, if_pos hK.o7, c_has, Option.bind_some, Option.bind_some, if_neg c0]
      · show b_X8_when K M 50 0 x2 x3 = _
        unfold b_X8_when
        rw [if_pos rfl, if_pos rfl, if_pos hK.mo, m_has, Option.bind_some, if_neg c0]
  · by_cases s1 : x1 = 1
    · subst s1
      by_cases c0 : isN x2 (bDn b) = true
      · by_cases c1 : 0 ≤ x3 ∧ x3 ≤ 60
        · obtain ⟨w, hw, rfl⟩ := isN_of c0
          obtain ⟨n, hn, rfl⟩ := in_N (e := 60) (by decide) c1
          obtain ⟨M1, t1, t2, t3, t4⟩ := TH_0 hK hW 0 0 M hB hS
          obtain ⟨M2, p1, p2⟩ := p_when_loop (o := w) (sort := 1) (m := n) hK hW hx hn hd n 1000 0 M1 (by omega) (by omega) t2 t3 (t4.xT hX)
          have f2 := t4.tr p1
          have hq := h.qb f2
          obtain ⟨a, M3, g1, g2, g3, g4, g5⟩ := q_watch (n := n) (u := nI w) (v := -1) hK hT hn hW hd hl hq (.inr ⟨w, by omega, rfl⟩) (.inl rfl)
          refine AL.q (r := fiF (tx (bLw b)) b (hdB (tx (bLw b))) w n 0) h (M1 := M2) (M2 := yS (yS M3 50 50 (-1)) 50 49 (-1)) ?_ f2 ?_ g5 g4
          · show b_X7_when K M 0 1 (nI w) (nI n) = _
            unfold b_X7_when
            rw [if_neg (by decide), if_pos rfl, if_pos hK.o0, hK.r00, Option.bind_some, if_pos hK.o7, c_hd, Option.bind_some, if_pos c0, Option.bind_some, if_pos rfl, c_isDays, Option.bind_some, ifd c1, if_pos hK.o0, t1, Option.bind_some]
            exact p2
          · show b_X8_when K M2 50 1 (nI w) (nI n) = _
            unfold b_X8_when
            rw [if_neg (by decide), if_pos rfl, if_neg (by decide), if_pos hK.mo, q_isDeed hK hq.1.1.2.1 (show bDn b ≤ 12 by omega), Option.bind_some, if_pos c0, q_in, Option.bind_some, ifd c1, if_neg (by decide), Option.bind_some, Option.bind_some, if_pos rfl, Option.bind_some, Option.bind_some, g1, Option.bind_some, Option.bind_some, Option.bind_some, if_neg (by decide), yS_oi _ _ _ _ (by decide), yS_oi _ _ _ _ (by decide)]
            dsimp only
            rw [g2, fS_fi (by omega) (by omega)]
        · refine AL.no (r := -7) h ?_ ?_
          · show b_X7_when K M 0 1 x2 x3 = _
            unfold b_X7_when
            rw [if_neg (by decide), if_pos rfl, if_pos hK.o0, hK.r00, Option.bind_some, if_pos hK.o7, c_hd, Option.bind_some, if_pos c0, Option.bind_some, if_pos rfl, c_isDays, Option.bind_some, ifn c1]
          · show b_X8_when K M 50 1 x2 x3 = _
            unfold b_X8_when
            rw [if_neg (by decide), if_pos rfl, if_neg (by decide), if_pos hK.mo, m_hd, Option.bind_some, if_pos c0, q_in, Option.bind_some, ifn c1]
      · refine AL.no (r := -5) h ?_ ?_
        · show b_X7_when K M 0 1 x2 x3 = _
          unfold b_X7_when
          rw [if_neg (by decide), if_pos rfl, if_pos hK.o0, hK.r00, Option.bind_some, if_pos hK.o7, c_hd, Option.bind_some, if_neg c0, Option.bind_some, if_neg (by decide)]
        · show b_X8_when K M 50 1 x2 x3 = _
          unfold b_X8_when
          rw [if_neg (by decide), if_pos rfl, if_neg (by decide), if_pos hK.mo, m_hd, Option.bind_some, if_neg c0]
    · refine AL.no (r := -5) h ?_ ?_
      · show b_X7_when K M 0 x1 x2 x3 = _
        unfold b_X7_when
        rw [if_neg s0, if_neg s1, Option.bind_some, if_neg (by decide)]
      · show b_X8_when K M 50 x1 x2 x3 = _
        unfold b_X8_when
        rw [if_neg s0, if_neg s1]
