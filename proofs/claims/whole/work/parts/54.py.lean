/-! odds -/
theorem lt_K {K K' : yK} {M M' : yM} {x0 x1 x2 : Int32} : ∀ (n : Nat) (d : Int32), b_X7_inLowestTerms_2 K M x0 x1 x2 n d = b_X7_inLowestTerms_2 K' M' x0 x1 x2 n d
  | 0, _ => rfl
  | n + 1, d => by
    rw [b_X7_inLowestTerms_2, b_X7_inLowestTerms_2]
    simp only [Option.bind_some]
    rw [lt_K n]
theorem lw_K {K K' : yK} {M M' : yM} {w0 w2 : Int64} {x4 : Int32} : ∀ (n : Nat) (a b : Int64), b_X8_lowest_16 K M w0 w2 x4 n a b = b_X8_lowest_16 K' M' w0 w2 x4 n a b
  | 0, _, _ => rfl
  | n + 1, a, b => by
    rw [b_X8_lowest_16, b_X8_lowest_16]
    simp only [Option.bind_some]
    rw [lw_K n]
def ltOK (c s p : Nat) : Bool := match b_X7_inLowestTerms K00 M00 (if nI p = 0 then nI c else nI s) (nI c) (nI s) with
  | none => false
  | some r => b_X8_lowest K00 M00 (nI c).toInt64 (nI s).toInt64 (nI p) == some r.toInt64
theorem lt_all : ∀ c, c < 31 → ∀ s, s < 30 → ltOK c (s + 1) 0 = true ∧ ltOK c (s + 1) 1 = true := by decide +kernel
theorem lt_ok {K : yK} {M M' : yM} {c s : Nat} {x5 : Int32} (hc : c ≤ 30) (h1 : 1 ≤ s) (hs : s ≤ 30) (h5 : x5 = 0 ∨ x5 = 1) : ∃ r, b_X7_inLowestTerms K M (if x5 = 0 then nI c else nI s) (nI c) (nI s) = some r ∧ b_X8_lowest K M' (nI c).toInt64 (nI s).toInt64 x5 = some r.toInt64 := by
  have h := lt_all c (by omega) (s - 1) (by omega)
  rw [show s - 1 + 1 = s by omega] at h
  have key : ∀ p, x5 = nI p → ltOK c s p = true → ∃ r, b_X7_inLowestTerms K M (if x5 = 0 then nI c else nI s) (nI c) (nI s) = some r ∧ b_X8_lowest K M' (nI c).toInt64 (nI s).toInt64 x5 = some r.toInt64 := by
    intro p hp hk
    subst hp
    have e1 : b_X7_inLowestTerms K M (if nI p = 0 then nI c else nI s) (nI c) (nI s) = b_X7_inLowestTerms K00 M00 (if nI p = 0 then nI c else nI s) (nI c) (nI s) := by
      unfold b_X7_inLowestTerms
      rw [lt_K (K := K) (K' := K00) (M := M) (M' := M00)]
    have e2 : b_X8_lowest K M' (nI c).toInt64 (nI s).toInt64 (nI p) = b_X8_lowest K00 M00 (nI c).toInt64 (nI s).toInt64 (nI p) := by
      unfold b_X8_lowest
      rw [lw_K (K := K) (K' := K00) (M := M') (M' := M00)]
    rw [e1, e2]
    unfold ltOK at hk
    cases hr : b_X7_inLowestTerms K00 M00 (if nI p = 0 then nI c else nI s) (nI c) (nI s) with
    | none => rw [hr] at hk; exact absurd hk Bool.false_ne_true
    | some r => rw [hr] at hk; exact ⟨r, rfl, eq_of_beq hk⟩
  rcases h5 with e | e
  · exact key 0 e h.1
  · exact key 1 e h.2
/-- in how many of the first k seeds -/
def cntO (x : Tx) (b : Bk) (n w : Nat) (seed odds : Int32) : Nat → Nat
  | 0 => 0
  | k + 1 => cntO x b n w seed odds k + if bt (hS x (lotT (seed + nI k) odds) b n) w = true then 1 else 0
theorem cntO_le (x : Tx) (b : Bk) (n w : Nat) (seed odds : Int32) : ∀ k, cntO x b n w seed odds k ≤ k
  | 0 => Nat.le_refl _
  | k + 1 => by
    have := cntO_le x b n w seed odds k
    rw [cntO]
    split <;> omega
theorem add64 : ∀ a, a < 31 → (nI a).toInt64 + (0 : Int32).toInt64 = (nI a).toInt64 ∧ (nI a).toInt64 + (1 : Int32).toInt64 = (nI (a + 1)).toInt64 := by decide +kernel
theorem p_odds_loop {K : yK} {x : Tx} {b : Bk} {n w s : Nat} {seed odds x2 x5 : Int32} (hK : KSh K) (hW : WX b) (hx : TxW x) (hn : n ≤ 60) (hs : s ≤ 30) (hd : bDy b ≤ 999) (hw : w < 12) (h2 : x2 / (100 : Int32) = nI n) : ∀ (f g k : Nat) (M : yM), k + f = s → f < g → BR M 7 b → BS M 7 b → xT K M (bLw b) x →
    ∃ M', b_X7_odds_81 K 0 seed x2 (nI w) odds x5 (nI s) g M (nI (cntO x b n w seed odds k)) (nI k) = some (nI (cntO x b n w seed odds s), M') ∧ Fc M M' := by
  intro f
  induction f with
  | zero =>
    intro g k M hk hg hB hS' hX
    obtain ⟨g, rfl⟩ : ∃ z, g = z + 1 := ⟨g - 1, by omega⟩
    obtain rfl : k = s := by omega
    refine ⟨M, ?_, Fc.rf _⟩
    rw [b_X7_odds_81, iteLe (by omega) (by omega), if_pos (by omega)]
  | succ f ih =>
    intro g k M hk hg hB hS' hX
    obtain ⟨g, rfl⟩ : ∃ z, g = z + 1 := ⟨g - 1, by omega⟩
    obtain ⟨M1, t1, t2, t3, t4⟩ := TH_0 hK hW 0 0 M hB hS'
    obtain ⟨M2, p1, p2⟩ := p_passDays (m := n) 2 odds (seed + nI k) hK hW hx hn hd t2 t3 (t4.xT hX)
    have f2 := t4.tr p2
    have e : nI (cntO x b n w seed odds k) + bit (hS x (lotT (seed + nI k) odds) b n) w = nI (cntO x b n w seed odds (k + 1)) := by
      rw [bit_val _ (by omega), cntO]
      by_cases z : bt (hS x (lotT (seed + nI k) odds) b n) w = true
      · rw [if_pos z, if_pos z, incN]
      · rw [if_neg z, if_neg z, Int32.add_zero]; rfl
    rw [b_X7_odds_81, iteLe (by omega) (by omega), if_neg (by omega), if_pos hK.o0, t1, Option.bind_some, h2, p1, Option.bind_some]
    dsimp only
    rw [show toldS x (lotT (seed + nI k) odds) b n 2 = hS x (lotT (seed + nI k) odds) b n from rfl, e, Option.bind_some, incN, Option.bind_some]
    obtain ⟨M', r1, r2⟩ := ih g (k + 1) M2 (by omega) (by omega) (f2.br hB) (f2.bs hS') (f2.xT hX)
    exact ⟨M', r1, f2.tr r2⟩
theorem q_odds_loop {K : yK} {tn : Nat} {tx : Nat → Tx} {b : Bk} {n w s : Nat} {seed odds x2 x5 : Int32} (hK : KSh K) (hT : TX tn tx) (hW : WX b) (hn : n ≤ 60) (hs : s ≤ 30) (hd : bDy b ≤ 999) (hl : bLw b < tn) (hw : w < 12) (h2 : x2 / (100 : Int32) = nI n) (h3 : x2 - nI n * (100 : Int32) = nI s) : ∀ (f g k : Nat) (M : yM), k + f = s → f < g → QB tn tx b M →
    ∃ M', b_X8_odds_86 K 50 seed x2 (nI w) odds x5 g M (nI (cntO (tx (bLw b)) b n w seed odds k)).toInt64 (nI k) = some ((nI (cntO (tx (bLw b)) b n w seed odds s)).toInt64, M') ∧ QB tn tx b M' ∧ Ms M M' := by
  intro f
  induction f with
  | zero =>
    intro g k M hk hg hQ
    obtain ⟨g, rfl⟩ : ∃ z, g = z + 1 := ⟨g - 1, by omega⟩
    obtain rfl : k = s := by omega
    refine ⟨M, ?_, hQ, Ms.rf _⟩
    rw [b_X8_odds_86, h2, h3, iteLe (by omega) (by omega), if_pos (by omega)]
  | succ f ih =>
    intro g k M hk hg hQ
    obtain ⟨g, rfl⟩ : ∃ z, g = z + 1 := ⟨g - 1, by omega⟩
    obtain ⟨M1, g1, g2⟩ := q_byLots (m := n) (seed + nI k) odds hK hW (hT _ hl) hn hd (.inl rfl) (.inl rfl) hQ.1 (hQ.2.2.2 _ hl) hQ.2.1 hQ.2.2.1
    have hm := g2.2.2.ms
    have hc := cntO_le (tx (bLw b)) b n w seed odds k
    have e : (nI (cntO (tx (bLw b)) b n w seed odds k)).toInt64 + (bit (hS (tx (bLw b)) (lotT (seed + nI k) odds) b n) w).toInt64 = (nI (cntO (tx (bLw b)) b n w seed odds (k + 1))).toInt64 := by
      rw [bit_val _ (by omega), cntO]
      by_cases z : bt (hS (tx (bLw b)) (lotT (seed + nI k) odds) b n) w = true
      · rw [if_pos z, if_pos z]; exact (add64 _ (by omega)).2
      · rw [if_neg z, if_neg z]; exact (add64 _ (by omega)).1
    rw [b_X8_odds_86, h2, h3, iteLe (by omega) (by omega), if_neg (by omega), if_pos hK.mo, g1, Option.bind_some]
    dsimp only
    rw [g2.2.1.2.2.1, e, Option.bind_some, incN, Option.bind_some]
    obtain ⟨M', r1, r2, r3⟩ := ih g (k + 1) M1 (by omega) (by omega) (hQ.ms hm g2.1)
    exact ⟨M', r1, r2, hm.tr r3⟩
theorem a_odds {K : yK} {M : yM} {b ib : Bk} {im : Bool} {tn ts : Nat} {tx : Nat → Tx} {tp so : Nat → Int32} {sz : Nat → Nat} {ce : Nat → Nat → Int32} (h : IN K M b ib im tn ts tx tp so sz ce) (x1 x2 x3 x4 x5 : Int32) : AL K (fun M => b_X7_odds K M 0 x1 x2 x3 x4 x5) (fun M => b_X8_odds K M 50 x1 x2 x3 x4 x5) M := by
  obtain ⟨hK, hW, hd, hl, hT, hx, hB, hS', hXs, hX⟩ := h.cls
  have h12 := hW.1.1
  have c_has := p_has hK iB7 hB.1.1 h12 x3
  have hQ0 := h.qb (Fc.rf M)
  have m_has := q_isEntry hK hQ0.1.1.1 h12 x3
  by_cases z1 : 0 ≤ x1 ∧ x1 ≤ 99999
  · by_cases z2 : x2 < 0
    · refine AL.no (r := -4611686018427387904) h ?_ ?_
      · show b_X7_odds K M 0 x1 x2 x3 x4 x5 = _
        unfold b_X7_odds
        rw [Option.bind_some, c_isSeed, Option.bind_some, ifd z1, if_pos z2]
      · show b_X8_odds K M 50 x1 x2 x3 x4 x5 = _
        unfold b_X8_odds
        rw [q_in, Option.bind_some, ifd z1, q_in, Option.bind_some, ifn (fun z => by have := z.1; rw [i_le] at this; rw [i_lt] at z2; omega), Option.bind_some, if_neg (by decide)]
    · obtain ⟨v, hv, rfl⟩ := nI_of z2
      have e1 : nI v / (100 : Int32) = nI (v / 100) := divN (d := 100) hv (by omega) (by omega)
      have e2 : nI v - nI (v / 100) * (100 : Int32) = nI (v % 100) := by
        have := remN (a := v) (d := 100) hv (by omega) (by omega)
        rw [divN hv (by omega) (by omega)] at this
        exact this
      have no : ∀ (C : ¬ (v / 100 ≤ 60 ∧ 1 ≤ v % 100 ∧ v % 100 ≤ 30 ∧ isN x3 (bE b) = true ∧ (0 ≤ x4 ∧ x4 ≤ 100) ∧ (0 ≤ x5 ∧ x5 ≤ 1))), AL K (fun M => b_X7_odds K M 0 x1 (nI v) x3 x4 x5) (fun M => b_X8_odds K M 50 x1 (nI v) x3 x4 x5) M := by
        intro C
        refine AL.no (r := -4611686018427387904) h ?_ ?_
        · show b_X7_odds K M 0 x1 (nI v) x3 x4 x5 = _
          unfold b_X7_odds
          rw [e1, e2, Option.bind_some, c_isSeed, Option.bind_some, ifd z1, if_neg z2, c_isDays, Option.bind_some]
          by_cases y1 : v / 100 ≤ 60
          · rw [ifd ⟨ge0 (by omega), by rw [show (60 : Int32) = nI 60 from rfl, leN (by omega) (by omega)]; exact y1⟩, show (1 : Int32) = nI 1 from rfl, iteLt (by omega) (by omega), show (30 : Int32) = nI 30 from rfl, iteLt (by omega) (by omega)]
            by_cases y2 : v % 100 < 1
            · rw [if_pos y2]
            · rw [if_neg y2]
              by_cases y3 : 30 < v % 100
              · rw [if_pos y3]
              · rw [if_neg y3, if_pos hK.o0, hK.r00, Option.bind_some, if_pos hK.o7, c_has, Option.bind_some]
                by_cases y4 : isN x3 (bE b) = true
                · rw [if_pos y4]
                  by_cases y5 : x4 < 0
                  · rw [if_pos y5]
                  · rw [if_neg y5]
                    by_cases y6 : (100 : Int32) < x4
                    · rw [if_pos y6]
                    · rw [if_neg y6, c_zo, Option.bind_some, ifn (fun y7 => C ⟨y1, by omega, by omega, y4, ⟨by rw [i_lt] at y5; rw [i_le]; omega, by rw [i_lt] at y6; rw [i_le]; omega⟩, y7⟩)]
                · rw [if_neg y4]
          · rw [ifn (fun q => y1 (by
              have := q.2
              rw [show (60 : Int32) = nI 60 from rfl, leN (by omega) (by omega)] at this
              exact this))]
        · show b_X8_odds K M 50 x1 (nI v) x3 x4 x5 = _
          unfold b_X8_odds
          rw [q_in, Option.bind_some, ifd z1, q_in, Option.bind_some]
          by_cases y0 : 0 ≤ nI v ∧ nI v ≤ 6030
          · have y0' := y0.2
            rw [show (6030 : Int32) = nI 6030 from rfl, leN (by omega) (by omega)] at y0'
            rw [ifd y0, e1, e2, q_in, Option.bind_some]
            by_cases y2 : 1 ≤ nI (v % 100) ∧ nI (v % 100) ≤ 30
            · have y3 := y2.1
              have y4 := y2.2
              rw [show (1 : Int32) = nI 1 from rfl, leN (by omega) (by omega)] at y3
              rw [show (30 : Int32) = nI 30 from rfl, leN (by omega) (by omega)] at y4
              rw [ifd y2, if_pos hK.mo, m_has, Option.bind_some]
              by_cases y5 : isN x3 (bE b) = true
              · rw [if_pos y5, q_in, Option.bind_some]
                by_cases y6 : 0 ≤ x4 ∧ x4 ≤ 100
                · rw [ifd y6, q_in, Option.bind_some, ifn (fun y7 => C ⟨by omega, y3, y4, y5, y6, y7⟩), Option.bind_some, if_neg (by decide)]
                · rw [ifn y6, Option.bind_some, if_neg (by decide)]
              · rw [if_neg y5, Option.bind_some, if_neg (by decide)]
            · rw [ifn y2, Option.bind_some, if_neg (by decide)]
          · rw [ifn y0, Option.bind_some, if_neg (by decide)]
      by_cases C : v / 100 ≤ 60 ∧ 1 ≤ v % 100 ∧ v % 100 ≤ 30 ∧ isN x3 (bE b) = true ∧ (0 ≤ x4 ∧ x4 ≤ 100) ∧ (0 ≤ x5 ∧ x5 ≤ 1)
      · obtain ⟨C1, C2, C3, C4, C5, C6⟩ := C
        obtain ⟨w, hw, rfl⟩ := isN_of C4
        obtain ⟨M1, p1, p2⟩ := p_odds_loop (n := v / 100) (s := v % 100) (seed := x1) (odds := x4) (x2 := nI v) (x5 := x5) hK hW hx C1 C3 hd (show w < 12 by omega) e1 (v % 100) 1000 0 M (by omega) (by omega) hB hS' hX
        have hQ := h.qb p2
        obtain ⟨M2, q1, q2, q3⟩ := q_odds_loop (n := v / 100) (s := v % 100) (seed := x1) (odds := x4) (x2 := nI v) (x5 := x5) hK hT hW C1 C3 hd hl (show w < 12 by omega) e1 e2 (v % 100) 1000 0 M1 (by omega) (by omega) hQ
        have p1 : b_X7_odds_81 K 0 x1 (nI v) (nI w) x4 x5 (nI (v % 100)) 1000 M 0 0 = some (nI (cntO (tx (bLw b)) b (v / 100) w x1 x4 (v % 100)), M1) := p1
        have q1 : b_X8_odds_86 K 50 x1 (nI v) (nI w) x4 x5 1000 M1 0 0 = some ((nI (cntO (tx (bLw b)) b (v / 100) w x1 x4 (v % 100))).toInt64, M2) := q1
        obtain ⟨r, r1, r2⟩ := lt_ok (K := K) (M := M1) (M' := M2) (c := cntO (tx (bLw b)) b (v / 100) w x1 x4 (v % 100)) (s := v % 100) (x5 := x5) (Nat.le_trans (cntO_le _ _ _ _ _ _ _) C3) C2 C3 (zo_of C6)
        refine AL.q (r := r.toInt64) h (M1 := M1) (M2 := M2) ?_ p2 ?_ q3 q2.1
        · show b_X7_odds K M 0 x1 (nI v) (nI w) x4 x5 = _
          unfold b_X7_odds
          rw [e1, e2, Option.bind_some, c_isSeed, Option.bind_some, ifd z1, if_neg z2, c_isDays, Option.bind_some, ifd ⟨ge0 (by omega), by rw [show (60 : Int32) = nI 60 from rfl, leN (by omega) (by omega)]; exact C1⟩, if_neg (show ¬ nI (v % 100) < (1 : Int32) by rw [show (1 : Int32) = nI 1 from rfl, ltN (by omega) (by omega)]; omega), if_neg (show ¬ (30 : Int32) < nI (v % 100) by rw [show (30 : Int32) = nI 30 from rfl, ltN (by omega) (by omega)]; omega), if_pos hK.o0, hK.r00, Option.bind_some, if_pos hK.o7, c_has, Option.bind_some, if_pos C4,
            if_neg (show ¬ x4 < 0 by have := C5.1; rw [i_le] at this; rw [i_lt]; omega), if_neg (show ¬ (100 : Int32) < x4 by have := C5.2; rw [i_le] at this; rw [i_lt]; omega), c_zo, Option.bind_some, ifd C6, p1, Option.bind_some]
          dsimp only
          by_cases y : x5 = 0
          · rw [if_pos y] at r1
            rw [if_pos y, Option.bind_some, r1, Option.bind_some]
          · rw [if_neg y] at r1
            rw [if_neg y, Option.bind_some, r1, Option.bind_some]
        · show b_X8_odds K M1 50 x1 (nI v) (nI w) x4 x5 = _
          unfold b_X8_odds
          rw [q_in, Option.bind_some, ifd z1, q_in, Option.bind_some, ifd ⟨ge0 (by omega), by rw [show (6030 : Int32) = nI 6030 from rfl, leN (by omega) (by omega)]; omega⟩, e1, e2, q_in, Option.bind_some, ifd ⟨by rw [show (1 : Int32) = nI 1 from rfl, leN (by omega) (by omega)]; exact C2, by rw [show (30 : Int32) = nI 30 from rfl, leN (by omega) (by omega)]; exact C3⟩, if_pos hK.mo, q_isEntry hK hQ.1.1.1 h12, Option.bind_some, if_pos C4, q_in, Option.bind_some, ifd C5, q_in, Option.bind_some, ifd C6, Option.bind_some, if_pos rfl, Option.bind_some, q1, Option.bind_some]
          dsimp only
          rw [r2, Option.bind_some]
      · exact no C
  · refine AL.no (r := -4611686018427387904) h ?_ ?_
    · show b_X7_odds K M 0 x1 x2 x3 x4 x5 = _
      unfold b_X7_odds
      rw [Option.bind_some, c_isSeed, Option.bind_some, ifn z1]
    · show b_X8_odds K M 50 x1 x2 x3 x4 x5 = _
      unfold b_X8_odds
      rw [q_in, Option.bind_some, ifn z1, Option.bind_some, if_neg (by decide)]
