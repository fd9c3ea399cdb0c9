/-! numbers of the folds -/
theorem woF_N (x : Tx) (b : Bk) (can : Int32) : ∀ d, ∃ v, v ≤ 99 * d ∧ woF x b can d = nI v
  | 0 => ⟨0, Nat.le_refl _, rfl⟩
  | d + 1 => by
    obtain ⟨v, h1, h2⟩ := woF_N x b can d
    rw [woF, h2]
    by_cases c : bit can d = 1
    · rw [if_pos c]
      obtain ⟨u, g1, g2⟩ := saysB_N x b (part := 2) (by decide) (loB (bDs b d)) (onesF (bDs b d) 12) 0
      exact ⟨v + u, by omega, by rw [g2, addN]⟩
    · rw [if_neg c]
      exact ⟨v, by omega, Int32.add_zero _⟩
theorem wS_N {x : Tx} {T : Nat → Bool} {b : Bk} (hW : WX b) : ∀ n, ∃ v, v ≤ 600 * n ∧ wS x T b n = nI v
  | 0 => ⟨0, Nat.le_refl _, rfl⟩
  | n + 1 => by
    obtain ⟨v, h1, h2⟩ := wS_N (x := x) (T := T) hW n
    obtain ⟨u, g1, g2⟩ := woF_N x (dI x T b (n + 1)).1 (hdB x (dI x T b (n + 1)).1) (bDn (dI x T b (n + 1)).1)
    have h6 := hW.1.2.2.1
    have hs := (dI_S x T b (n + 1)).2.2.2.2.2.1
    refine ⟨v + u, by omega, ?_⟩
    rw [wS, h2, g2, addN]
theorem neg1_le {a b : Nat} (ha : a < 2147483648) (hb : b < 2147483648) : ((-1 : Int32) * nI a ≤ -1 * nI b) = (nI b ≤ nI a) := by
  have e : ∀ x : Int32, (-1 : Int32) * x = -x := fun x => by rw [Int32.neg_mul, Int32.one_mul]
  rw [e, e, i_le, i_le, toI_neg ha, toI_neg hb, nJ ha, nJ hb]
  apply propext
  omega
theorem nI_m1 {k : Nat} (h : k < 2147483648) : nI k ≠ -1 := by
  intro e
  rw [i_eq, nJ h, i_m1] at e
  omega
theorem beF_val (W vf : Nat → Int32) : ∀ (f k : Nat) (a m : Int32), beF W vf f k a m = (a, m) ∨ ∃ j, k ≤ j ∧ j < k + f ∧ beF W vf f k a m = (vf j, W j)
  | 0, k, a, m => .inl rfl
  | f + 1, k, a, m => by
    rw [beF]
    by_cases c : W k ≤ m
    · rw [if_pos c]
      rcases beF_val W vf f (k + 1) a m with h | ⟨j, h1, h2, h3⟩
      · exact .inl h
      · exact .inr ⟨j, by omega, by omega, h3⟩
    · rw [if_neg c]
      rcases beF_val W vf f (k + 1) (vf k) (W k) with h | ⟨j, h1, h2, h3⟩
      · exact .inr ⟨k, by omega, by omega, h⟩
      · exact .inr ⟨j, by omega, by omega, h3⟩
theorem beF_map (W vf : Nat → Int32) (g : Int32 → Int32) : ∀ (f k : Nat) (a m : Int32), beF W (fun k => g (vf k)) f k (g a) m = (g (beF W vf f k a m).1, (beF W vf f k a m).2)
  | 0, k, a, m => rfl
  | f + 1, k, a, m => by
    rw [beF, beF]
    by_cases c : W k ≤ m
    · rw [if_pos c, if_pos c]; exact beF_map W vf g f (k + 1) a m
    · rw [if_neg c, if_neg c]; exact beF_map W vf g f (k + 1) (vf k) (W k)
theorem beF_cg {W U vf uf : Nat → Int32} : ∀ (f k : Nat) (a m : Int32), (∀ j, k ≤ j → j < k + f → W j = U j ∧ vf j = uf j) → beF W vf f k a m = beF U uf f k a m
  | 0, k, a, m, _ => rfl
  | f + 1, k, a, m, h => by
    obtain ⟨h1, h2⟩ := h k (by omega) (by omega)
    rw [beF, beF, h1, h2, beF_cg f (k + 1) a m (fun j z1 z2 => h j (by omega) (by omega)), beF_cg f (k + 1) (uf k) (U k) (fun j z1 z2 => h j (by omega) (by omega))]
theorem bgF_be {W : Nat → Int32} : ∀ (f k : Nat) (a m : Int32), k + f < 1000 → a ≠ -1 → bgF W f k a m = beF W nI f k a m
  | 0, k, a, m, _, _ => rfl
  | f + 1, k, a, m, hk, ha => by
    rw [bgF, beF]
    by_cases c : W k ≤ m
    · rw [if_pos c, if_neg (fun h => h.elim ha (fun z => z c))]
      exact bgF_be f (k + 1) a m (by omega) ha
    · rw [if_neg c, if_pos (.inr c)]
      exact bgF_be f (k + 1) _ _ (by omega) (nI_m1 (by omega))
theorem leF_be {W : Nat → Int32} : ∀ (f k : Nat) (a m : Int32), (∀ j, k ≤ j → j < k + f → ∃ v, v < 2147483648 ∧ W j = nI v) → (∃ v, v < 2147483648 ∧ m = nI v) → beF (fun k => -1 * W k) nI f k a (-1 * m) = ((leF W f k a m).1, -1 * (leF W f k a m).2)
  | 0, k, a, m, _, _ => rfl
  | f + 1, k, a, m, hW, hm => by
    obtain ⟨v, v1, v2⟩ := hm
    obtain ⟨u, u1, u2⟩ := hW k (by omega) (by omega)
    have e : ((-1 : Int32) * W k ≤ -1 * m) = (m ≤ W k) := by rw [v2, u2, neg1_le u1 v1]
    rw [beF, leF]
    by_cases c : m ≤ W k
    · rw [if_pos c, if_pos (e ▸ c)]
      exact leF_be f (k + 1) a m (fun j z1 z2 => hW j (by omega) (by omega)) ⟨v, v1, v2⟩
    · rw [if_neg c, if_neg (fun z => c (e ▸ z))]
      exact leF_be f (k + 1) (nI k) (W k) (fun j z1 z2 => hW j (by omega) (by omega)) ⟨u, u1, u2⟩
theorem leF_val (W : Nat → Int32) : ∀ (f k : Nat) (a m : Int32), leF W f k a m = (a, m) ∨ ∃ j, k ≤ j ∧ j < k + f ∧ leF W f k a m = (nI j, W j)
  | 0, k, a, m => .inl rfl
  | f + 1, k, a, m => by
    rw [leF]
    by_cases c : m ≤ W k
    · rw [if_pos c]
      rcases leF_val W f (k + 1) a m with h | ⟨j, h1, h2, h3⟩
      · exact .inl h
      · exact .inr ⟨j, by omega, by omega, h3⟩
    · rw [if_neg c]
      rcases leF_val W f (k + 1) (nI k) (W k) with h | ⟨j, h1, h2, h3⟩
      · exact .inr ⟨k, by omega, by omega, h⟩
      · exact .inr ⟨j, by omega, by omega, h3⟩
/-! choices -/
theorem CH_0 {K : yK} {b : Bk} (hK : KSh K) (hW : WX b) (hd : bDy b ≤ 999) (w v : Int32) : CH K 0 w v b b := ⟨TH_0 hK hW w v, hW, hd⟩
theorem fs_lt {b : Bk} (hW : WX b) {k : Nat} (hk : k ≤ bE b) : fsB b k < 1000 := by
  have h12 := hW.1.1
  have := (fsB_le hW.1 k hk).2
  omega
theorem CH_1 {K : yK} {b : Bk} (hK : KSh K) (hW : WX b) (hd : bDy b ≤ 999) {k : Nat} (hk : k ≤ bE b) : CH K 1 0 (nI k) b (stB b (fsB b k)) := ⟨TH_1 (w := 0) hK hW (by omega) hk, stB_W hW (fs_lt hW hk), hd⟩
theorem CH_2 {K : yK} {b : Bk} (hK : KSh K) (hW : WX b) (hd : bDy b ≤ 999) {k : Nat} (hk : k < bE b) : CH K 2 0 (nI k) b (mkB b (nI k)) := ⟨TH_2 (w := 0) (nI k) hK hW (by omega), mkB_W hW (.inr ⟨k, hk, rfl⟩), hd⟩
theorem CH_3 {K : yK} {b : Bk} (hK : KSh K) (hW : WX b) (hd : bDy b ≤ 999) {k : Nat} (hk : k < bE b) : CH K 3 0 (nI k) b (skB b (bSk b ||| sh1 k)) := ⟨TH_3 (w := 0) k hK hW (by omega), skB_W hW (bB_or hW.2.2.2.1 (bB_sh1 hk (by have := hW.1.1; omega))), hd⟩
theorem CH_5 {K : yK} {b : Bk} (hK : KSh K) (hW : WX b) (hd : bDy b ≤ 999) {w : Nat} (hw : w < bE b) {v : Int32} (hv : v = -1 ∨ ∃ j, j < 12 ∧ v = nI j) : CH K 5 (nI w) v b (toB b w v) := ⟨TH_5 hK hW (by have := hW.1.1; omega) hv, toB_W hW hv, hd⟩
/-! run, drawn -/
theorem IN.cls {K : yK} {M : yM} {b ib : Bk} {im : Bool} {tn ts : Nat} {tx : Nat → Tx} {tp so : Nat → Int32} {sz : Nat → Nat} {ce : Nat → Nat → Int32} (h : IN K M b ib im tn ts tx tp so sz ce) : KSh K ∧ WX b ∧ bDy b ≤ 999 ∧ bLw b < tn ∧ TX tn tx ∧ TxW (tx (bLw b)) ∧ BR M 7 b ∧ BS M 7 b ∧ (∀ l, l < tn → xT K M l (tx l)) ∧ xT K M (bLw b) (tx (bLw b)) :=
  ⟨h.1.1.1, h.1.2.1.1, h.1.2.1.2.1, h.1.2.1.2.2, h.1.2.2.1.1, h.1.2.2.1.1 _ h.1.2.1.2.2, h.2.1.1.1, h.2.1.1.2, h.2.1.2.2.2.2.1, h.2.1.2.2.2.2.1 _ h.1.2.1.2.2⟩
theorem a_run {K : yK} {M : yM} {b ib : Bk} {im : Bool} {tn ts : Nat} {tx : Nat → Tx} {tp so : Nat → Int32} {sz : Nat → Nat} {ce : Nat → Nat → Int32} (h : IN K M b ib im tn ts tx tp so sz ce) (x1 x2 : Int32) : AL K (fun M => b_X7_run K M 0 x1 x2) (fun M => b_X8_run K M 50 x1 x2) M := by
  obtain ⟨hK, hW, hd, hl, hT, hx, hB, hS, hXs, hX⟩ := h.cls
  by_cases c1 : 0 ≤ x1 ∧ x1 ≤ 60
  · obtain ⟨n, hn, rfl⟩ := in_N (e := 60) (by decide) c1
    have e2 : (if x2 < 0 then (some false) else (if (4 : Int32) < x2 then (some false) else (some true))) = some (decide (0 ≤ x2 ∧ x2 ≤ 4)) := inD x2 0 4
    by_cases c2 : 0 ≤ x2 ∧ x2 ≤ 4
    · obtain ⟨M1, t1, t2, t3, t4⟩ := TH_0 hK hW 0 0 M hB hS
      obtain ⟨M2, p1, p2⟩ := p_passDays (m := n) x2 0 0 hK hW hx hn hd t2 t3 (t4.xT hX)
      have f2 := t4.tr p2
      have hq := h.qb f2
      obtain ⟨M3, g1, g2⟩ := q_goes (m := n) hK hW hx hn hd (.inl rfl) (.inl rfl) hq.1 (hq.2.2.2 _ hl) hq.2.1 hq.2.2.1
      refine AL.q (r := toldS (tx (bLw b)) noT b n x2) h (M1 := M2) (M2 := M3) ?_ f2 ?_ g2.2.2.ms g2.1
      · show b_X7_run K M 0 (nI n) x2 = _
        unfold b_X7_run
        rw [c_isDays, Option.bind_some, ifd c1, if_neg (by have := c2.1; rw [i_le] at this; rw [i_lt]; omega), if_pos c2.2, if_pos hK.o0, t1, Option.bind_some, p1, Option.bind_some, toldS_cg (U := noT) (fun i hi => lotT_0 i (by omega))]
      · show b_X8_run K M2 50 (nI n) x2 = _
        unfold b_X8_run
        rw [q_in, Option.bind_some, ifd c1, q_in, Option.bind_some, ifd c2, if_pos hK.mo, g1, Option.bind_some, q_told hK g2, Option.bind_some]
    · refine AL.no (r := -2) h ?_ ?_
      · show b_X7_run K M 0 (nI n) x2 = _
        unfold b_X7_run
        rw [c_isDays, Option.bind_some, ifd c1]
        by_cases d : x2 < 0
        · rw [if_pos d]
        · rw [if_neg d, if_neg (fun z => c2 ⟨by rw [i_lt] at d; rw [i_le]; omega, z⟩)]
      · show b_X8_run K M 50 (nI n) x2 = _
        unfold b_X8_run
        rw [q_in, Option.bind_some, ifd c1, q_in, Option.bind_some, ifn c2]
  · refine AL.no (r := -2) h ?_ ?_
    · show b_X7_run K M 0 x1 x2 = _
      unfold b_X7_run
      rw [c_isDays, Option.bind_some, ifn c1]
    · show b_X8_run K M 50 x1 x2 = _
      unfold b_X8_run
      rw [q_in, Option.bind_some, ifn c1]
theorem a_drawn {K : yK} {M : yM} {b ib : Bk} {im : Bool} {tn ts : Nat} {tx : Nat → Tx} {tp so : Nat → Int32} {sz : Nat → Nat} {ce : Nat → Nat → Int32} (h : IN K M b ib im tn ts tx tp so sz ce) (x1 x2 x3 : Int32) : AL K (fun M => b_X7_drawn K M 0 x1 x2 x3) (fun M => b_X8_drawn K M 50 x1 x2 x3) M := by
  obtain ⟨hK, hW, hd, hl, hT, hx, hB, hS, hXs, hX⟩ := h.cls
  by_cases c0 : 0 ≤ x1 ∧ x1 ≤ 99999
  · by_cases c1 : 0 ≤ x2 ∧ x2 ≤ 60
    · obtain ⟨n, hn, rfl⟩ := in_N (e := 60) (by decide) c1
      by_cases c3 : x3 < 0
      · refine AL.no (r := -2) h ?_ ?_
        · show b_X7_drawn K M 0 x1 (nI n) x3 = _
          unfold b_X7_drawn
          rw [c_isSeed, Option.bind_some, ifd c0, c_isDays, Option.bind_some, ifd c1, if_pos c3]
        · show b_X8_drawn K M 50 x1 (nI n) x3 = _
          unfold b_X8_drawn
          rw [q_in, Option.bind_some, ifd c0, q_in, Option.bind_some, ifd c1, q_in, Option.bind_some, ifn (fun z => by have := z.1; rw [i_le] at this; rw [i_lt] at c3; omega)]
      · obtain ⟨w, hw, rfl⟩ := nI_of c3
        have e1 : nI w / (10 : Int32) = nI (w / 10) := divN (d := 10) hw (by omega) (by omega)
        have e2 : nI w - nI (w / 10) * (10 : Int32) = nI (w % 10) := by
          have := remN (a := w) (d := 10) hw (by omega) (by omega)
          rw [divN hw (by omega) (by omega)] at this
          exact this
        by_cases c4 : w / 10 ≤ 100 ∧ w % 10 ≤ 4
        · obtain ⟨M1, t1, t2, t3, t4⟩ := TH_0 hK hW 0 0 M hB hS
          obtain ⟨M2, p1, p2⟩ := p_passDays (m := n) (nI (w % 10)) (nI (w / 10)) x1 hK hW hx hn hd t2 t3 (t4.xT hX)
          have f2 := t4.tr p2
          have hq := h.qb f2
          obtain ⟨M3, g1, g2⟩ := q_byLots (m := n) x1 (nI (w / 10)) hK hW hx hn hd (.inl rfl) (.inl rfl) hq.1 (hq.2.2.2 _ hl) hq.2.1 hq.2.2.1
          refine AL.q (r := toldS (tx (bLw b)) (lotT x1 (nI (w / 10))) b n (nI (w % 10))) h (M1 := M2) (M2 := M3) ?_ f2 ?_ g2.2.2.ms g2.1
          · show b_X7_drawn K M 0 x1 (nI n) (nI w) = _
            unfold b_X7_drawn
            rw [c_isSeed, Option.bind_some, ifd c0, c_isDays, Option.bind_some, ifd c1, if_neg c3, e1, e2, if_neg (show ¬ (100 : Int32) < nI (w / 10) by rw [show (100 : Int32) = nI 100 from rfl, ltN (by omega) (by omega)]; omega), if_pos (show nI (w % 10) ≤ 4 by rw [show (4 : Int32) = nI 4 from rfl, leN (by omega) (by omega)]; omega), if_pos hK.o0, t1, Option.bind_some, p1, Option.bind_some]
          · show b_X8_drawn K M2 50 x1 (nI n) (nI w) = _
            unfold b_X8_drawn
            rw [q_in, Option.bind_some, ifd c0, q_in, Option.bind_some, ifd c1, q_in, Option.bind_some, ifd ⟨nI_pos' (by omega), by rw [show (1004 : Int32) = nI 1004 from rfl, leN (by omega) (by omega)]; omega⟩, e1, e2, if_pos (show nI (w % 10) ≤ 4 by rw [show (4 : Int32) = nI 4 from rfl, leN (by omega) (by omega)]; omega), if_pos hK.mo, g1, Option.bind_some, q_told hK g2, Option.bind_some]
        · refine AL.no (r := -2) h ?_ ?_
          · show b_X7_drawn K M 0 x1 (nI n) (nI w) = _
            unfold b_X7_drawn
            rw [c_isSeed, Option.bind_some, ifd c0, c_isDays, Option.bind_some, ifd c1, if_neg c3, e1, e2, show (100 : Int32) = nI 100 from rfl, iteLt (by omega) (by omega), show (4 : Int32) = nI 4 from rfl, iteLe (by omega) (by omega)]
            by_cases z : 100 < w / 10
            · rw [if_pos z]
            · rw [if_neg z, if_neg (by omega)]
          · show b_X8_drawn K M 50 x1 (nI n) (nI w) = _
            unfold b_X8_drawn
            rw [q_in, Option.bind_some, ifd c0, q_in, Option.bind_some, ifd c1, q_in, Option.bind_some, e1, e2, show (4 : Int32) = nI 4 from rfl, iteLe (by omega) (by omega)]
            by_cases z : 0 ≤ nI w ∧ nI w ≤ 1004
            · rw [ifd z, if_neg (by
                have z2 := z.2
                rw [show (1004 : Int32) = nI 1004 from rfl, leN (by omega) (by omega)] at z2
                omega)]
            · rw [ifn z]
    · refine AL.no (r := -2) h ?_ ?_
      · show b_X7_drawn K M 0 x1 x2 x3 = _
        unfold b_X7_drawn
        rw [c_isSeed, Option.bind_some, ifd c0, c_isDays, Option.bind_some, ifn c1]
      · show b_X8_drawn K M 50 x1 x2 x3 = _
        unfold b_X8_drawn
        rw [q_in, Option.bind_some, ifd c0, q_in, Option.bind_some, ifn c1]
  · refine AL.no (r := -2) h ?_ ?_
    · show b_X7_drawn K M 0 x1 x2 x3 = _
      unfold b_X7_drawn
      rw [c_isSeed, Option.bind_some, ifn c0]
    · show b_X8_drawn K M 50 x1 x2 x3 = _
      unfold b_X8_drawn
      rw [q_in, Option.bind_some, ifn c0]
