/-! sheets: film, sheet, cell -/
/-- only sheets have changed -/
def Fs (M M' : yM) : Prop := ∀ q, q ≠ 5 → q ≠ 6 → (q < 25 ∨ 33 < q) → (q < 41 ∨ 48 < q) → M' q = M q
def Mt (M M' : yM) : Prop := (∀ i, i = 12 ∨ i = 15 ∨ i = 17 ∨ i = 18 ∨ i = 19 ∨ i = 20 ∨ i = 49 ∨ i = 50 → M' 50 i = M 50 i) ∧ ∀ q, q < 50 ∨ (55 ≤ q ∧ q ≤ 60) ∨ q = 65 ∨ 70 < q → M' q = M q
theorem Fs.ms {M M' : yM} (h : Fs M M') : ∀ q, 50 ≤ q → q ≤ 70 → M' q = M q := fun q z1 z2 => h q (by omega) (by omega) (by omega) (by omega)
theorem Fs.tr {M M' M'' : yM} (h : Fs M M') (g : Fs M' M'') : Fs M M'' := fun q z1 z2 z3 z4 => (g q z1 z2 z3 z4).trans (h q z1 z2 z3 z4)
theorem Fc.fs {M M' : yM} (h : Fc M M') : Fs M M' := fun q z1 z2 z3 _ => h q z1 z2 z3
theorem IN.sh' {K : yK} {M M1 M2 : yM} {b ib : Bk} {im : Bool} {tn ts : Nat} {tx : Nat → Tx} {tp so : Nat → Int32} {sz : Nat → Nat} {ce : Nat → Nat → Int32} (h : IN K M b ib im tn ts tx tp so sz ce) {so' : Nat → Int32} {sz' : Nat → Nat} {ce' : Nat → Nat → Int32} (g1 : Fs M M1) (g2 : Mt M1 M2) (hm : MR M2 b) (hc : ∀ s, s < 4 → M1 (41 + 2 * s) 1 = so' s ∧ M1 (41 + 2 * s) 2 = nI (sz' s) ∧ ∀ j, j < sz' s → M1 (42 + 2 * s) j = ce' s j) (hq : ∀ s, s < 4 → M2 61 s = so' s ∧ M2 62 s = nI (sz' s) ∧ ∀ j, j < sz' s → M2 63 (40 * s + j) = ce' s j) (hw : ∀ s, s < 4 → sz' s ≤ 40 ∧ (so' s = -1 ∨ so' s = 0 ∨ so' s = 1 ∨ so' s = 2)) : IE K M2 := by
  obtain ⟨⟨w1, w2, w3, w4, w5, w6⟩, ⟨⟨c1, c11⟩, c2, c3, c4, c5, c6⟩, ⟨⟨m1, m2, m3, m4⟩, n2, n3, n4, n5, n6⟩⟩ := h
  have kk : ∀ q, (q < 5 ∨ (6 < q ∧ q < 25) ∨ (33 < q ∧ q < 41) ∨ q = 49 ∨ 70 < q) → M2 q = M q := fun q z => by rw [g2.2 q (by omega), g1 q (by omega) (by omega) (by omega) (by omega)]
  have k5 : ∀ i, i = 12 ∨ i = 15 ∨ i = 17 ∨ i = 18 ∨ i = 19 ∨ i = 20 ∨ i = 49 ∨ i = 50 → M2 50 i = M 50 i := fun i z => by rw [g2.1 i z, g1 50 (by omega) (by omega) (by omega) (by omega)]
  have k6 : ∀ q, (55 ≤ q ∧ q ≤ 60) ∨ q = 65 → M2 q = M q := fun q z => by rw [g2.2 q (by omega), g1 q (by omega) (by omega) (by omega) (by omega)]
  refine ⟨b, ib, im, tn, ts, tx, tp, so', sz', ce', ⟨w1, w2, w3, w4, w5, hw⟩, ⟨⟨c1.cg (fun q z1 z2 => kk q (by omega)), c11.cg (fun q z1 z2 => kk q (by omega))⟩, fun z => ⟨(c2 z).1.cg (fun q z1 z2 => kk q (by omega)), (c2 z).2.cg (fun q z1 z2 => kk q (by omega))⟩, ?_, fun i hi => ?_, fun l hl => (c5 l hl).cg (fun q z => kk q (by omega)), fun s hs => ?_⟩, ⟨hm, ?_, ?_, fun l hl => (m4 l hl).cg (k6 57 (by omega)) (k6 56 (by omega))⟩, fun z => ?_, ?_, fun i hi => ?_, fun i hi => ?_, hq⟩
  · rw [kk 0 (by omega)]; exact c3
  · rw [kk 49 (by omega)]; exact c4 i hi
  · rw [g2.2 (41 + 2 * s) (by omega), g2.2 (42 + 2 * s) (by omega)]; exact hc s hs
  · rw [k5 49 (by omega)]; exact m2
  · rw [k5 50 (by omega)]; exact m3
  · unfold IR
    rw [k5 18 (by omega), k5 19 (by omega), k5 20 (by omega), k6 58 (by omega), k6 59 (by omega), k6 60 (by omega)]
    exact n2 z
  · rw [k5 12 (by omega), k5 15 (by omega), k5 17 (by omega)]; exact n3
  · rw [k6 55 (by omega)]; exact n4 i hi
  · rw [k6 65 (by omega)]; exact n5 i hi
theorem p_fill_loop {K : yK} {p n : Nat} {v : Int32} (ha : isAr K p n) (hn : n < 900) : ∀ (f y i : Nat) (M : yM), i + f = n → f < y → ∃ M', b_J7_fill_53178_5 K p v (nI n) y M (nI i) = some M' ∧ (∀ j, i ≤ j → j < n → M' p j = v) ∧ (∀ j, j < i → M' p j = M p j) ∧ ∀ q, q ≠ p → M' q = M q := by
  intro f
  induction f with
  | zero =>
    intro y i M hi hy
    obtain ⟨y, rfl⟩ : ∃ k, y = k + 1 := ⟨y - 1, by omega⟩
    refine ⟨M, ?_, fun j h1 h2 => by omega, fun _ _ => rfl, fun _ _ => rfl⟩
    rw [b_J7_fill_53178_5, iteLe (by omega) (by omega), if_pos (by omega)]
  | succ f ih =>
    intro y i M hi hy
    obtain ⟨y, rfl⟩ : ∃ k, y = k + 1 := ⟨y - 1, by omega⟩
    obtain ⟨M', e1, e2, e3, e4⟩ := ih y (i + 1) (yS M p i v) (by omega) (by omega)
    refine ⟨M', ?_, fun j h1 h2 => ?_, fun j hj => ?_, fun q hq => ?_⟩
    · rw [b_J7_fill_53178_5, iteLe (by omega) (by omega), if_neg (by omega), if_pos (gA_N ha (by omega) (by omega)), nC (by omega), Option.bind_some, incN, Option.bind_some]
      exact e1
    · rcases Nat.lt_or_ge i j with z | z
      · exact e2 j z h2
      · obtain rfl : j = i := by omega
        rw [e3 j (by omega), yS_at]
    · rw [e3 j (by omega), yS_oi _ _ _ _ (by omega)]
    · rw [e4 q hq, yS_q _ _ _ hq]
theorem p_become {K : yK} {M : yM} {s n : Nat} (so : Int32) (hK : KSh K) (hs : s < 4) (hn : n ≤ 40) : ∃ M', b_X5_become K M (41 + 2 * s) so (nI n) = some M' ∧ M' (41 + 2 * s) 1 = so ∧ M' (41 + 2 * s) 2 = nI n ∧ (∀ j, j < 40 → M' (42 + 2 * s) j = 0) ∧ ∀ q, q ≠ 41 + 2 * s → q ≠ 42 + 2 * s → M' q = M q := by
  obtain ⟨s1, s2, s3⟩ := hK.so hs
  obtain ⟨M1, e1, e2, -, e4⟩ := p_fill_loop (v := 0) s3 (by omega) 40 1000 0 M (by omega) (by omega)
  have e1 : b_J7_fill_53178_5 K (42 + 2 * s) 0 (nI 40) 1000 M 0 = some M1 := e1
  have em : (if (0 : Int32) < (if (40 : Int32) < nI n then (40 : Int32) else nI n) then (if (40 : Int32) < nI n then (40 : Int32) else nI n) else (0 : Int32)) = nI n := by
    have e40 : (if (40 : Int32) < nI n then (40 : Int32) else nI n) = nI n := if_neg (by rw [show (40 : Int32) = nI 40 from rfl, ltN (by omega) (by omega)]; omega)
    rw [e40, show (0 : Int32) = nI 0 from rfl, iteLt (by omega) (by omega)]
    by_cases z : 0 < n
    · rw [if_pos z]
    · rw [if_neg z, show n = 0 by omega]
  refine ⟨yS (yS M1 (41 + 2 * s) 1 so) (41 + 2 * s) 2 (nI n), ?_, ?_, ?_, fun j hj => ?_, fun q z1 z2 => ?_⟩
  · unfold b_X5_become
    rw [if_pos s1, s2, Option.bind_some]
    unfold b_J7_fill_53178
    rw [if_pos (gI_N s3), len_N s3, Option.bind_some, e1, Option.bind_some, Option.bind_some, Option.bind_some, em, Option.bind_some]
  · rw [yS_oi _ _ _ _ (by decide), yS_at]
  · rw [yS_at]
  · rw [yS_op _ _ _ _ (by omega), yS_op _ _ _ _ (by omega)]
    exact e2 j (by omega) hj
  · rw [yS_q _ _ _ z1, yS_q _ _ _ z1]
    exact e4 q z2
/-- what a sheet of a sort keeps of a number -/
def cvS (so v : Int32) : Int32 := if so = 0 then v.toInt8.toInt32 else if so = 1 then v.toInt16.toInt32 else v
theorem p_write {K : yK} {M : yM} {s i : Nat} (hK : KSh K) (hs : s < 4) (hi : i < 40) (v : Int32) : b_X5_write K M (41 + 2 * s) (nI i) v = some (yS M (42 + 2 * s) i (cvS (M (41 + 2 * s) 1) v)) := by
  obtain ⟨s1, s2, s3⟩ := hK.so hs
  have ej : (if (M (41 + 2 * s) 1) = 0 then (some v.toInt8.toInt32) else (if (M (41 + 2 * s) 1) = (1 : Int32) then (some v.toInt16.toInt32) else (some v))) = some (cvS (M (41 + 2 * s) 1) v) := by
    unfold cvS
    by_cases z : M (41 + 2 * s) 1 = 0
    · rw [if_pos z, if_pos z]
    · rw [if_neg z, if_neg z]
      by_cases y : M (41 + 2 * s) 1 = 1
      · rw [if_pos y, if_pos y]
      · rw [if_neg y, if_neg y]
  unfold b_X5_write
  rw [if_neg (nI_pos (by omega)), if_pos s1, s2, Option.bind_some, if_pos (gI_N s3), len_N s3, iteLe (by omega) (by omega), if_neg (by omega), ej, Option.bind_some, if_pos (gA_N s3 (by omega) (by omega)), nC (by omega), Option.bind_some]
theorem heF_bB {b : Bk} {s : Int32} : ∀ w, w ≤ 12 → bB (heF b s w) 12
  | 0, _ => bB_0 12
  | w + 1, h => by
    rw [heF]
    refine bB_or (heF_bB w (by omega)) ?_
    split
    · exact bB_sh1 (by omega) (by omega)
    · exact bB_0 12
theorem heB_sh {x : Tx} {b : Bk} (h12 : bE b ≤ 12) : cvS 1 (heB x b) = heB x b := by
  obtain ⟨j, hj, e⟩ := bB_nI (heF_bB (b := b) (s := itsB x b (bE b)) (bE b) h12) (by omega)
  have e : heB x b = nI j := e
  unfold cvS
  rw [if_neg (by decide), if_pos rfl, e]
  have h2 := nJ (j := j) (by omega)
  apply Int32.toInt_inj.mp
  rw [Int16.toInt_toInt32, Int32.toInt_toInt16, h2, Int.bmod_def]
  omega
theorem p_film_loop {K : yK} {x : Tx} {b : Bk} {m s : Nat} (hK : KSh K) (hs : s < 4) (hW : WX b) (hx : TxW x) (hm : m ≤ 40) (hd : bDy b ≤ 999) : ∀ (f n i : Nat) (M : yM), i + f = m → f < n → BR M 25 (dI x noT b i).1 → BS M 25 (dI x noT b i).1 → xT K M (bLw b) x → M (41 + 2 * s) 1 = 1 →
    ∃ M', b_X7_film_40 K 0 (nI s) (nI m) n M (nI i) = some M' ∧ (∀ j, i ≤ j → j < m → M' (42 + 2 * s) j = heB x (dI x noT b (j + 1)).1) ∧ (∀ j, j < i → M' (42 + 2 * s) j = M (42 + 2 * s) j) ∧ ∀ q, q ≠ 5 → q ≠ 6 → (q < 25 ∨ 33 < q) → q ≠ 42 + 2 * s → M' q = M q := by
  intro f
  induction f with
  | zero =>
    intro n i M hi hn hB hS hX h1
    obtain ⟨n, rfl⟩ : ∃ k, n = k + 1 := ⟨n - 1, by omega⟩
    refine ⟨M, ?_, fun j h1 h2 => by omega, fun _ _ => rfl, fun _ _ _ _ _ => rfl⟩
    rw [b_X7_film_40, iteLe (by omega) (by omega), if_pos (by omega)]
  | succ f ih =>
    intro n i M hi hn hB hS hX h1
    obtain ⟨n, rfl⟩ : ∃ k, n = k + 1 := ⟨n - 1, by omega⟩
    obtain ⟨M1, M2, a1, a2, a3, a4, a5, a7⟩ := p_dayI hK hW (by omega) hB hS hX hx
    have e1 : M2 (41 + 2 * s) 1 = 1 := by rw [a7 _ (by omega) (by omega) (by omega)]; exact h1
    have h12 : bE (dI x noT b (i + 1)).1 ≤ 12 := by rw [(dI_S x noT b (i + 1)).1]; exact hW.1.1
    obtain ⟨M', r1, r2, r3, r4⟩ := ih n (i + 1) (yS M2 (42 + 2 * s) i (heB x (dI x noT b (i + 1)).1)) (by omega) (by omega) (a4.cg (fun q z1 z2 => yS_q _ _ _ (by omega))) (a5.cg (fun q z1 z2 => yS_q _ _ _ (by omega))) ((a7.xT hX).cg (fun q z => yS_q _ _ _ (by omega))) (by rw [yS_op _ _ _ _ (by omega)]; exact e1)
    refine ⟨M', ?_, fun j h1 h2 => ?_, fun j hj => ?_, fun q z1 z2 z3 z4 => ?_⟩
    · rw [b_X7_film_40, iteLe (by omega) (by omega), if_neg (by omega), if_pos hK.o0, hK.r02, Option.bind_some, if_pos hK.o25, a1, Option.bind_some, hK.r04, Option.bind_some, if_pos (hK.q40 hs).1, (hK.q40 hs).2, Option.bind_some, a2, Option.bind_some]
      dsimp only
      rw [a3, Option.bind_some, if_pos (hK.so hs).1, p_write hK hs (by omega), e1, heB_sh h12, Option.bind_some, incN, Option.bind_some]
      exact r1
    · rcases Nat.lt_or_ge i j with z | z
      · exact r2 j z h2
      · obtain rfl : j = i := by omega
        rw [r3 j (by omega), yS_at]
    · rw [r3 j (by omega), yS_oi _ _ _ _ (by omega), a7 _ (by omega) (by omega) (by omega)]
    · rw [r4 q z1 z2 z3 z4, yS_q _ _ _ z4, a7 q z1 z2 z3]
theorem a_film {K : yK} {M : yM} {b ib : Bk} {im : Bool} {tn ts : Nat} {tx : Nat → Tx} {tp so : Nat → Int32} {sz : Nat → Nat} {ce : Nat → Nat → Int32} (h : IN K M b ib im tn ts tx tp so sz ce) (x1 x2 : Int32) : AL K (fun M => b_X7_film K M 0 x1 x2) (fun M => b_X8_film K M 50 x1 x2) M := by
  obtain ⟨hK, hW, hd, hl, hT, hx, hB, hS, hXs, hX⟩ := h.cls
  have hsh := h.2.1.2.2.2.2.2
  have hwf := h.1.2.2.2.2.2
  by_cases c1 : 0 ≤ x1 ∧ x1 ≤ 3
  rotate_left
  · refine AL.no (r := -2) h ?_ ?_
    · show b_X7_film K M 0 x1 x2 = _
      unfold b_X7_film
      rw [c_isSheet, Option.bind_some, ifn c1]
    · show b_X8_film K M 50 x1 x2 = _
      unfold b_X8_film
      rw [q_in, Option.bind_some, ifn c1]
  by_cases c2 : 0 ≤ x2 ∧ x2 ≤ 40
  rotate_left
  · refine AL.no (r := -2) h ?_ ?_
    · show b_X7_film K M 0 x1 x2 = _
      unfold b_X7_film
      rw [c_isSheet, Option.bind_some, ifd c1]
      by_cases z : x2 < 0
      · rw [if_pos z]
      · rw [if_neg z, if_neg (fun y => c2 ⟨by rw [i_lt] at z; rw [i_le]; omega, y⟩)]
    · show b_X8_film K M 50 x1 x2 = _
      unfold b_X8_film
      rw [q_in, Option.bind_some, ifd c1, q_in, Option.bind_some, ifn c2]
  obtain ⟨s, s1, rfl⟩ := in_N (e := 3) (by decide) c1
  obtain ⟨n, hn, rfl⟩ := in_N (e := 40) (by decide) c2
  have s4 : s < 4 := by omega
  obtain ⟨M0, p1, p2, p3, p4, p5⟩ := p_become (M := M) 1 hK s4 hn
  obtain ⟨M1, t1, t2, t3, t4⟩ := TH_0 hK hW 0 0 M0 (hB.cg (fun q z1 z2 => p5 q (by omega) (by omega))) (hS.cg (fun q z1 z2 => p5 q (by omega) (by omega)))
  have x0 : xT K M0 (bLw b) (tx (bLw b)) := hX.cg (fun q z => p5 q (by omega) (by omega))
  obtain ⟨M2, r1, r2, -, r4⟩ := p_film_loop (m := n) hK s4 hW hx hn hd n 1000 0 M1 (by omega) (by omega) t2 t3 (t4.xT x0) (by rw [t4 _ (by omega) (by omega) (by omega)]; exact p2)
  have fs : Fs M M2 := fun q z1 z2 z3 z4 => by rw [r4 q z1 z2 z3 (by omega), t4 q z1 z2 z3, p5 q (by omega) (by omega)]
  have hm := h.2.2.c fs.ms
  obtain ⟨N, hN⟩ : ∃ N, N = yS (yS M2 61 s 1) 62 s (nI n) := ⟨_, rfl⟩
  have nq : ∀ q, q ≠ 61 → q ≠ 62 → N q = M2 q := fun q z1 z2 => by rw [hN, yS_q _ _ _ z2, yS_q _ _ _ z1]
  obtain ⟨N1, N2, N3, a1, a2, a3, a4, a5, a6, a7, a8⟩ := q_filmed (m := n) (x := tx (bLw b)) (M := N) hK s4 hW hx hn hd (hm.1.1.cg (fun q z1 z2 => nq q (by omega) (by omega))) ((hm.1.2.2.2 _ hl).cg (nq 57 (by decide) (by decide)) (nq 56 (by decide) (by decide)))
  have mt : Mt M2 N3 := ⟨fun i z => by rw [a7 i (by omega) (by omega), nq 50 (by decide) (by decide)], fun q z => by rw [a8 q (by omega) (by omega) (by omega) (by omega) (by omega) (by omega) (by omega), nq q (by omega) (by omega)]⟩
  have oth : ∀ s', s' ≠ s → s' < 4 → M2 (41 + 2 * s') = M (41 + 2 * s') ∧ M2 (42 + 2 * s') = M (42 + 2 * s') := fun s' z z4 => ⟨by rw [r4 _ (by omega) (by omega) (by omega) (by omega), t4 _ (by omega) (by omega) (by omega), p5 _ (by omega) (by omega)], by rw [r4 _ (by omega) (by omega) (by omega) (by omega), t4 _ (by omega) (by omega) (by omega), p5 _ (by omega) (by omega)]⟩
  refine ⟨nI n, M2, N3, ?_, ?_, h.sh' (so' := upN so s 1) (sz' := upN sz s n) (ce' := upN ce s (fiC (tx (bLw b)) b n)) fs mt a4 (fun s' h4 => ?_) (fun s' h4 => ?_) (fun s' h4 => ?_)⟩
  · show b_X7_film K M 0 (nI s) (nI n) = _
    unfold b_X7_film
    rw [c_isSheet, Option.bind_some, ifd c1, if_neg (nI_pos (by omega)), if_pos c2.2, if_pos hK.o0, hK.r04, Option.bind_some, if_pos (hK.q40 s4).1, (hK.q40 s4).2, Option.bind_some, if_pos (hK.so s4).1, p1, Option.bind_some, t1, Option.bind_some, show b_X7_film_40 K 0 (nI s) (nI n) 1000 M1 0 = some M2 from r1, Option.bind_some]
  · show b_X8_film K M2 50 (nI s) (nI n) = _
    unfold b_X8_film
    rw [q_in, Option.bind_some, ifd c1, q_in, Option.bind_some, ifd c2, if_pos hK.mo, hK.m24.1, Option.bind_some, if_pos (gA_N hK.m24.2 s4 (by omega)), nC (by omega), Option.bind_some, hK.m25.1, Option.bind_some, if_pos (gA_N hK.m25.2 s4 (by omega)), Option.bind_some, ← hN, a1, Option.bind_some, a2, Option.bind_some, a3, Option.bind_some]
  · by_cases e : s' = s
    · subst e
      rw [upN_at, upN_at, upN_at]
      refine ⟨?_, ?_, fun j hj => ?_⟩
      · rw [r4 _ (by omega) (by omega) (by omega) (by omega), t4 _ (by omega) (by omega) (by omega)]; exact p2
      · rw [r4 _ (by omega) (by omega) (by omega) (by omega), t4 _ (by omega) (by omega) (by omega)]; exact p3
      · rw [r2 j (by omega) hj]
        unfold fiC
        rw [if_pos hj]
    · rw [upN_o _ _ _ e, upN_o _ _ _ e, upN_o _ _ _ e, (oth s' e h4).1, (oth s' e h4).2]
      exact hsh s' h4
  · rw [a8 61 (by decide) (by decide) (by decide) (by decide) (by decide) (by decide) (by decide), a8 62 (by decide) (by decide) (by decide) (by decide) (by decide) (by decide) (by decide), hN]
    obtain ⟨g1, g2, g3⟩ := hm.2.2.2.2.2 s' h4
    by_cases e : s' = s
    · subst e
      rw [upN_at, upN_at, upN_at]
      refine ⟨?_, ?_, fun j hj => a5 j (by omega)⟩
      · rw [yS_op _ _ _ _ (by decide), yS_at]
      · rw [yS_at]
    · rw [upN_o _ _ _ e, upN_o _ _ _ e, upN_o _ _ _ e]
      refine ⟨?_, ?_, fun j hj => ?_⟩
      · rw [yS_op _ _ _ _ (by decide), yS_oi _ _ _ _ e]; exact g1
      · rw [yS_oi _ _ _ _ e, yS_op _ _ _ _ (by decide)]; exact g2
      · have := (hwf s' h4).1
        rw [a6 _ (fun k hk => by omega), nq 63 (by decide) (by decide)]
        exact g3 j hj
  · by_cases e : s' = s
    · subst e
      rw [upN_at, upN_at]
      exact ⟨hn, .inr (.inr (.inl rfl))⟩
    · rw [upN_o _ _ _ e, upN_o _ _ _ e]
      exact hwf s' h4
