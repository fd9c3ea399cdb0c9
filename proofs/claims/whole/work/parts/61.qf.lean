/-! wordsBy, back, image -/
def wbB (b : Bk) (c : Nat → Int32) (f : Nat) : Nat → Bk
  | 0 => b
  | k + 1 => wdB (wbB b c f k) (c (f + 3 * k)) (c (f + 3 * k + 1)) (c (f + 3 * k + 2))
def wbN (b : Bk) (c : Nat → Int32) (f : Nat) : Nat → Nat
  | 0 => 0
  | k + 1 => wbN b c f k + if wdR (wbB b c f k) (c (f + 3 * k)) (c (f + 3 * k + 1)) (c (f + 3 * k + 2)) < 0 then 0 else 1
def wbR (b : Bk) (c : Nat → Int32) (f m : Nat) : Nat → Nat → Int32 × Bk
  | 0, k => (nI (wbN b c f k), wbB b c f k)
  | g + 1, k => if f + 3 * k + 3 ≤ m then wbR b c f m g (k + 1) else (-12, wbB b c f k)
theorem wbB_W {b : Bk} (hW : WX b) (c : Nat → Int32) (f : Nat) : ∀ k, WX (wbB b c f k) ∧ bDy (wbB b c f k) = bDy b ∧ bLw (wbB b c f k) = bLw b ∧ bE b ≤ bE (wbB b c f k) ∧ ∀ w, w < bE b → bK (wbB b c f k) w = bK b w ∧ bM (wbB b c f k) w = bM b w
  | 0 => ⟨hW, rfl, rfl, Nat.le_refl _, fun _ _ => ⟨rfl, rfl⟩⟩
  | k + 1 => by
    obtain ⟨h1, h2, h3, h4, h5⟩ := wbB_W hW c f k
    obtain ⟨g1, g2, g3, g4, g5⟩ := wdB_W h1 (c (f + 3 * k)) (c (f + 3 * k + 1)) (c (f + 3 * k + 2))
    refine ⟨g1, g2.trans h2, g3.trans h3, Nat.le_trans h4 g4, fun w hw => ?_⟩
    obtain ⟨e1, e2⟩ := g5 w (by omega)
    obtain ⟨e3, e4⟩ := h5 w hw
    exact ⟨e1.trans e3, e2.trans e4⟩
theorem wbR_B (b : Bk) (c : Nat → Int32) (f m : Nat) : ∀ g k, ∃ j, (wbR b c f m g k).2 = wbB b c f j
  | 0, k => ⟨k, rfl⟩
  | g + 1, k => by
    rw [wbR]
    by_cases z : f + 3 * k + 3 ≤ m
    · rw [if_pos z]; exact wbR_B b c f m g (k + 1)
    · rw [if_neg z]; exact ⟨k, rfl⟩
theorem th (f k : Nat) : nI f + (3 : Int32) * nI k = nI (f + 3 * k) := by
  rw [show (3 : Int32) = nI 3 from rfl, mulN, addN]
theorem p_hasRow {K : yK} {M : yM} {s m i : Nat} (hK : KSh K) (hs : s < 4) (h2 : M (41 + 2 * s) 2 = nI m) (hm : m ≤ 40) (hi : i < 1000) : b_X5_hasRow K M (41 + 2 * s) (nI i) 3 = some (decide (i + 3 ≤ m)) := by
  unfold b_X5_hasRow
  rw [if_neg (by decide), if_neg (nI_pos (by omega)), if_pos (hK.so hs).1, h2]
  have e : ((nI m - (3 : Int32)) < nI i) = ¬ (i + 3 ≤ m) := by
    rw [i_lt, show nI m - (3 : Int32) = nI m - nI 3 from rfl, subI (by omega) (by omega), nJ (by omega)]
    apply propext
    omega
  by_cases z : i + 3 ≤ m
  · rw [if_neg (by rw [e]; exact fun y => y z), decide_eq_true z]
  · rw [if_pos (by rw [e]; exact z), decide_eq_false z]
theorem p_wordsBy_loop {K : yK} {b : Bk} {c : Nat → Int32} {s m f n : Nat} (hK : KSh K) (hW : WX b) (hs : s < 4) (hm : m ≤ 40) (hf : f ≤ 40) (hn : n ≤ 12) : ∀ (g y k : Nat) (M : yM), k + g = n → g < y → BR M 7 (wbB b c f k) → BS M 7 (wbB b c f k) → M (41 + 2 * s) 2 = nI m → (∀ j, j < m → M (42 + 2 * s) j = c j) →
    ∃ M', (Option.bind (b_X7_wordsBy_68 K 0 (nI f) (nI n) (41 + 2 * s) y M (nI (wbN b c f k)) (nI k)) fun x9 => Sum.elim (fun j15 => (some (j15.1, j15.2))) (fun r9 => (some r9)) x9) = some ((wbR b c f m g k).1, M') ∧ BR M' 7 (wbR b c f m g k).2 ∧ BS M' 7 (wbR b c f m g k).2 ∧ Fb M M' := by
  intro g
  induction g with
  | zero =>
    intro y k M hk hy hB hS h2 hc
    obtain ⟨y, rfl⟩ : ∃ z, y = z + 1 := ⟨y - 1, by omega⟩
    refine ⟨M, ?_, hB, hS, Fb.rf _⟩
    rw [b_X7_wordsBy_68, iteLe (by omega) (by omega), if_pos (by omega), Option.bind_some]
    rfl
  | succ g ih =>
    intro y k M hk hy hB hS h2 hc
    obtain ⟨y, rfl⟩ : ∃ z, y = z + 1 := ⟨y - 1, by omega⟩
    obtain ⟨so1, so2, so3⟩ := hK.so hs
    rw [b_X7_wordsBy_68, iteLe (by omega) (by omega), if_neg (by omega), if_neg (nI_pos (by omega)), if_neg (show ¬ (40 : Int32) < nI f by rw [show (40 : Int32) = nI 40 from rfl, ltN (by omega) (by omega)]; omega), if_pos so1, th, p_hasRow hK hs h2 hm (by omega), Option.bind_some, wbR]
    by_cases z : f + 3 * k + 3 ≤ m
    · have e1 : nI (f + 3 * k) + (1 : Int32) = nI (f + 3 * k + 1) := incN _
      have e2 : nI (f + 3 * k) + (2 : Int32) = nI (f + 3 * k + 2) := addN _ 2
      obtain ⟨M1, p1, p2, p3, p4⟩ := p_word hK (wbB_W hW c f k).1 hB hS (c (f + 3 * k)) (c (f + 3 * k + 1)) (c (f + 3 * k + 2))
      rw [ifd z, if_pos z, Option.bind_some, so2, Option.bind_some, e1, e2, if_pos (gA_N so3 (by omega) (by omega)), if_pos (gA_N so3 (by omega) (by omega)), if_pos (gA_N so3 (by omega) (by omega)), if_pos hK.o0, nC (by omega), nC (by omega), nC (by omega), hc _ (by omega), hc _ (by omega), hc _ (by omega), p1, Option.bind_some]
      dsimp only
      have ej : (if wdR (wbB b c f k) (c (f + 3 * k)) (c (f + 3 * k + 1)) (c (f + 3 * k + 2)) < 0 then (some (nI (wbN b c f k))) else (Option.bind (some (nI (wbN b c f k) + (1 : Int32))) fun v16 => (some v16))) = some (nI (wbN b c f (k + 1))) := by
        rw [wbN]
        by_cases q : wdR (wbB b c f k) (c (f + 3 * k)) (c (f + 3 * k + 1)) (c (f + 3 * k + 2)) < 0
        · rw [if_pos q, if_pos q]; rfl
        · rw [if_neg q, if_neg q, Option.bind_some, incN]
      rw [ej, Option.bind_some, incN, Option.bind_some]
      obtain ⟨M', r1, r2, r3, r4⟩ := ih y (k + 1) M1 (by omega) (by omega) p2 p3 (by rw [p4 _ (by omega) (by omega) (by omega) (by omega)]; exact h2) (fun j hj => by rw [p4 _ (by omega) (by omega) (by omega) (by omega)]; exact hc j hj)
      exact ⟨M', r1, r2, r3, p4.tr r4⟩
    · rw [ifn z, if_neg z, Option.bind_some]
      exact ⟨M, rfl, hB, hS, Fb.rf _⟩
theorem q_wordsBy_loop {K : yK} {b : Bk} {c : Nat → Int32} {s m f n : Nat} (hK : KSh K) (hW : WX b) (hs : s < 4) (hm : m ≤ 40) (hf : f ≤ 40) (hn : n ≤ 12) : ∀ (g y k : Nat) (M : yM), k + g = n → g < y → MR M (wbB b c f k) → QH s m c M →
    ∃ M', (Option.bind (b_X8_wordsBy_64 K 50 (nI s) (nI f) (nI n) y M (nI (wbN b c f k)) (nI k)) fun x9 => Sum.elim (fun j12 => (some (j12.1, j12.2))) (fun r9 => (some r9)) x9) = some ((wbR b c f m g k).1, M') ∧ MR M' (wbR b c f m g k).2 ∧ Ms M M' := by
  intro g
  induction g with
  | zero =>
    intro y k M hk hy hB hH
    obtain ⟨y, rfl⟩ : ∃ z, y = z + 1 := ⟨y - 1, by omega⟩
    refine ⟨M, ?_, hB, Ms.rf _⟩
    rw [b_X8_wordsBy_64, iteLe (by omega) (by omega), if_pos (by omega), Option.bind_some]
    rfl
  | succ g ih =>
    intro y k M hk hy hB hH
    obtain ⟨y, rfl⟩ : ∃ z, y = z + 1 := ⟨y - 1, by omega⟩
    have e3 : nI m - (3 : Int32) = nI m - nI 3 := rfl
    have e : (nI (f + 3 * k) ≤ nI m - (3 : Int32)) = (f + 3 * k + 3 ≤ m) := by
      rw [i_le, e3, subI (by omega) (by omega), nJ (by omega)]
      apply propext
      omega
    rw [b_X8_wordsBy_64, iteLe (by omega) (by omega), if_neg (by omega), th, Option.bind_some, if_neg (nI_pos (by omega)), iteLt (by omega) (by omega), if_neg (by omega), if_pos hK.mo, hK.m25.1, Option.bind_some, if_pos (gA_N hK.m25.2 (by omega) (by omega)), nC (by omega), hH.1, wbR]
    by_cases z : f + 3 * k + 3 ≤ m
    · have e40 : (40 : Int32) * nI s + nI (f + 3 * k) = nI (40 * s + (f + 3 * k)) := c40 _ _
      have e1 : nI (40 * s + (f + 3 * k)) + (1 : Int32) = nI (40 * s + (f + 3 * k + 1)) := incN _
      have e2 : nI (40 * s + (f + 3 * k)) + (2 : Int32) = nI (40 * s + (f + 3 * k + 2)) := addN _ 2
      obtain ⟨M1, p1, p2, p3⟩ := q_word hK (wbB_W hW c f k).1 hB (c (f + 3 * k)) (c (f + 3 * k + 1)) (c (f + 3 * k + 2))
      rw [if_pos (by rw [e]; exact z), if_pos z, e40, Option.bind_some, hK.m26.1, Option.bind_some, e1, e2, if_pos (gA_N hK.m26.2 (by omega) (by omega)), if_pos (gA_N hK.m26.2 (by omega) (by omega)), if_pos (gA_N hK.m26.2 (by omega) (by omega)), nC (by omega), nC (by omega), nC (by omega), hH.2 _ (by omega), hH.2 _ (by omega), hH.2 _ (by omega), p1, Option.bind_some]
      dsimp only
      obtain ⟨j, j1, j2⟩ : ∃ j, (if wdR (wbB b c f k) (c (f + 3 * k)) (c (f + 3 * k + 1)) (c (f + 3 * k + 2)) < 0 then (some false) else (some true)) = some j ∧ nI (wbN b c f k) + bI j = nI (wbN b c f (k + 1)) := by
        rw [wbN]
        by_cases q : wdR (wbB b c f k) (c (f + 3 * k)) (c (f + 3 * k + 1)) (c (f + 3 * k + 2)) < 0
        · exact ⟨false, if_pos q, by rw [if_pos q]; exact Int32.add_zero _⟩
        · exact ⟨true, if_neg q, by rw [if_neg q]; exact incN _⟩
      rw [j1, Option.bind_some, j2, Option.bind_some, incN, Option.bind_some]
      obtain ⟨M', r1, r2, r3⟩ := ih y (k + 1) M1 (by omega) (by omega) p2 (hH.ms p3)
      exact ⟨M', r1, r2, p3.tr r3⟩
    · rw [if_neg (by rw [e]; exact z), if_neg z, Option.bind_some]
      exact ⟨M, rfl, hB, Ms.rf _⟩
theorem Fb.qh {s m : Nat} {cl : Nat → Int32} {M M' : yM} (h : Fb M M') (g : QH s m cl M) : QH s m cl M' := by
  unfold QH
  rw [h.ms 62 (by decide) (by decide), h.ms 63 (by decide) (by decide)]
  exact g
theorem a_wordsBy {K : yK} {M : yM} {b ib : Bk} {im : Bool} {tn ts : Nat} {tx : Nat → Tx} {tp so : Nat → Int32} {sz : Nat → Nat} {ce : Nat → Nat → Int32} (h : IN K M b ib im tn ts tx tp so sz ce) (x1 x2 x3 x4 : Int32) : AL K (fun M => b_X7_wordsBy K M 0 x1 x2 x3 x4) (fun M => b_X8_wordsBy K M 50 x1 x2 x3 x4) M := by
  obtain ⟨hK, hW, hd, hl, hT, hx, hB, hS, hXs, hX⟩ := h.cls
  obtain ⟨hs1, hs2, hs3, hs4, hs5⟩ := h.sh
  have no : ∀ r, b_X7_wordsBy K M 0 x1 x2 x3 x4 = some (r, M) → b_X8_wordsBy K M 50 x1 x2 x3 x4 = some (r, M) → AL K (fun M => b_X7_wordsBy K M 0 x1 x2 x3 x4) (fun M => b_X8_wordsBy K M 50 x1 x2 x3 x4) M := fun r e1 e2 => AL.no h e1 e2
  by_cases c1 : 0 ≤ x1 ∧ x1 ≤ 3
  rotate_left
  · refine no (-2) ?_ ?_
    · unfold b_X7_wordsBy
      rw [c_isSheet, Option.bind_some, ifn c1]
    · unfold b_X8_wordsBy
      rw [q_in, Option.bind_some, ifn c1]
  by_cases c2 : 0 ≤ x2 ∧ x2 ≤ 2
  rotate_left
  · refine no (-2) ?_ ?_
    · unfold b_X7_wordsBy
      rw [c_isSheet, Option.bind_some, ifd c1]
      by_cases z : x2 < 0
      · rw [if_pos z]
      · rw [if_neg z, if_pos (show (2 : Int32) < x2 by
          rcases (show (2 : Int32) < x2 ∨ ¬ (2 : Int32) < x2 from Classical.em _) with q | q
          · exact q
          · exact absurd ⟨by rw [i_lt] at z; rw [i_le]; omega, by rw [i_lt] at q; rw [i_le]; omega⟩ c2)]
    · unfold b_X8_wordsBy
      rw [q_in, Option.bind_some, ifd c1, q_in, Option.bind_some, ifn c2]
  have d2 : ¬ x2 < 0 ∧ ¬ (2 : Int32) < x2 := ⟨by have := c2.1; rw [i_le] at this; rw [i_lt]; omega, by have := c2.2; rw [i_le] at this; rw [i_lt]; omega⟩
  by_cases c4 : 0 ≤ x4 ∧ x4 ≤ 12
  rotate_left
  · refine no (-2) ?_ ?_
    · unfold b_X7_wordsBy
      rw [c_isSheet, Option.bind_some, ifd c1, if_neg d2.1, if_neg d2.2]
      by_cases z : x4 < 0
      · rw [if_pos z]
      · rw [if_neg z, if_neg (fun y => c4 ⟨by rw [i_lt] at z; rw [i_le]; omega, y⟩)]
    · unfold b_X8_wordsBy
      rw [q_in, Option.bind_some, ifd c1, q_in, Option.bind_some, ifd c2, q_in, Option.bind_some, ifn c4]
  have d4 : ¬ x4 < 0 := by have := c4.1; rw [i_le] at this; rw [i_lt]; omega
  obtain ⟨s, s1, rfl⟩ := in_N (e := 3) (by decide) c1
  obtain ⟨n, hn, rfl⟩ := in_N (e := 12) (by decide) c4
  have s4 : s < 4 := by omega
  by_cases c5 : so s = -1
  · refine no (-11) ?_ ?_
    · unfold b_X7_wordsBy
      rw [c_isSheet, Option.bind_some, ifd c1, if_neg d2.1, if_neg d2.2, if_neg d4, if_pos c4.2, if_pos hK.o0, hK.r04, Option.bind_some, if_pos (hK.q40 s4).1, (hK.q40 s4).2, Option.bind_some, if_pos (hK.so s4).1, p_isMissing hK s4, Option.bind_some, hs1 s s4, ifd c5]
    · unfold b_X8_wordsBy
      rw [q_in, Option.bind_some, ifd c1, q_in, Option.bind_some, ifd c2, q_in, Option.bind_some, ifd c4, if_pos hK.mo, hK.m24.1, Option.bind_some, if_pos (gA_N hK.m24.2 s4 (by omega)), nC (by omega), hs3 s s4, if_pos c5]
  by_cases c6 : so s = x2
  rotate_left
  · refine no (-13) ?_ ?_
    · unfold b_X7_wordsBy
      rw [c_isSheet, Option.bind_some, ifd c1, if_neg d2.1, if_neg d2.2, if_neg d4, if_pos c4.2, if_pos hK.o0, hK.r04, Option.bind_some, if_pos (hK.q40 s4).1, (hK.q40 s4).2, Option.bind_some, if_pos (hK.so s4).1, p_isMissing hK s4, Option.bind_some, hs1 s s4, ifn c5, if_neg c6]
    · unfold b_X8_wordsBy
      rw [q_in, Option.bind_some, ifd c1, q_in, Option.bind_some, ifd c2, q_in, Option.bind_some, ifd c4, if_pos hK.mo, hK.m24.1, Option.bind_some, if_pos (gA_N hK.m24.2 s4 (by omega)), nC (by omega), hs3 s s4, if_neg c5, if_neg c6]
  have cl : ∀ r, (Option.bind (b_X7_wordsBy_68 K 0 x3 (nI n) (41 + 2 * s) 1000 M 0 0) fun x9 => Sum.elim (fun j15 => (some (j15.1, j15.2))) (fun r9 => (some r9)) x9) = some r → b_X7_wordsBy K M 0 (nI s) x2 x3 (nI n) = some r := by
    intro r hr
    unfold b_X7_wordsBy
    rw [c_isSheet, Option.bind_some, ifd c1, if_neg d2.1, if_neg d2.2, if_neg d4, if_pos c4.2, if_pos hK.o0, hK.r04, Option.bind_some, if_pos (hK.q40 s4).1, (hK.q40 s4).2, Option.bind_some, if_pos (hK.so s4).1, p_isMissing hK s4, Option.bind_some, hs1 s s4, ifn c5, if_pos c6]
    exact hr
  have ml : ∀ M' r, (∀ s, s < 4 → M' 61 s = so s) → (Option.bind (b_X8_wordsBy_64 K 50 (nI s) x3 (nI n) 1000 M' 0 0) fun x9 => Sum.elim (fun j12 => (some (j12.1, j12.2))) (fun r9 => (some r9)) x9) = some r → b_X8_wordsBy K M' 50 (nI s) x2 x3 (nI n) = some r := by
    intro M' r hs3 hr
    unfold b_X8_wordsBy
    rw [q_in, Option.bind_some, ifd c1, q_in, Option.bind_some, ifd c2, q_in, Option.bind_some, ifd c4, if_pos hK.mo, hK.m24.1, Option.bind_some, if_pos (gA_N hK.m24.2 s4 (by omega)), nC (by omega), hs3 s s4, if_neg c5, if_pos c6]
    exact hr
  rcases Nat.eq_zero_or_pos n with hn0 | hn0
  · subst hn0
    refine no 0 (cl _ ?_) (ml M _ hs3 ?_)
    · rw [show (1000 : Nat) = 999 + 1 from rfl, b_X7_wordsBy_68, if_pos (by decide), Option.bind_some]; rfl
    · rw [show (1000 : Nat) = 999 + 1 from rfl, b_X8_wordsBy_64, if_pos (by decide), Option.bind_some]; rfl
  have hn1 : ¬ nI n ≤ 0 := by rw [show (0 : Int32) = nI 0 from rfl, leN (by omega) (by omega)]; omega
  by_cases f0 : x3 < 0
  · refine no (-12) (cl _ ?_) (ml M _ hs3 ?_)
    · rw [show (1000 : Nat) = 999 + 1 from rfl, b_X7_wordsBy_68, if_neg hn1, if_pos f0, Option.bind_some]; rfl
    · rw [show (1000 : Nat) = 999 + 1 from rfl, b_X8_wordsBy_64, if_neg hn1, Option.bind_some, if_pos f0, Option.bind_some]; rfl
  obtain ⟨f, hf, rfl⟩ := nI_of f0
  have hmm := hs5 s s4
  by_cases f1 : f ≤ 40
  · obtain ⟨M1, p1, p2, p3, p4⟩ := p_wordsBy_loop (c := ce s) hK hW s4 hmm f1 hn n 1000 0 M (by omega) (by omega) hB hS (hs2 s s4).1 (hs2 s s4).2
    obtain ⟨M2, q1, q2, q3⟩ := q_wordsBy_loop (c := ce s) hK hW s4 hmm f1 hn n 1000 0 M1 (by omega) (by omega) (h.qf p4).1 (p4.qh (hs4 s s4))
    obtain ⟨j, hj⟩ := wbR_B b (ce s) f (sz s) n 0
    obtain ⟨w1, w2, w3, w4, w5⟩ := wbB_W hW (ce s) f j
    rw [← hj] at w1 w2 w3 w4 w5
    exact AL.bk h (h.ib w1 (by rw [w2]; exact hd) (by rw [w3]; exact hl) w4 w5) p2 p3 p4 (cl _ p1) (ml M1 _ (by rw [p4.ms 61 (by decide) (by decide)]; exact hs3) q1) q3 q2
  · refine no (-12) (cl _ ?_) (ml M _ hs3 ?_)
    · rw [show (1000 : Nat) = 999 + 1 from rfl, b_X7_wordsBy_68, if_neg hn1, if_neg f0, if_pos (show (40 : Int32) < nI f by rw [show (40 : Int32) = nI 40 from rfl, ltN (by omega) hf]; omega), Option.bind_some]; rfl
    · have e0 : nI f + (3 : Int32) * 0 = nI f := by rw [Int32.mul_zero, Int32.add_zero]
      have em : ¬ nI f ≤ nI (sz s) - (3 : Int32) := by
        rw [i_le, show nI (sz s) - (3 : Int32) = nI (sz s) - nI 3 from rfl, subI (by omega) (by omega), nJ hf]
        omega
      rw [show (1000 : Nat) = 999 + 1 from rfl, b_X8_wordsBy_64, if_neg hn1, e0, Option.bind_some, if_neg f0, if_neg (show ¬ nI f < nI f by rw [ltN hf hf]; omega), if_pos hK.mo, hK.m25.1, Option.bind_some, if_pos (gA_N hK.m25.2 s4 (by omega)), nC (by omega), (hs4 s s4).1, if_neg em, Option.bind_some]; rfl
