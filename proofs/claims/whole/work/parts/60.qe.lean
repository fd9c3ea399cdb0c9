/-! word, image, back -/
def wdO (x1 x2 x3 : Int32) : Prop := (0 ≤ x1 ∧ x1 ≤ 59) ∧ (1 ≤ x2 ∧ x2 ≤ 60) ∧ (-1 ≤ x3 ∧ x3 ≤ 11)
def wdN (b : Bk) (x1 x2 x3 : Int32) : Bk := (bE b + 1, upN (bK b) (bE b) (x1.toNatClampNeg / 10), upN (bM b) (bE b) (x1.toNatClampNeg % 10), upN (bZ b) (bE b) x2.toNatClampNeg, upN (bT b) (bE b) x3, upN (bR b) (bE b) (-1), bDn b, bDs b, bPg b, bDy b, bBm b, bSk b, bCa b, bLw b)
def wdB (b : Bk) (x1 x2 x3 : Int32) : Bk := if 0 ≤ x1 ∧ x1 ≤ 59 then (if 1 ≤ x2 ∧ x2 ≤ 60 then (if -1 ≤ x3 ∧ x3 ≤ 11 then (if bE b = 12 then b else wdN b x1 x2 x3) else b) else b) else b
def wdR (b : Bk) (x1 x2 x3 : Int32) : Int32 := if 0 ≤ x1 ∧ x1 ≤ 59 then (if 1 ≤ x2 ∧ x2 ≤ 60 then (if -1 ≤ x3 ∧ x3 ≤ 11 then (if bE b = 12 then -4 else nI (bE b)) else -2) else -2) else -2
theorem q_back_36 {K : yK} (hK : KSh K) : ∀ (f n i : Nat) (M : yM), i + f = 36 → f < n → ∃ M', b_X8_back_36 K 50 n M (nI i) = some M' ∧ (∀ j, i ≤ j → j < 36 → M' 53 j = M 58 j) ∧ (∀ j, j < i → M' 53 j = M 53 j) ∧ ∀ q, q ≠ 53 → M' q = M q := by
  have ad : isAr K 53 36 := hK.ar (by decide) rfl
  have as' : isAr K 58 36 := hK.ar (by decide) rfl
  intro f
  induction f with
  | zero =>
    intro n i M hi hn
    obtain ⟨n, rfl⟩ : ∃ k, n = k + 1 := ⟨n - 1, by omega⟩
    refine ⟨M, ?_, fun j h1 h2 => by omega, fun _ _ => rfl, fun _ _ => rfl⟩
    rw [b_X8_back_36, show (36 : Int32) = nI 36 from rfl, iteLe (by omega) (by omega), if_pos (by omega)]
  | succ f ih =>
    intro n i M hi hn
    obtain ⟨n, rfl⟩ : ∃ k, n = k + 1 := ⟨n - 1, by omega⟩
    obtain ⟨M', e1, e2, e3, e4⟩ := ih n (i + 1) (yS M 53 i (M 58 i)) (by omega) (by omega)
    refine ⟨M', ?_, fun j h1 h2 => ?_, fun j hj => ?_, fun q hq => ?_⟩
    · rw [b_X8_back_36, show (36 : Int32) = nI 36 from rfl, iteLe (by omega) (by omega), if_neg (by omega), if_pos hK.mo, hK.mr (f := 3) rfl, Option.bind_some, hK.mr (f := 21) rfl, Option.bind_some, if_pos (gA_N as' (by omega) (by omega)), if_pos (gA_N ad (by omega) (by omega)), nC (by omega), Option.bind_some, incN, Option.bind_some]
      exact e1
    · rcases Nat.lt_or_ge i j with z | z
      · rw [e2 j z h2, yS_op _ _ _ _ (by decide)]
      · obtain rfl : j = i := by omega
        rw [e3 j (by omega), yS_at]
    · rw [e3 j (by omega), yS_oi _ _ _ _ (by omega)]
    · rw [e4 q hq, yS_q _ _ _ hq]
theorem q_back_62 {K : yK} (hK : KSh K) : ∀ (f n i : Nat) (M : yM), i + f = 6 → f < n → ∃ M', b_X8_back_62 K 50 n M (nI i) = some M' ∧ (∀ j, i ≤ j → j < 6 → M' 54 j = M 59 j) ∧ (∀ j, j < i → M' 54 j = M 54 j) ∧ ∀ q, q ≠ 54 → M' q = M q := by
  have ad : isAr K 54 6 := hK.ar (by decide) rfl
  have as' : isAr K 59 6 := hK.ar (by decide) rfl
  intro f
  induction f with
  | zero =>
    intro n i M hi hn
    obtain ⟨n, rfl⟩ : ∃ k, n = k + 1 := ⟨n - 1, by omega⟩
    refine ⟨M, ?_, fun j h1 h2 => by omega, fun _ _ => rfl, fun _ _ => rfl⟩
    rw [b_X8_back_62, show (6 : Int32) = nI 6 from rfl, iteLe (by omega) (by omega), if_pos (by omega)]
  | succ f ih =>
    intro n i M hi hn
    obtain ⟨n, rfl⟩ : ∃ k, n = k + 1 := ⟨n - 1, by omega⟩
    obtain ⟨M', e1, e2, e3, e4⟩ := ih n (i + 1) (yS M 54 i (M 59 i)) (by omega) (by omega)
    refine ⟨M', ?_, fun j h1 h2 => ?_, fun j hj => ?_, fun q hq => ?_⟩
    · rw [b_X8_back_62, show (6 : Int32) = nI 6 from rfl, iteLe (by omega) (by omega), if_neg (by omega), if_pos hK.mo, hK.mr (f := 5) rfl, Option.bind_some, hK.mr (f := 22) rfl, Option.bind_some, if_pos (gA_N as' (by omega) (by omega)), if_pos (gA_N ad (by omega) (by omega)), nC (by omega), Option.bind_some, incN, Option.bind_some]
      exact e1
    · rcases Nat.lt_or_ge i j with z | z
      · rw [e2 j z h2, yS_op _ _ _ _ (by decide)]
      · obtain rfl : j = i := by omega
        rw [e3 j (by omega), yS_at]
    · rw [e3 j (by omega), yS_oi _ _ _ _ (by omega)]
    · rw [e4 q hq, yS_q _ _ _ hq]
theorem q_image_31 {K : yK} (hK : KSh K) : ∀ (f n i : Nat) (M : yM), i + f = 36 → f < n → ∃ M', b_X8_image_31 K 50 n M (nI i) = some M' ∧ (∀ j, i ≤ j → j < 36 → M' 58 j = M 53 j) ∧ (∀ j, j < i → M' 58 j = M 58 j) ∧ ∀ q, q ≠ 58 → M' q = M q := by
  have ad : isAr K 58 36 := hK.ar (by decide) rfl
  have as' : isAr K 53 36 := hK.ar (by decide) rfl
  intro f
  induction f with
  | zero =>
    intro n i M hi hn
    obtain ⟨n, rfl⟩ : ∃ k, n = k + 1 := ⟨n - 1, by omega⟩
    refine ⟨M, ?_, fun j h1 h2 => by omega, fun _ _ => rfl, fun _ _ => rfl⟩
    rw [b_X8_image_31, show (36 : Int32) = nI 36 from rfl, iteLe (by omega) (by omega), if_pos (by omega)]
  | succ f ih =>
    intro n i M hi hn
    obtain ⟨n, rfl⟩ : ∃ k, n = k + 1 := ⟨n - 1, by omega⟩
    obtain ⟨M', e1, e2, e3, e4⟩ := ih n (i + 1) (yS M 58 i (M 53 i)) (by omega) (by omega)
    refine ⟨M', ?_, fun j h1 h2 => ?_, fun j hj => ?_, fun q hq => ?_⟩
    · rw [b_X8_image_31, show (36 : Int32) = nI 36 from rfl, iteLe (by omega) (by omega), if_neg (by omega), if_pos hK.mo, hK.mr (f := 21) rfl, Option.bind_some, hK.mr (f := 3) rfl, Option.bind_some, if_pos (gA_N as' (by omega) (by omega)), if_pos (gA_N ad (by omega) (by omega)), nC (by omega), Option.bind_some, incN, Option.bind_some]
      exact e1
    · rcases Nat.lt_or_ge i j with z | z
      · rw [e2 j z h2, yS_op _ _ _ _ (by decide)]
      · obtain rfl : j = i := by omega
        rw [e3 j (by omega), yS_at]
    · rw [e3 j (by omega), yS_oi _ _ _ _ (by omega)]
    · rw [e4 q hq, yS_q _ _ _ hq]
theorem q_image_57 {K : yK} (hK : KSh K) : ∀ (f n i : Nat) (M : yM), i + f = 6 → f < n → ∃ M', b_X8_image_57 K 50 n M (nI i) = some M' ∧ (∀ j, i ≤ j → j < 6 → M' 59 j = M 54 j) ∧ (∀ j, j < i → M' 59 j = M 59 j) ∧ ∀ q, q ≠ 59 → M' q = M q := by
  have ad : isAr K 59 6 := hK.ar (by decide) rfl
  have as' : isAr K 54 6 := hK.ar (by decide) rfl
  intro f
  induction f with
  | zero =>
    intro n i M hi hn
    obtain ⟨n, rfl⟩ : ∃ k, n = k + 1 := ⟨n - 1, by omega⟩
    refine ⟨M, ?_, fun j h1 h2 => by omega, fun _ _ => rfl, fun _ _ => rfl⟩
    rw [b_X8_image_57, show (6 : Int32) = nI 6 from rfl, iteLe (by omega) (by omega), if_pos (by omega)]
  | succ f ih =>
    intro n i M hi hn
    obtain ⟨n, rfl⟩ : ∃ k, n = k + 1 := ⟨n - 1, by omega⟩
    obtain ⟨M', e1, e2, e3, e4⟩ := ih n (i + 1) (yS M 59 i (M 54 i)) (by omega) (by omega)
    refine ⟨M', ?_, fun j h1 h2 => ?_, fun j hj => ?_, fun q hq => ?_⟩
    · rw [b_X8_image_57, show (6 : Int32) = nI 6 from rfl, iteLe (by omega) (by omega), if_neg (by omega), if_pos hK.mo, hK.mr (f := 22) rfl, Option.bind_some, hK.mr (f := 5) rfl, Option.bind_some, if_pos (gA_N as' (by omega) (by omega)), if_pos (gA_N ad (by omega) (by omega)), nC (by omega), Option.bind_some, incN, Option.bind_some]
      exact e1
    · rcases Nat.lt_or_ge i j with z | z
      · rw [e2 j z h2, yS_op _ _ _ _ (by decide)]
      · obtain rfl : j = i := by omega
        rw [e3 j (by omega), yS_at]
    · rw [e3 j (by omega), yS_oi _ _ _ _ (by omega)]
    · rw [e4 q hq, yS_q _ _ _ hq]
theorem wdN_W {b : Bk} {x1 x2 x3 : Int32} (hW : WX b) (h12 : bE b < 12) (c1 : 0 ≤ x1 ∧ x1 ≤ 59) (c2 : 1 ≤ x2 ∧ x2 ≤ 60) (c3 : -1 ≤ x3 ∧ x3 ≤ 11) : WX (wdN b x1 x2 x3) := by
  obtain ⟨⟨w1, w2, w3, w4, w5, w6⟩, w7, w8, w9, w10⟩ := hW
  obtain ⟨n1, h1, rfl⟩ := in_N (e := 59) (by decide) c1
  obtain ⟨n2, h2, rfl⟩ := in_N (e := 60) (x := x2) (by decide) ⟨by have := c2.1; rw [i_le] at this ⊢; rw [i_0]; rw [show (1 : Int32).toInt = 1 by decide] at this; omega, c2.2⟩
  have h21 : 1 ≤ n2 := by have := c2.1; rw [show (1 : Int32) = nI 1 from rfl, leN (by omega) (by omega)] at this; exact this
  have hv : x3 = -1 ∨ ∃ j, j < 12 ∧ x3 = nI j := by
    by_cases z : x3 < 0
    · left
      have := c3.1
      rw [i_le, i_m1] at this
      rw [i_lt, i_0] at z
      rw [i_eq, i_m1]
      omega
    · obtain ⟨j, hj, rfl⟩ := nI_of z
      have := c3.2
      rw [show (11 : Int32) = nI 11 from rfl, leN hj (by omega)] at this
      exact .inr ⟨j, by omega, rfl⟩
  refine ⟨⟨by show bE b + 1 ≤ 12; omega, fun w hw => ?_, w3, w4, w5, ?_⟩, w7, w8, bB_le w9 (Nat.le_succ _), fun d hd => ?_⟩
  · show upN (bK b) (bE b) ((nI n1).toNatClampNeg / 10) w < 6 ∧ upN (bM b) (bE b) ((nI n1).toNatClampNeg % 10) w < 10 ∧ 1 ≤ upN (bZ b) (bE b) (nI n2).toNatClampNeg w ∧ upN (bZ b) (bE b) (nI n2).toNatClampNeg w ≤ 60 ∧ (upN (bT b) (bE b) x3 w = -1 ∨ ∃ j, j < 12 ∧ upN (bT b) (bE b) x3 w = nI j) ∧ (upN (bR b) (bE b) (-1) w = -1 ∨ ∃ j, j < 2000 ∧ upN (bR b) (bE b) (-1) w = nI j)
    have hw' : w < bE b + 1 := hw
    rw [nC (by omega), nC (by omega)]
    by_cases e : w = bE b
    · rw [e, upN_at, upN_at, upN_at, upN_at, upN_at]
      exact ⟨by omega, by omega, h21, h2, hv, .inl rfl⟩
    · rw [upN_o _ _ _ e, upN_o _ _ _ e, upN_o _ _ _ e, upN_o _ _ _ e, upN_o _ _ _ e]
      exact w2 w (by omega)
  · rcases w6 with e | ⟨j, hj, e⟩
    · exact .inl e
    · exact .inr ⟨j, Nat.lt_succ_of_lt hj, e⟩
  · obtain ⟨j, j1, j2, j3⟩ := w10 d hd
    refine ⟨j, j1, ?_, j3⟩
    show j < 2 ^ (bE b + 1)
    rw [Nat.pow_succ]
    omega
theorem ten1 {x1 : Int32} (c1 : 0 ≤ x1 ∧ x1 ≤ 59) : x1 / (10 : Int32) = nI (x1.toNatClampNeg / 10) ∧ x1 - x1 / (10 : Int32) * (10 : Int32) = nI (x1.toNatClampNeg % 10) := by
  obtain ⟨n1, h1, rfl⟩ := in_N (e := 59) (by decide) c1
  rw [nC (by omega)]
  exact ⟨divN (d := 10) (by omega) (by omega) (by omega), remN (d := 10) (by omega) (by omega) (by omega)⟩
theorem posN {x2 : Int32} (c2 : 1 ≤ x2 ∧ x2 ≤ 60) : x2 = nI x2.toNatClampNeg := by
  obtain ⟨n2, h2, rfl⟩ := in_N (e := 60) (x := x2) (by decide) ⟨by have := c2.1; rw [i_le] at this ⊢; rw [i_0]; rw [show (1 : Int32).toInt = 1 by decide] at this; omega, c2.2⟩
  rw [nC (by omega)]
theorem p_add {K : yK} {M : yM} {b : Bk} {x1 x2 x3 : Int32} (hK : KSh K) (hW : WX b) (h12 : bE b < 12) (c1 : 0 ≤ x1 ∧ x1 ≤ 59) (c2 : 1 ≤ x2 ∧ x2 ≤ 60) (c3 : -1 ≤ x3 ∧ x3 ≤ 11) (hB : BR M 7 b) : ∃ M', b_X0_add K M 7 x1 x2 x3 = some (true, M') ∧ BR M' 7 (wdN b x1 x2 x3) ∧ BS M' 7 (wdN b x1 x2 x3) ∧ Fb M M' := by
  obtain ⟨⟨b8, b9, b10, b11, b12, b13, b14, b15⟩, bv, bd⟩ := id hB
  obtain ⟨t1, t2⟩ := ten1 c1
  have t3 := posN c2
  obtain ⟨N, hN⟩ : ∃ N, N = yS (yS (yS (yS (yS M 8 (bE b) (nI (x1.toNatClampNeg / 10))) 9 (bE b) (nI (x1.toNatClampNeg % 10))) 10 (bE b) x2) 11 (bE b) x3) 12 (bE b) (-1) := ⟨_, rfl⟩
  have no : ∀ q, (q < 8 ∨ 12 < q) → N q = M q := fun q hq => by rw [hN, yS_q _ _ _ (by omega), yS_q _ _ _ (by omega), yS_q _ _ _ (by omega), yS_q _ _ _ (by omega), yS_q _ _ _ (by omega)]
  have hB' : BR (yS N 7 8 (nI (bE b + 1))) 7 (wdN b x1 x2 x3) := by
    have e1 : ∀ i, i ≠ 8 → yS N 7 8 (nI (bE b + 1)) 7 i = M 7 i := fun i hi => by rw [yS_oi _ _ _ _ hi, no 7 (by omega)]
    refine ⟨⟨yS_at _ _ _ _, (e1 9 (by decide)).trans b9, (e1 10 (by decide)).trans b10, (e1 11 (by decide)).trans b11, (e1 12 (by decide)).trans b12, (e1 13 (by decide)).trans b13, (e1 14 (by decide)).trans b14, (e1 15 (by decide)).trans b15⟩, fun w hw => ?_, fun d hd => ?_⟩
    · have hw' : w < bE b + 1 := hw
      show yS N 7 8 (nI (bE b + 1)) 8 w = nI (upN (bK b) (bE b) (x1.toNatClampNeg / 10) w) ∧ yS N 7 8 (nI (bE b + 1)) 9 w = nI (upN (bM b) (bE b) (x1.toNatClampNeg % 10) w) ∧ yS N 7 8 (nI (bE b + 1)) 10 w = nI (upN (bZ b) (bE b) x2.toNatClampNeg w) ∧ yS N 7 8 (nI (bE b + 1)) 11 w = upN (bT b) (bE b) x3 w ∧ yS N 7 8 (nI (bE b + 1)) 12 w = upN (bR b) (bE b) (-1) w
      rw [yS_q _ _ _ (show 8 ≠ 7 by decide), yS_q _ _ _ (show 9 ≠ 7 by decide), yS_q _ _ _ (show 10 ≠ 7 by decide), yS_q _ _ _ (show 11 ≠ 7 by decide), yS_q _ _ _ (show 12 ≠ 7 by decide), hN]
      by_cases e : w = bE b
      · subst e
        rw [upN_at, upN_at, upN_at, upN_at, upN_at]
        refine ⟨?_, ?_, ?_, ?_, ?_⟩
        · rw [yS_op _ _ _ _ (by decide), yS_op _ _ _ _ (by decide), yS_op _ _ _ _ (by decide), yS_op _ _ _ _ (by decide), yS_at]
        · rw [yS_op _ _ _ _ (by decide), yS_op _ _ _ _ (by decide), yS_op _ _ _ _ (by decide), yS_at]
        · rw [yS_op _ _ _ _ (by decide), yS_op _ _ _ _ (by decide), yS_at]; exact t3
        · rw [yS_op _ _ _ _ (by decide), yS_at]
        · rw [yS_at]
      · rw [upN_o _ _ _ e, upN_o _ _ _ e, upN_o _ _ _ e, upN_o _ _ _ e, upN_o _ _ _ e]
        have y : ∀ (P : yM) (p q : Nat) (v : Int32), yS P p (bE b) v q w = P q w := fun P p q v => by
          by_cases z : q = p
          · rw [z]; exact yS_oi _ _ _ _ e
          · exact yS_op _ _ _ _ z _
        simp only [y]
        exact bv w (by omega)
    · rw [yS_op _ _ _ _ (by decide), no 15 (by omega)]
      exact bd d hd
  obtain ⟨M', p1, p2, p3, p4⟩ := BR.settle hK iB7 (wdN_W hW h12 c1 c2 c3).1 hB'
  refine ⟨M', ?_, p2, p3, fun q z1 z2 z3 z4 => by rw [p4 q (by omega) (by omega), yS_q _ _ _ (by omega), no q (by omega)]⟩
  have ga : ∀ f, f < 5 → gA K (7 + 1 + f) (nI (bE b)) = true := fun f hf => gA_N (hK.ba iB7 hf) (by omega) (by omega)
  unfold b_X0_add
  rw [if_pos hK.o7, b8, Option.bind_some, if_neg (nI_pos (by omega)), if_pos (show nI (bE b) < 12 by rw [show (12 : Int32) = nI 12 from rfl, ltN (by omega) (by omega)]; exact h12), hK.br iB7 (f := 0) (by omega), Option.bind_some, if_pos (ga 0 (by omega)), Option.bind_some, hK.br iB7 (f := 1) (by omega), Option.bind_some, if_pos (ga 1 (by omega)), Option.bind_some, hK.br iB7 (f := 2) (by omega), Option.bind_some, if_pos (ga 2 (by omega)), Option.bind_some, hK.br iB7 (f := 3) (by omega), Option.bind_some, if_pos (ga 3 (by omega)), Option.bind_some, hK.br iB7 (f := 4) (by omega), Option.bind_some, if_pos (ga 4 (by omega)), Option.bind_some, nC (by omega), t1]
  rw [t1] at t2
  rw [t2, ← hN, no 7 (by omega), b8, incN, Option.bind_some, p1, Option.bind_some]
theorem p_word {K : yK} {M : yM} {b : Bk} (hK : KSh K) (hW : WX b) (hB : BR M 7 b) (hS : BS M 7 b) (x1 x2 x3 : Int32) : ∃ M', b_X7_word K M 0 x1 x2 x3 = some (wdR b x1 x2 x3, M') ∧ BR M' 7 (wdB b x1 x2 x3) ∧ BS M' 7 (wdB b x1 x2 x3) ∧ Fb M M' := by
  have h12 := hW.1.1
  unfold b_X7_word wdR wdB
  have e60 : ((60 : Int32) ≤ x1) = ((59 : Int32) < x1) := by
    rw [i_le, i_lt, show (60 : Int32).toInt = 60 by decide, show (59 : Int32).toInt = 59 by decide]
    apply propext
    omega
  have e12 : (x3 < (12 : Int32)) = (x3 ≤ (11 : Int32)) := by
    rw [i_le, i_lt, show (12 : Int32).toInt = 12 by decide, show (11 : Int32).toInt = 11 by decide]
    apply propext
    omega
  by_cases y1 : x1 < 0
  · rw [if_pos y1, if_neg (not_in y1), if_neg (not_in y1)]
    exact ⟨M, rfl, hB, hS, Fb.rf _⟩
  by_cases y2 : (60 : Int32) ≤ x1
  · rw [if_neg y1, if_pos y2, if_neg (not_in2 (e60 ▸ y2)), if_neg (not_in2 (e60 ▸ y2))]
    exact ⟨M, rfl, hB, hS, Fb.rf _⟩
  have c1 : 0 ≤ x1 ∧ x1 ≤ 59 := ⟨by rw [i_lt] at y1; rw [i_le]; omega, by rw [e60, i_lt] at y2; rw [i_le]; omega⟩
  rw [if_neg y1, if_neg y2, if_pos c1, if_pos c1]
  by_cases y3 : x2 < 1
  · rw [if_pos y3, if_neg (not_in y3), if_neg (not_in y3)]
    exact ⟨M, rfl, hB, hS, Fb.rf _⟩
  by_cases y4 : (60 : Int32) < x2
  · rw [if_neg y3, if_pos y4, if_neg (not_in2 y4), if_neg (not_in2 y4)]
    exact ⟨M, rfl, hB, hS, Fb.rf _⟩
  have c2 : 1 ≤ x2 ∧ x2 ≤ 60 := ⟨by rw [i_lt] at y3; rw [i_le]; omega, by rw [i_lt] at y4; rw [i_le]; omega⟩
  rw [if_neg y3, if_neg y4, if_pos c2, if_pos c2]
  by_cases y5 : x3 < -1
  · rw [if_pos y5, if_neg (not_in y5), if_neg (not_in y5)]
    exact ⟨M, rfl, hB, hS, Fb.rf _⟩
  rw [if_neg y5]
  by_cases y6 : x3 < (12 : Int32)
  rotate_left
  · have y7 : ¬ (-1 ≤ x3 ∧ x3 ≤ 11) := fun z => y6 (e12 ▸ z.2)
    rw [if_neg y6, if_neg y7, if_neg y7]
    exact ⟨M, rfl, hB, hS, Fb.rf _⟩
  have c3 : -1 ≤ x3 ∧ x3 ≤ 11 := ⟨by rw [i_lt] at y5; rw [i_le]; omega, e12 ▸ y6⟩
  rw [if_pos y6, if_pos c3, if_pos c3, if_pos hK.o0, hK.r00, Option.bind_some, if_pos hK.o7]
  by_cases c : bE b = 12
  · rw [if_pos c, if_pos c]
    refine ⟨M, ?_, hB, hS, Fb.rf _⟩
    unfold b_X0_add
    rw [if_pos hK.o7, hB.1.1, Option.bind_some, if_neg (nI_pos (by omega)), if_neg (show ¬ nI (bE b) < 12 by rw [show (12 : Int32) = nI 12 from rfl, ltN (by omega) (by omega)]; omega), Option.bind_some, if_neg Bool.false_ne_true]
  · obtain ⟨M', p1, p2, p3, p4⟩ := p_add hK hW (by omega) c1 c2 c3 hB
    rw [if_neg c, if_neg c]
    refine ⟨M', ?_, p2, p3, p4⟩
    rw [p1, Option.bind_some, if_pos rfl]
    dsimp only
    rw [p2.1.1, show nI (bE (wdN b x1 x2 x3)) - (1 : Int32) = nI (bE b + 1 - 1) from subN (b := 1) (by show 1 ≤ bE b + 1; omega)]
    rfl
theorem q_word {K : yK} {M : yM} {b : Bk} (hK : KSh K) (hW : WX b) (hB : MR M b) (x1 x2 x3 : Int32) : ∃ M', b_X8_word K M 50 x1 x2 x3 = some (wdR b x1 x2 x3, M') ∧ MR M' (wdB b x1 x2 x3) ∧ Ms M M' := by
  have h12 := hW.1.1
  unfold b_X8_word wdR wdB
  rw [q_in, Option.bind_some]
  by_cases c1 : 0 ≤ x1 ∧ x1 ≤ 59
  rotate_left
  · rw [ifn c1, if_neg c1, if_neg c1]; exact ⟨M, rfl, hB, Ms.rf _⟩
  rw [ifd c1, if_pos c1, if_pos c1, q_in, Option.bind_some]
  by_cases c2 : 1 ≤ x2 ∧ x2 ≤ 60
  rotate_left
  · rw [ifn c2, if_neg c2, if_neg c2]; exact ⟨M, rfl, hB, Ms.rf _⟩
  rw [ifd c2, if_pos c2, if_pos c2, q_in, Option.bind_some]
  by_cases c3 : -1 ≤ x3 ∧ x3 ≤ 11
  rotate_left
  · rw [ifn c3, if_neg c3, if_neg c3]; exact ⟨M, rfl, hB, Ms.rf _⟩
  rw [ifd c3, if_pos c3, if_pos c3, if_pos hK.mo, hB.1.1, show (12 : Int32) = nI 12 from rfl, iteEq (by omega) (by omega)]
  by_cases c : bE b = 12
  · rw [if_pos c, if_pos c, if_pos c]; exact ⟨M, rfl, hB, Ms.rf _⟩
  rw [if_neg c, if_neg c, if_neg c]
  obtain ⟨⟨b0, b4, b6, b7, b8, b9, b10, b16⟩, bv, bd⟩ := id hB
  obtain ⟨t1, t2⟩ := ten1 c1
  have t3 := posN c2
  have a51 : isAr K 51 12 := hK.ar (by decide) rfl
  have a52 : isAr K 52 12 := hK.ar (by decide) rfl
  have a53 : isAr K 53 36 := hK.ar (by decide) rfl
  have e3 : (3 : Int32) * nI (bE b) = nI (3 * bE b) := by rw [show (3 : Int32) = nI 3 from rfl, mulN]
  have e31 : nI (3 * bE b) + (1 : Int32) = nI (3 * bE b + 1) := incN _
  have e32 : nI (3 * bE b) + (2 : Int32) = nI (3 * bE b + 2) := addN _ 2
  obtain ⟨N, hN⟩ : ∃ N, N = yS (yS (yS (yS (yS M 51 (bE b) (nI (x1.toNatClampNeg / 10))) 52 (bE b) (nI (x1.toNatClampNeg % 10))) 53 (3 * bE b) x2) 53 (3 * bE b + 1) x3) 53 (3 * bE b + 2) (-1) := ⟨_, rfl⟩
  have no : ∀ q, (q < 51 ∨ 53 < q) → N q = M q := fun q hq => by rw [hN, yS_q _ _ _ (by omega), yS_q _ _ _ (by omega), yS_q _ _ _ (by omega), yS_q _ _ _ (by omega), yS_q _ _ _ (by omega)]
  rw [t1] at t2
  have y0 : ∀ (P : yM) (p i : Nat) (v : Int32), p ≠ 50 → yS P p i v 50 0 = P 50 0 := fun P p i v hp => yS_op _ _ _ _ (by omega) _
  refine ⟨yS N 50 0 (nI (bE b + 1)), ?_, ?_, ?_⟩
  · rw [hK.mr (f := 1) rfl, Option.bind_some, if_pos (gA_N a51 (by omega) (by omega)), nC (by omega), t1, Option.bind_some, hK.mr (f := 2) rfl, Option.bind_some, y0 _ _ _ _ (by decide), b0, if_pos (gA_N a52 (by omega) (by omega)), nC (by omega), t2, Option.bind_some, hK.mr (f := 3) rfl, Option.bind_some, y0 _ _ _ _ (by decide), y0 _ _ _ _ (by decide), b0, e3, if_pos (gA_N a53 (by omega) (by omega)), nC (by omega), Option.bind_some, y0 _ _ _ _ (by decide), y0 _ _ _ _ (by decide), y0 _ _ _ _ (by decide), b0, e3, e31, if_pos (gA_N a53 (by omega) (by omega)), nC (by omega), Option.bind_some, y0 _ _ _ _ (by decide), y0 _ _ _ _ (by decide), y0 _ _ _ _ (by decide), y0 _ _ _ _ (by decide), b0, e3, e32, if_pos (gA_N a53 (by omega) (by omega)), nC (by omega), Option.bind_some, ← hN, no 50 (by omega), b0, incN, Option.bind_some, yS_at, show nI (bE b + 1) - (1 : Int32) = nI (bE b + 1 - 1) from subN (b := 1) (by omega)]
    rfl
  · have e1 : ∀ i, i ≠ 0 → yS N 50 0 (nI (bE b + 1)) 50 i = M 50 i := fun i hi => by rw [yS_oi _ _ _ _ hi, no 50 (by omega)]
    refine ⟨⟨yS_at _ _ _ _, (e1 4 (by decide)).trans b4, (e1 6 (by decide)).trans b6, (e1 7 (by decide)).trans b7, (e1 8 (by decide)).trans b8, (e1 9 (by decide)).trans b9, (e1 10 (by decide)).trans b10, (e1 16 (by decide)).trans b16⟩, fun w hw => ?_, fun d hd => ?_⟩
    · have hw' : w < bE b + 1 := hw
      show yS N 50 0 (nI (bE b + 1)) 51 w = nI (upN (bK b) (bE b) (x1.toNatClampNeg / 10) w) ∧ yS N 50 0 (nI (bE b + 1)) 52 w = nI (upN (bM b) (bE b) (x1.toNatClampNeg % 10) w) ∧ yS N 50 0 (nI (bE b + 1)) 53 (3 * w) = nI (upN (bZ b) (bE b) x2.toNatClampNeg w) ∧ yS N 50 0 (nI (bE b + 1)) 53 (3 * w + 1) = upN (bT b) (bE b) x3 w ∧ yS N 50 0 (nI (bE b + 1)) 53 (3 * w + 2) = upN (bR b) (bE b) (-1) w
      rw [yS_q _ _ _ (show 51 ≠ 50 by decide), yS_q _ _ _ (show 52 ≠ 50 by decide), yS_q _ _ _ (show 53 ≠ 50 by decide), hN]
      by_cases e : w = bE b
      · subst e
        rw [upN_at, upN_at, upN_at, upN_at, upN_at]
        refine ⟨?_, ?_, ?_, ?_, ?_⟩
        · rw [yS_op _ _ _ _ (by decide), yS_op _ _ _ _ (by decide), yS_op _ _ _ _ (by decide), yS_op _ _ _ _ (by decide), yS_at]
        · rw [yS_op _ _ _ _ (by decide), yS_op _ _ _ _ (by decide), yS_op _ _ _ _ (by decide), yS_at]
        · rw [yS_oi _ _ _ _ (by omega), yS_oi _ _ _ _ (by omega), yS_at]; exact t3
        · rw [yS_oi _ _ _ _ (by omega), yS_at]
        · rw [yS_at]
      · rw [upN_o _ _ _ e, upN_o _ _ _ e, upN_o _ _ _ e, upN_o _ _ _ e, upN_o _ _ _ e]
        obtain ⟨g1, g2, g3, g4, g5⟩ := bv w (by omega)
        refine ⟨?_, ?_, ?_, ?_, ?_⟩
        · rw [yS_op _ _ _ _ (by decide), yS_op _ _ _ _ (by decide), yS_op _ _ _ _ (by decide), yS_op _ _ _ _ (by decide), yS_oi _ _ _ _ e]; exact g1
        · rw [yS_op _ _ _ _ (by decide), yS_op _ _ _ _ (by decide), yS_op _ _ _ _ (by decide), yS_oi _ _ _ _ e, yS_op _ _ _ _ (by decide)]; exact g2
        · rw [yS_oi _ _ _ _ (by omega), yS_oi _ _ _ _ (by omega), yS_oi _ _ _ _ (by omega), yS_op _ _ _ _ (by decide), yS_op _ _ _ _ (by decide)]; exact g3
        · rw [yS_oi _ _ _ _ (by omega), yS_oi _ _ _ _ (by omega), yS_oi _ _ _ _ (by omega), yS_op _ _ _ _ (by decide), yS_op _ _ _ _ (by decide)]; exact g4
        · rw [yS_oi _ _ _ _ (by omega), yS_oi _ _ _ _ (by omega), yS_oi _ _ _ _ (by omega), yS_op _ _ _ _ (by decide), yS_op _ _ _ _ (by decide)]; exact g5
    · rw [yS_op _ _ _ _ (by decide), no 54 (by omega)]
      exact bd d hd
  · have hmN : Ms M N := by
      rw [hN]
      exact ((((Ms.a (by decide)).tr (Ms.a (by decide))).tr (Ms.a (by decide))).tr (Ms.a (by decide))).tr (Ms.a (by decide))
    exact hmN.tr (Ms.f (by decide))
/-- the new Book goes on well -/
theorem wdB_W {b : Bk} (hW : WX b) (x1 x2 x3 : Int32) : WX (wdB b x1 x2 x3) ∧ bDy (wdB b x1 x2 x3) = bDy b ∧ bLw (wdB b x1 x2 x3) = bLw b ∧ bE b ≤ bE (wdB b x1 x2 x3) ∧ ∀ w, w < bE b → bK (wdB b x1 x2 x3) w = bK b w ∧ bM (wdB b x1 x2 x3) w = bM b w := by
  have h12 := hW.1.1
  have triv : WX b ∧ bDy b = bDy b ∧ bLw b = bLw b ∧ bE b ≤ bE b ∧ ∀ w, w < bE b → bK b w = bK b w ∧ bM b w = bM b w := ⟨hW, rfl, rfl, Nat.le_refl _, fun _ _ => ⟨rfl, rfl⟩⟩
  unfold wdB
  by_cases c1 : 0 ≤ x1 ∧ x1 ≤ 59
  rotate_left
  · rw [if_neg c1]; exact triv
  rw [if_pos c1]
  by_cases c2 : 1 ≤ x2 ∧ x2 ≤ 60
  rotate_left
  · rw [if_neg c2]; exact triv
  rw [if_pos c2]
  by_cases c3 : -1 ≤ x3 ∧ x3 ≤ 11
  rotate_left
  · rw [if_neg c3]; exact triv
  rw [if_pos c3]
  by_cases c : bE b = 12
  · rw [if_pos c]; exact triv
  rw [if_neg c]
  refine ⟨wdN_W hW (by omega) c1 c2 c3, rfl, rfl, Nat.le_succ _, fun w hw => ⟨?_, ?_⟩⟩
  · show upN (bK b) (bE b) _ w = _
    exact upN_o _ _ _ (by omega)
  · show upN (bM b) (bE b) _ w = _
    exact upN_o _ _ _ (by omega)
theorem a_word {K : yK} {M : yM} {b ib : Bk} {im : Bool} {tn ts : Nat} {tx : Nat → Tx} {tp so : Nat → Int32} {sz : Nat → Nat} {ce : Nat → Nat → Int32} (h : IN K M b ib im tn ts tx tp so sz ce) (x1 x2 x3 : Int32) : AL K (fun M => b_X7_word K M 0 x1 x2 x3) (fun M => b_X8_word K M 50 x1 x2 x3) M := by
  obtain ⟨hK, hW, hd, hl, hT, hx, hB, hS, hXs, hX⟩ := h.cls
  obtain ⟨M1, p1, p2, p3, p4⟩ := p_word hK hW hB hS x1 x2 x3
  obtain ⟨M2, q1, q2, q3⟩ := q_word hK hW (h.qf p4).1 x1 x2 x3
  obtain ⟨w1, w2, w3, w4, w5⟩ := wdB_W hW x1 x2 x3
  exact AL.bk h (h.ib w1 (by rw [w2]; exact hd) (by rw [w3]; exact hl) w4 w5) p2 p3 p4 p1 q1 q3 q2
