theorem ite_dec {p : Prop} [Decidable p] : (if p then some true else some false : Option Bool) = some (decide p) := by
  by_cases h : p
  · rw [if_pos h, dc h]
  · rw [if_neg h, dcF h]
theorem BR.cg {M M' : yM} {t : Nat} {b : Bk} (h : BR M t b) (h1 : ∀ q, t ≤ q → q ≤ t + 8 → M' q = M q) : BR M' t b := by
  obtain ⟨h2, h3, h4⟩ := h
  refine ⟨by rw [h1 t (by omega) (by omega)]; exact h2, ?_, ?_⟩
  · intro w hw
    rw [h1 (t + 1) (by omega) (by omega), h1 (t + 2) (by omega) (by omega), h1 (t + 3) (by omega) (by omega), h1 (t + 4) (by omega) (by omega), h1 (t + 5) (by omega) (by omega)]
    exact h3 w hw
  · intro d hd
    rw [h1 (t + 8) (by omega) (by omega)]
    exact h4 d hd
theorem BS.cg {M M' : yM} {t : Nat} {b : Bk} (h : BS M t b) (h1 : ∀ q, t ≤ q → q ≤ t + 8 → M' q = M q) : BS M' t b := by
  obtain ⟨h2, h3⟩ := h
  exact ⟨fun w hw => by rw [h1 (t + 6) (by omega) (by omega)]; exact h2 w hw, fun w hw => by rw [h1 (t + 7) (by omega) (by omega)]; exact h3 w hw⟩
theorem MR.cg {M M' : yM} {b : Bk} (h : MR M b) (h1 : ∀ q, 50 ≤ q → q ≤ 54 → M' q = M q) : MR M' b := by
  unfold MR
  rw [h1 50 (by omega) (by omega), h1 51 (by omega) (by omega), h1 52 (by omega) (by omega), h1 53 (by omega) (by omega), h1 54 (by omega) (by omega)]
  exact h
/-- a book and its text stand well -/
def WX (b : Bk) : Prop := WB b ∧ bLw b < 6 ∧ bB (bCa b) 12 ∧ bB (bSk b) (bE b) ∧ ∀ d, d < bDn b → ∃ j, 0 < j ∧ j < 2 ^ bE b ∧ bDs b d = nI j
def hoB (x : Tx) (b : Bk) (w : Nat) : Bool := holdB (bK b w) (nI (bM b w)) (decide (bR b w = nI (bDy b))) (decide (saysB x b 1 w (onesF (bCa b) 12) (behB (bDy b) (bR b w)) = 1)) (behB (bDy b) (bR b w)) (nI (bDy b))
def itsB (x : Tx) (b : Bk) : Nat → Int32
  | 0 => 0
  | w + 1 => itsB x b w ||| (if hoB x b w = true then sh1 w else 0)
theorem saysB_1 (x : Tx) (b : Bk) (w : Nat) (m be : Int32) : (saysB x b 1 w m be = 0) ↔ ¬ (saysB x b 1 w m be = 1) := by
  unfold saysB
  rw [if_pos rfl]
  by_cases h : sayV x (nmB b w m be) 1 = 0
  · rw [if_pos h]; exact ⟨fun _ => by decide, fun _ => rfl⟩
  · rw [if_neg h]; exact ⟨fun e => absurd e (by decide), fun e => absurd rfl e⟩
theorem p_itself_loop {K : yK} {t : Nat} {b : Bk} {x : Tx} (hK : KSh K) (ht : isB t) (hW : WX b) (hx : TxW x) : ∀ (f n w : Nat) (M : yM), BR M t b → xT K M (bLw b) x → w + f = bE b → f < n → ∃ M', b_X0_itself_12 K t (onesF (bCa b) 12) n M (itsB x b w) (nI w) = some (itsB x b (bE b), M') ∧ ∀ q, q ≠ 5 → q ≠ 6 → M' q = M q := by
  obtain ⟨hWB, hL, -, -, -⟩ := id hW
  obtain ⟨h12, hr, -⟩ := id hWB
  have t7 : 7 ≤ t ∧ t ≤ 25 := by rcases ht with rfl | rfl | rfl <;> omega
  intro f
  induction f with
  | zero =>
    intro n w M hB hX hw hn
    obtain ⟨n, rfl⟩ : ∃ z, n = z + 1 := ⟨n - 1, by omega⟩
    refine ⟨M, ?_, fun _ _ _ => rfl⟩
    rw [b_X0_itself_12, if_pos (hK.bo ht), hB.1.1, iteLe (by omega) (by omega), if_pos (by omega), show w = bE b by omega]
  | succ f ih =>
    intro n w M hBR hX hw hn
    obtain ⟨n, rfl⟩ : ∃ z, n = z + 1 := ⟨n - 1, by omega⟩
    have hwe : w < bE b := by omega
    obtain ⟨⟨h8, -, -, h11, -⟩, hv, -⟩ := id hBR
    obtain ⟨v1, v2, -, -, v5⟩ := hv w hwe
    have tail : ∀ (M1 : yM) (rd ys : Bool), (∀ q, q ≠ 5 → q ≠ 6 → M1 q = M q) → holdB (bK b w) (nI (bM b w)) rd ys (behB (bDy b) (bR b w)) (nI (bDy b)) = hoB x b w → ∃ M', (Option.bind (K.2.2 t 0) fun q17 => (if gA K q17 (nI w) = true then (Option.bind (K.2.2 t 1) fun q19 => (if gA K q19 (nI w) = true then (Option.bind (b_X2_holds K M1 ((M1 q17 w)) ((M1 q19 w)) rd ys (behB (bDy b) (bR b w)) ((M1 t 11))) fun r21 => (Option.bind (if r21 = true then (Option.bind (some (itsB x b w ||| ((1 : Int32) <<< (nI w &&& 31)))) fun v24 => (some v24)) else (some (itsB x b w))) fun j23 => (Option.bind (some (nI w + (1 : Int32))) fun v25 => (b_X0_itself_12 K t (onesF (bCa b) 12) n M1 j23 v25)))) else none)) else none)) = some (itsB x b (bE b), M') ∧ ∀ q, q ≠ 5 → q ≠ 6 → M' q = M q := by
      intro M1 rd ys hM hh
      obtain ⟨M', e1, e2⟩ := ih n (w + 1) M1 (hBR.cg (fun q h1 h2 => hM q (by omega) (by omega))) (hX.cg (fun q h1 => hM q (by omega) (by omega))) (by omega) (by omega)
      refine ⟨M', ?_, fun q h5 h6 => by rw [e2 q h5 h6, hM q h5 h6]⟩
      rw [hK.br ht (f := 0) (by omega), Option.bind_some, if_pos (gA_N (hK.ba ht (f := 0) (by omega)) (by omega) (by omega)), hK.br ht (f := 1) (by omega), Option.bind_some, if_pos (gA_N (hK.ba ht (f := 1) (by omega)) (by omega) (by omega)), hM (t + 1 + 0) (by omega) (by omega), hM (t + 1 + 1) (by omega) (by omega), hM t (by omega) (by omega), h11, show t + 1 + 0 = t + 1 from rfl, show t + 1 + 1 = t + 2 from rfl, v1, v2, p_holds (hr w hwe).1, hh, Option.bind_some]
      have e3 : itsB x b (w + 1) = itsB x b w ||| (if hoB x b w = true then sh1 w else 0) := rfl
      by_cases c : hoB x b w = true
      · rw [if_pos c] at e3
        rw [if_pos c, Option.bind_some, Option.bind_some, incN, Option.bind_some, show itsB x b w ||| (1 : Int32) <<< (nI w &&& 31) = itsB x b (w + 1) from e3.symm]
        exact e1
      · rw [if_neg c, orI_0] at e3
        rw [if_neg c, Option.bind_some, incN, Option.bind_some, ← e3]
        exact e1
    obtain ⟨M1, s1, s2⟩ := p_says (K := K) (M := M) (t := t) (part := 1) (w := w) (b := b) (x := x) hK ht hWB hBR hL hX hx (by omega) hwe (onesF (bCa b) 12) (behB (bDy b) (bR b w))
    have s1 : b_X0_says K M t 1 (nI w) (onesF (bCa b) 12) (behB (bDy b) (bR b w)) = some (saysB x b 1 w (onesF (bCa b) 12) (behB (bDy b) (bR b w)), M1) := s1
    have ey : (if saysB x b 1 w (onesF (bCa b) 12) (behB (bDy b) (bR b w)) = 0 then some (false, M1) else some (true, M1) : Option (Bool × yM)) = some (decide (saysB x b 1 w (onesF (bCa b) 12) (behB (bDy b) (bR b w)) = 1), M1) := by
      by_cases c : saysB x b 1 w (onesF (bCa b) 12) (behB (bDy b) (bR b w)) = 0
      · rw [if_pos c, dcF ((saysB_1 _ _ _ _ _).mp c)]
      · rw [if_neg c]
        by_cases c2 : saysB x b 1 w (onesF (bCa b) 12) (behB (bDy b) (bR b w)) = 1
        · rw [dc c2]
        · exact absurd ((saysB_1 _ _ _ _ _).mpr c2) c
    rw [b_X0_itself_12, if_pos (hK.bo ht), h8, iteLe (by omega) (by omega), if_neg (by omega), p_behindOf hK ht hWB hBR hwe, Option.bind_some, hK.br ht (f := 4) (by omega), Option.bind_some, if_pos (gA_N (hK.ba ht (f := 4) (by omega)) (by omega) (by omega)), nC (by omega), show t + 1 + 4 = t + 5 by omega, v5, h11, ite_dec, Option.bind_some]
    have hh := holdB_yes (bK b w) (nI (bM b w)) (decide (bR b w = nI (bDy b))) (decide (saysB x b 1 w (onesF (bCa b) 12) (behB (bDy b) (bR b w)) = 1)) (behB (bDy b) (bR b w)) (nI (bDy b))
    have hu : hoB x b w = holdB (bK b w) (nI (bM b w)) (decide (bR b w = nI (bDy b))) (decide (saysB x b 1 w (onesF (bCa b) 12) (behB (bDy b) (bR b w)) = 1)) (behB (bDy b) (bR b w)) (nI (bDy b)) := rfl
    generalize decide (bR b w = nI (bDy b)) = rd at hh hu ⊢
    cases rd with
    | true =>
      rw [if_pos (by rfl), s1, Option.bind_some]
      dsimp only
      rw [ey, Option.bind_some]
      exact tail M1 true _ s2 hu.symm
    | false =>
      rw [if_neg (by decide), hK.br ht (f := 1) (by omega), Option.bind_some, if_pos (gA_N (hK.ba ht (f := 1) (by omega)) (by omega) (by omega)), show t + 1 + 1 = t + 2 from rfl, v2]
      rw [hK.br ht (f := 1) (by omega)] at tail
      rw [if_neg (by decide)] at hh
      by_cases c : nI (bM b w) < behB (bDy b) (bR b w)
      · rw [if_pos c, Option.bind_some]
        rw [if_pos c] at hh
        exact tail M false false (fun _ _ _ => rfl) (hh.trans hu.symm)
      · rw [if_neg c, s1, Option.bind_some]
        dsimp only
        rw [ey, Option.bind_some]
        exact tail M1 false _ s2 hu.symm
theorem p_itself {K : yK} {M : yM} {t : Nat} {b : Bk} {x : Tx} (hK : KSh K) (ht : isB t) (hW : WX b) (hB : BR M t b) (hX : xT K M (bLw b) x) (hx : TxW x) : ∃ M', b_X0_itself K M t = some (itsB x b (bE b), M') ∧ ∀ q, q ≠ 5 → q ≠ 6 → M' q = M q := by
  obtain ⟨M', e1, e2⟩ := p_itself_loop hK ht hW hx (bE b) 1000 0 M hB hX (by omega) (by have := hW.1.1; omega)
  obtain ⟨j, hj, ej⟩ := bB_nI hW.2.2.1 (by omega)
  refine ⟨M', ?_, e2⟩
  have h14 : M t 14 = bCa b := hB.1.2.2.2.2.2.2.1
  unfold b_X0_itself
  rw [if_pos (hK.bo ht), h14, ej, p_bitCount hj, Option.bind_some, ← ej]
  rw [show b_X0_itself_12 K t (onesF (bCa b) 12) 1000 M 0 0 = some (itsB x b (bE b), M') from e1]
  rfl
theorem q_holdsItself {K : yK} {M : yM} {w : Nat} {b : Bk} {x : Tx} (hK : KSh K) (hW : WX b) (hB : MR M b) (hX : MT M (bLw b) x) (hx : TxW x) (hw : w < bE b) : ∃ M', b_X8_holdsItself K M 50 (nI w) = some (hoB x b w, M') ∧ ∀ q, q ≠ 67 → q ≠ 68 → M' q = M q := by
  obtain ⟨hWB, hL, -, -, -⟩ := id hW
  obtain ⟨h12, hr, -⟩ := id hWB
  obtain ⟨⟨h0, -, -, h7, -, -, h10, h16⟩, hv, -⟩ := id hB
  obtain ⟨v1, v2, -, -, v5⟩ := hv w hw
  obtain ⟨M1, s1, s2⟩ := q_asksOf (K := K) (M := M) (part := 1) (w := w) (b := b) (x := x) hK hWB hB.me h7 h16 hL hX hx (by omega) hw (onesF (bCa b) 12) (behB (bDy b) (bR b w))
  have s1 : b_X8_asksOf K M 50 1 (nI w) (onesF (bCa b) 12) (behB (bDy b) (bR b w)) = some (saysB x b 1 w (onesF (bCa b) 12) (behB (bDy b) (bR b w)), M1) := s1
  refine ⟨M1, ?_, s2⟩
  have g52 : gA K 52 (nI w) = true := gA_N (hK.ar (p := 52) (n := 12) (by decide) rfl) (by omega) (by omega)
  have g51 : gA K 51 (nI w) = true := gA_N (hK.ar (p := 51) (n := 12) (by decide) rfl) (by omega) (by omega)
  have g53 : gA K 53 (nI (3 * w + 2)) = true := gA_N (hK.ar (p := 53) (n := 36) (by decide) rfl) (by omega) (by omega)
  unfold b_X8_holdsItself
  rw [if_pos hK.mo, q_behindOf hK hWB hB hw, Option.bind_some, hK.mr (f := 2) rfl, Option.bind_some, if_pos g52, nC (by omega), v2, Option.bind_some, h10, q_ones, Option.bind_some, s1, Option.bind_some]
  dsimp only
  rw [ite_dec, Option.bind_some, hK.mr (f := 3) rfl, hK.mr (f := 1) rfl, show (3 : Int32) * nI w + (2 : Int32) = nI (3 * w + 2) from by rw [show (3 : Int32) = nI 3 from rfl, mulN]; exact addN _ _, Option.bind_some, if_pos g53, nC (by omega)]
  simp only [s2 53 (by decide) (by decide), s2 50 (by decide) (by decide), v5, h7]
  rw [ite_dec]
  unfold hoB holdB
  generalize decide (saysB x b 1 w (onesF (bCa b) 12) (behB (bDy b) (bR b w)) = 1) = ys
  generalize decide (bR b w = nI (bDy b)) = rd
  generalize behB (bDy b) (bR b w) = be
  generalize hd : nI (bDy b) - nI (bDy b) / (10 : Int32) * (10 : Int32) = dd
  generalize nI (bM b w) = m
  have e1 : (if ys = true then some rd else some false : Option Bool) = some (rd && ys) := by cases ys <;> cases rd <;> rfl
  rw [e1, Option.bind_some]
  have e2 : (if (rd && ys) = true then some true else if ys = true then (if m < be then some false else some true) else some false : Option Bool) = some ((rd && ys) || (ys && !(decide (m < be)))) := by
    by_cases h : m < be <;> cases ys <;> cases rd <;> simp [h]
  rw [e2, Option.bind_some, Option.bind_some, Option.bind_some, if_pos g51]
  simp only [s2 51 (by decide) (by decide), v1]
  generalize ((rd && ys) || (ys && !(decide (m < be)))) = ha
  generalize (rd && ys) = en
  have hk := (hr w hw).1
  generalize bK b w = k at hk ⊢
  rw [show (1 : Int32) = nI 1 from rfl, iteEq (by omega) (by omega), show (2 : Int32) = nI 2 from rfl, iteEq (by omega) (by omega), show (3 : Int32) = nI 3 from rfl, iteEq (by omega) (by omega), show (4 : Int32) = nI 4 from rfl, iteEq (by omega) (by omega), show (5 : Int32) = nI 5 from rfl, iteEq (by omega) (by omega)]
  rcases (show k = 0 ∨ k = 1 ∨ k = 2 ∨ k = 3 ∨ k = 4 ∨ k = 5 by omega) with rfl | rfl | rfl | rfl | rfl | rfl
  · rfl
  · rfl
  · rfl
  · by_cases h1 : dd = m
    · by_cases h2 : dd < m / nI 2 <;> cases ha <;> simp [h1, h2]
    · by_cases h2 : dd < m / nI 2
      · have h3 : ¬ m / nI 2 ≤ dd := by rw [i_le]; rw [i_lt] at h2; omega
        cases ha <;> simp [h1, h2, h3]
      · have h3 : m / nI 2 ≤ dd := by rw [i_le]; rw [i_lt] at h2; omega
        cases ha <;> simp [h1, h2, h3]
  · by_cases h2 : m ≤ nI 4 <;> cases en <;> simp [h2]
  · by_cases h2 : be - be / nI 2 * nI 2 = m - m / nI 2 * nI 2 <;> cases en <;> simp [h2]
