/-! worth -/
def woF (x : Tx) (b : Bk) (can : Int32) : Nat → Int32
  | 0 => 0
  | d + 1 => woF x b can d + (if bit can d = 1 then saysB x b 2 (loB (bDs b d)) (onesF (bDs b d) 12) 0 else 0)
theorem lo_lt {j e : Nat} (h : j < 2 ^ e) (h0 : 0 < j) (he : e ≤ 12) : (∃ w, w < 12 ∧ bt (nI j) w = true) ∧ loB (nI j) < e ∧ j < 4096 := by
  obtain ⟨w, h1, h2⟩ := bB_ne h h0 (by omega)
  obtain ⟨a, -, -⟩ := loF_is (x := nI j) 12 0 ⟨w, by omega, by omega, h2⟩
  refine ⟨⟨w, by omega, h2⟩, ?_, ?_⟩
  · rcases Nat.lt_or_ge (loB (nI j)) e with c | c
    · exact c
    · have := nI_bB h (by omega) (loB (nI j)) c
      rw [show bt (nI j) (loB (nI j)) = true from a] at this
      exact Bool.noConfusion this
  · have : (2 : Nat) ^ e ≤ 2 ^ 12 := Nat.pow_le_pow_right (by decide) he
    omega
theorem p_worthOf {K : yK} {t : Nat} {b : Bk} {x : Tx} (hK : KSh K) (ht : isB t) (hW : WX b) (hx : TxW x) (can : Int32) : ∀ (f n d : Nat) (M : yM), BR M t b → xT K M (bLw b) x → d + f = bDn b → f < n → ∃ M', b_X0_worthOf_4 K t can n M (woF x b can d) (nI d) = some (woF x b can (bDn b), M') ∧ ∀ q, q ≠ 5 → q ≠ 6 → M' q = M q := by
  obtain ⟨hWB, hL, -, -, hD⟩ := id hW
  have h12 := hWB.1
  have h6 : bDn b ≤ 6 := hWB.2.2.1
  have t7 : 7 ≤ t ∧ t ≤ 25 := by rcases ht with rfl | rfl | rfl <;> omega
  intro f
  induction f with
  | zero =>
    intro n d M hB hX hd hn
    obtain ⟨n, rfl⟩ : ∃ z, n = z + 1 := ⟨n - 1, by omega⟩
    refine ⟨M, ?_, fun _ _ _ => rfl⟩
    rw [b_X0_worthOf_4, if_pos (hK.bo ht), hB.1.2.1, iteLe (by omega) (by omega), if_pos (by omega), show d = bDn b by omega]
  | succ f ih =>
    intro n d M hB hX hd hn
    obtain ⟨n, rfl⟩ : ∃ z, n = z + 1 := ⟨n - 1, by omega⟩
    obtain ⟨j, j0, j1, ej⟩ := hD d (by omega)
    obtain ⟨l1, l2, l3⟩ := lo_lt j1 j0 h12
    have e3 : woF x b can (d + 1) = woF x b can d + (if bit can d = 1 then saysB x b 2 (loB (bDs b d)) (onesF (bDs b d) 12) 0 else 0) := rfl
    rw [b_X0_worthOf_4, if_pos (hK.bo ht), hB.1.2.1, iteLe (by omega) (by omega), if_neg (by omega)]
    by_cases c : bit can d = 1
    · rw [if_pos c] at e3
      rw [if_pos (show can >>> (nI d &&& 31) &&& 1 = 1 from c), hK.br ht (f := 7) (by omega), Option.bind_some, show t + 1 + 7 = t + 8 by omega, if_pos (gA_N (hK.b8 ht) (by omega) (by omega)), nC (by omega), hB.2.2 d (by omega)]
      obtain ⟨M1, s1, s2⟩ := p_says (K := K) (M := M) (t := t) (part := 2) (w := loB (bDs b d)) (b := b) (x := x) hK ht hWB hB hL hX hx (by omega) (by rw [ej]; exact l2) (onesF (bDs b d) 12) 0
      obtain ⟨M', e1, e2⟩ := ih n (d + 1) M1 (hB.cg (fun q h1 h2 => s2 q (by omega) (by omega))) (hX.cg (fun q h1 => s2 q (by omega) (by omega))) (by omega) (by omega)
      refine ⟨M', ?_, fun q h5 h6 => by rw [e2 q h5 h6, s2 q h5 h6]⟩
      have s1 : b_X0_says K M t 2 (nI (loB (bDs b d))) (onesF (bDs b d) 12) 0 = some (saysB x b 2 (loB (bDs b d)) (onesF (bDs b d) 12) 0, M1) := s1
      have bc : b_J6_bitCount_0f7a4 K M (bDs b d) = some (onesF (bDs b d) 12) := by rw [ej]; exact p_bitCount l3
      rw [p_lowest (by rw [ej]; exact l1), Option.bind_some, bc, Option.bind_some, s1, Option.bind_some]
      dsimp only
      rw [Option.bind_some, Option.bind_some, incN, Option.bind_some, ← e3]
      exact e1
    · rw [if_neg c, Int32.add_zero] at e3
      obtain ⟨M', e1, e2⟩ := ih n (d + 1) M hB hX (by omega) (by omega)
      refine ⟨M', ?_, e2⟩
      rw [if_neg (show ¬ can >>> (nI d &&& 31) &&& 1 = 1 from c), Option.bind_some, incN, Option.bind_some, ← e3]
      exact e1
theorem p_worth {K : yK} {M : yM} {t : Nat} {b : Bk} {x : Tx} (hK : KSh K) (ht : isB t) (hW : WX b) (hB : BR M t b) (hX : xT K M (bLw b) x) (hx : TxW x) (can : Int32) : ∃ M', b_X0_worthOf K M t can = some (woF x b can (bDn b), M') ∧ ∀ q, q ≠ 5 → q ≠ 6 → M' q = M q := by
  obtain ⟨M', e1, e2⟩ := p_worthOf hK ht hW hx can (bDn b) 1000 0 M hB hX (by omega) (by have := hW.1.2.2.1; omega)
  refine ⟨M', ?_, e2⟩
  unfold b_X0_worthOf
  rw [show b_X0_worthOf_4 K t can 1000 M 0 0 = some (woF x b can (bDn b), M') from e1, Option.bind_some]
theorem q_worthOf {K : yK} {b : Bk} {x : Tx} (hK : KSh K) (hW : WX b) (hx : TxW x) (can : Int32) : ∀ (f n d : Nat) (M : yM), MR M b → MT M (bLw b) x → d + f = bDn b → f < n → ∃ M', b_X8_worthOf_4 K 50 can n M (woF x b can d) (nI d) = some (woF x b can (bDn b), M') ∧ ∀ q, q ≠ 67 → q ≠ 68 → M' q = M q := by
  obtain ⟨hWB, hL, -, -, hD⟩ := id hW
  have h12 := hWB.1
  have h6 : bDn b ≤ 6 := hWB.2.2.1
  intro f
  induction f with
  | zero =>
    intro n d M hB hX hd hn
    obtain ⟨n, rfl⟩ : ∃ z, n = z + 1 := ⟨n - 1, by omega⟩
    refine ⟨M, ?_, fun _ _ _ => rfl⟩
    rw [b_X8_worthOf_4, if_pos hK.mo, hB.1.2.1, iteLe (by omega) (by omega), if_pos (by omega), show d = bDn b by omega]
  | succ f ih =>
    intro n d M hB hX hd hn
    obtain ⟨n, rfl⟩ : ∃ z, n = z + 1 := ⟨n - 1, by omega⟩
    obtain ⟨j, j0, j1, ej⟩ := hD d (by omega)
    obtain ⟨l1, l2, l3⟩ := lo_lt j1 j0 h12
    have e3 : woF x b can (d + 1) = woF x b can d + (if bit can d = 1 then saysB x b 2 (loB (bDs b d)) (onesF (bDs b d) 12) 0 else 0) := rfl
    rw [b_X8_worthOf_4, if_pos hK.mo, hB.1.2.1, iteLe (by omega) (by omega), if_neg (by omega)]
    by_cases c : bit can d = 1
    · rw [if_pos c] at e3
      rw [if_pos (show can >>> (nI d &&& 31) &&& 1 = 1 from c), hK.mr (f := 5) rfl, Option.bind_some, if_pos (gA_N (hK.ar (p := 54) (n := 6) (by decide) rfl) (by omega) (by omega)), nC (by omega), hB.2.2 d (by omega)]
      obtain ⟨M1, s1, s2⟩ := q_asksOf (K := K) (M := M) (part := 2) (w := loB (bDs b d)) (b := b) (x := x) hK hWB hB.me hB.1.2.2.2.1 hB.1.2.2.2.2.2.2.2 hL hX hx (by omega) (by rw [ej]; exact l2) (onesF (bDs b d) 12) 0
      obtain ⟨M', e1, e2⟩ := ih n (d + 1) M1 (hB.cg (fun q h1 h2 => s2 q (by omega) (by omega))) (hX.cg (s2 57 (by decide) (by decide)) (s2 56 (by decide) (by decide))) (by omega) (by omega)
      refine ⟨M', ?_, fun q h5 h6 => by rw [e2 q h5 h6, s2 q h5 h6]⟩
      have s1 : b_X8_asksOf K M 50 2 (nI (loB (bDs b d))) (onesF (bDs b d) 12) 0 = some (saysB x b 2 (loB (bDs b d)) (onesF (bDs b d) 12) 0, M1) := s1
      rw [q_lowestIn (by rw [ej]; exact l1), Option.bind_some, q_ones, Option.bind_some, s1, Option.bind_some]
      dsimp only
      rw [Option.bind_some, Option.bind_some, incN, Option.bind_some, ← e3]
      exact e1
    · rw [if_neg c] at e3
      obtain ⟨M', e1, e2⟩ := ih n (d + 1) M hB hX (by omega) (by omega)
      refine ⟨M', ?_, e2⟩
      rw [if_neg (show ¬ can >>> (nI d &&& 31) &&& 1 = 1 from c), Option.bind_some]
      dsimp only
      rw [Option.bind_some, incN, Option.bind_some, ← e3]
      exact e1
theorem q_worth {K : yK} {M : yM} {b : Bk} {x : Tx} (hK : KSh K) (hW : WX b) (hB : MR M b) (hX : MT M (bLw b) x) (hx : TxW x) (can : Int32) : ∃ M', b_X8_worthOf K M 50 can = some (woF x b can (bDn b), M') ∧ ∀ q, q ≠ 67 → q ≠ 68 → M' q = M q := by
  obtain ⟨M', e1, e2⟩ := q_worthOf hK hW hx can (bDn b) 1000 0 M hB hX (by omega) (by have := hW.1.2.2.1; omega)
  refine ⟨M', ?_, e2⟩
  unfold b_X8_worthOf
  rw [show b_X8_worthOf_4 K 50 can 1000 M 0 0 = some (woF x b can (bDn b), M') from e1, Option.bind_some]
