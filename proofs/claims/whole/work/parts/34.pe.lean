theorem p_liesIn {K : yK} {M : yM} {t w : Nat} {b : Bk} (hK : KSh K) (ht : isB t) (hW : WB b) (hS : ∀ w, w ≤ bE b → M (t + 6) w = nI (fsB b w)) (hw : w < bE b) (x2 x3 : Int32) : b_X0_liesIn K M t (nI w) x2 x3 = some (decide (¬ x3 ≤ nI (fsB b w) ∧ ¬ nI (fsB b (w + 1)) ≤ x2)) := by
  have h12 := hW.1
  unfold b_X0_liesIn
  rw [if_pos (hK.bo ht), hK.br ht (f := 5) (by omega), Option.bind_some, show t + 1 + 5 = t + 6 by omega, if_pos (gA_N (hK.b6 ht) (by omega) (by omega)), nC (by omega), hS w (by omega), incN, if_pos (gA_N (hK.b6 ht) (by omega) (by omega)), nC (by omega), hS (w + 1) (by omega)]
  by_cases c : x3 ≤ nI (fsB b w)
  · rw [if_pos c, dcF (fun z => z.1 c)]
  · rw [if_neg c]
    by_cases d : nI (fsB b (w + 1)) ≤ x2
    · rw [if_pos d, dcF (fun z => z.2 d)]
    · rw [if_neg d, dc ⟨c, d⟩]
/-- what is written when page after page is read -/
theorem p_readPages_loop {K : yK} {t be m dy : Nat} {b : Bk} (hK : KSh K) (ht : isB t) (hW : WB b) (hbe : be < fsB b (bE b)) (hm : m ≤ fsB b (bE b)) : ∀ (f n w : Nat) (M : yM), M t 8 = nI (bE b) → M t 13 = bSk b → M t 11 = nI dy → M t 14 = cmF b be m w → (∀ w, w ≤ bE b → M (t + 6) w = nI (fsB b w)) → w + f = bE b → f < n →
    ∃ M', b_X0_readPages_3 K t (nI be) (nI m) (nI (fsB b (bE b))) n M (nI w) = some M' ∧ M' t 14 = cmF b be m (bE b) ∧ (∀ i, i ≠ 14 → M' t i = M t i) ∧ (∀ v, w ≤ v → v < bE b → M' (t + 5) v = if hitB b be m v = true then nI dy else M (t + 5) v) ∧ (∀ v, v < w → M' (t + 5) v = M (t + 5) v) ∧ ∀ q, q ≠ t → q ≠ t + 5 → M' q = M q := by
  have h12 := hW.1
  have hP := (fsB_le hW (bE b) (Nat.le_refl _)).2
  intro f
  induction f with
  | zero =>
    intro n w M h8 h13 h11 h14 hS hw hn
    obtain ⟨n, rfl⟩ : ∃ z, n = z + 1 := ⟨n - 1, by omega⟩
    refine ⟨M, ?_, by rw [h14, show w = bE b by omega], fun _ _ => rfl, fun v h1 h2 => absurd h1 (by omega), fun _ _ => rfl, fun _ _ _ => rfl⟩
    rw [b_X0_readPages_3, if_pos (hK.bo ht), h8, iteLe (by omega) (by omega), if_pos (by omega)]
  | succ f ih =>
    intro n w M h8 h13 h11 h14 hS hw hn
    obtain ⟨n, rfl⟩ : ∃ z, n = z + 1 := ⟨n - 1, by omega⟩
    have hb := (fsB_le hW w (by omega)).2
    have hb1 := (fsB_le hW (w + 1) (by omega)).2
    have ea : (if nI m ≤ 0 then some false else (Option.bind (b_X0_liesIn K M t (nI w) (nI be) (nI be + nI m)) fun r5 => (if r5 = true then some true else (Option.bind (b_X0_liesIn K M t (nI w) (nI be - nI (fsB b (bE b))) (nI be + nI m - nI (fsB b (bE b)))) fun r7 => (if r7 = true then some true else some false)))) : Option Bool) = some (anyB b be m w) := by
      unfold anyB
      rw [p_liesIn hK ht hW hS (by omega), p_liesIn hK ht hW hS (by omega), addN, Option.bind_some, Option.bind_some, show (0 : Int32) = nI 0 from rfl, iteLe (by omega) (by omega)]
      have q1 : nI (be + m) ≤ nI (fsB b w) ↔ be + m ≤ fsB b w := by rw [leN (by omega) (by omega)]
      have q2 : nI (fsB b (w + 1)) ≤ nI be ↔ fsB b (w + 1) ≤ be := by rw [leN (by omega) (by omega)]
      have q3 : nI (be + m) - nI (fsB b (bE b)) ≤ nI (fsB b w) ↔ be + m ≤ fsB b w + fsB b (bE b) := by
        rw [i_le, subI (by omega) (by omega), nJ (by omega)]; omega
      have q4 : nI (fsB b (w + 1)) ≤ nI be - nI (fsB b (bE b)) ↔ fsB b (w + 1) + fsB b (bE b) ≤ be := by
        rw [i_le, subI (by omega) (by omega), nJ (by omega)]; omega
      by_cases c0 : m ≤ 0
      · rw [if_pos c0, dcF (by omega)]
      · rw [if_neg c0]
        by_cases c1 : ¬ nI (be + m) ≤ nI (fsB b w) ∧ ¬ nI (fsB b (w + 1)) ≤ nI be
        · rw [dc c1, if_pos rfl, dc]
          rw [q1, q2] at c1
          exact ⟨by omega, .inl ⟨by omega, by omega⟩⟩
        · rw [dcF c1, if_neg (by decide)]
          rw [q1, q2] at c1
          by_cases c2 : ¬ nI (be + m) - nI (fsB b (bE b)) ≤ nI (fsB b w) ∧ ¬ nI (fsB b (w + 1)) ≤ nI be - nI (fsB b (bE b))
          · rw [dc c2, if_pos rfl, dc]
            rw [q3, q4] at c2
            exact ⟨by omega, .inr ⟨by omega, by omega⟩⟩
          · rw [dcF c2, if_neg (by decide), dcF]
            rw [q3, q4] at c2
            intro z
            rcases z.2 with z | z <;> omega
    have e3 : cmF b be m (w + 1) = cmF b be m w ||| (if hitB b be m w = true then sh1 w else 0) := rfl
    rw [b_X0_readPages_3, if_pos (hK.bo ht), h8, iteLe (by omega) (by omega), if_neg (by omega), ea, Option.bind_some, h13, h14]
    by_cases c : hitB b be m w = true
    · have c' : anyB b be m w = true ∧ bit (bSk b) w = 0 := by
        have := c
        unfold hitB at this
        rw [Bool.and_eq_true, decide_eq_true_iff] at this
        exact this
      rw [if_pos c] at e3
      obtain ⟨M', r1, r2, r3, r4, r5, r6⟩ := ih n (w + 1) (yS (yS M t 14 (cmF b be m (w + 1))) (t + 5) w (nI dy)) (by rw [yS_op _ _ _ _ (by omega), yS_oi _ _ _ _ (by omega)]; exact h8) (by rw [yS_op _ _ _ _ (by omega), yS_oi _ _ _ _ (by omega)]; exact h13) (by rw [yS_op _ _ _ _ (by omega), yS_oi _ _ _ _ (by omega)]; exact h11) (by rw [yS_op _ _ _ _ (by omega), yS_at]) (fun v hv => by rw [yS_op _ _ _ _ (by omega), yS_op _ _ _ _ (by omega)]; exact hS v hv) (by omega) (by omega)
      refine ⟨M', ?_, r2, fun i hi => ?_, fun v h1 h2 => ?_, fun v h1 => ?_, fun q h1 h2 => ?_⟩
      · rw [if_pos c'.1, if_pos (show bSk b >>> (nI w &&& 31) &&& 1 = 0 from c'.2), Option.bind_some, hK.br ht (f := 4) (by omega), Option.bind_some, show t + 1 + 4 = t + 5 by omega, if_pos (by rw [show t + 5 = t + 1 + 4 by omega]; exact gA_N (hK.ba ht (f := 4) (by omega)) (by omega) (by omega)), nC (by omega), Option.bind_some, Option.bind_some, incN, Option.bind_some, yS_oi _ _ _ _ (by omega), h11, show cmF b be m w ||| (1 : Int32) <<< (nI w &&& 31) = cmF b be m (w + 1) from e3.symm]
        exact r1
      · rw [r3 i hi, yS_op _ _ _ _ (by omega), yS_oi _ _ _ _ hi]
      · by_cases z : v = w
        · subst z
          rw [r5 v (by omega), yS_at, if_pos c]
        · rw [r4 v (by omega) h2, yS_oi _ _ _ _ z, yS_op _ _ _ _ (by omega)]
      · rw [r5 v (by omega), yS_oi _ _ _ _ (by omega), yS_op _ _ _ _ (by omega)]
      · rw [r6 q h1 h2]
        funext z
        rw [yS_op _ _ _ _ h2, yS_op _ _ _ _ h1]
    · rw [if_neg c, orI_0] at e3
      obtain ⟨M', r1, r2, r3, r4, r5, r6⟩ := ih n (w + 1) M h8 h13 h11 (by rw [e3]; exact h14) hS (by omega) (by omega)
      refine ⟨M', ?_, r2, r3, fun v h1 h2 => ?_, fun v h1 => r5 v (by omega), r6⟩
      · by_cases z : anyB b be m w = true
        · have z2 : ¬ bit (bSk b) w = 0 := fun e => c (by unfold hitB; rw [z, dc e]; rfl)
          rw [if_pos z, if_neg (show ¬ bSk b >>> (nI w &&& 31) &&& 1 = 0 from z2), Option.bind_some, incN, Option.bind_some]
          exact r1
        · rw [if_neg z, Option.bind_some, incN, Option.bind_some]
          exact r1
      · by_cases z : v = w
        · subst z
          rw [r5 v (by omega), if_neg c]
        · rw [r4 v (by omega) h2]
