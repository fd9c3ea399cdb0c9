theorem fsB_cg {b b' : Bk} (h1 : bK b' = bK b) (h2 : bM b' = bM b) (h3 : bZ b' = bZ b) : ∀ w, fsB b' w = fsB b w
  | 0 => rfl
  | w + 1 => by
    show fsB b' w + tkB b' w = fsB b w + tkB b w
    rw [fsB_cg h1 h2 h3 w]
    unfold tkB
    rw [h1, h2, h3]
theorem chF_cg {b b' : Bk} (h0 : bE b' = bE b) (h1 : bK b' = bK b) (h2 : bT b' = bT b) : ∀ (n : Nat) (a s : Int32), chF b' n a s = chF b n a s
  | 0, _, _ => rfl
  | n + 1, a, s => by
    unfold chF
    rw [h0, h1, h2, chF_cg h0 h1 h2 n]
theorem q_87 {K : yK} {b : Bk} {be m : Nat} (hK : KSh K) (hW : WB b) (hbe : be < fsB b (bE b)) (hm : m ≤ fsB b (bE b)) : ∀ (f n k : Nat) (M : yM), ME M b → M 50 9 = bSk b → M 50 39 = nI be → M 50 10 = moF b be k → k + f = m → f < n →
    ∃ M', b_X8_dayOf_87 K 50 (nI (fsB b (bE b))) (nI m) n M (nI k) = some M' ∧ M' 50 10 = moF b be m ∧ (∀ i, i ≠ 10 → M' 50 i = M 50 i) ∧ ∀ q, q ≠ 50 → M' q = M q := by
  have h12 := hW.1
  have hP := (fsB_le hW (bE b) (Nat.le_refl _)).2
  intro f
  induction f with
  | zero =>
    intro n k M hB h9 h39 h10 hk hn
    obtain ⟨n, rfl⟩ : ∃ z, n = z + 1 := ⟨n - 1, by omega⟩
    refine ⟨M, ?_, by rw [h10, show k = m by omega], fun _ _ => rfl, fun _ _ => rfl⟩
    rw [b_X8_dayOf_87, iteLe (by omega) (by omega), if_pos (by omega)]
  | succ f ih =>
    intro n k M hB h9 h39 h10 hk hn
    obtain ⟨n, rfl⟩ : ∃ z, n = z + 1 := ⟨n - 1, by omega⟩
    have hmod : (be + k) % fsB b (bE b) < fsB b (bE b) := Nat.mod_lt _ (by omega)
    have he := (enB_is hmod).2.2
    have e3 : moF b be (k + 1) = moF b be k ||| (if bit (bSk b) (enB b ((be + k) % fsB b (bE b))) = 0 then sh1 (enB b ((be + k) % fsB b (bE b))) else 0) := rfl
    have hz : ¬ nI (fsB b (bE b)) = 0 := by
      rw [show (0 : Int32) = nI 0 from rfl, eqN (by omega) (by omega)]; omega
    obtain ⟨M', r1, r2, r3, r4⟩ := ih n (k + 1) (yS M 50 10 (moF b be (k + 1))) ⟨by rw [yS_oi _ _ _ _ (by decide)]; exact hB.1, fun w hw => by rw [yS_op _ _ _ _ (by decide), yS_op _ _ _ _ (by decide), yS_op _ _ _ _ (by decide), yS_op _ _ _ _ (by decide)]; exact hB.2 w hw⟩ (by rw [yS_oi _ _ _ _ (by decide)]; exact h9) (by rw [yS_oi _ _ _ _ (by decide)]; exact h39) (by rw [yS_at]) (by omega) (by omega)
    refine ⟨M', ?_, r2, fun i hi => by rw [r3 i hi, yS_oi _ _ _ _ hi], fun q hq => by rw [r4 q hq]; exact funext fun z => yS_op _ _ _ _ hq z⟩
    rw [b_X8_dayOf_87, iteLe (by omega) (by omega), if_neg (by omega), if_pos hK.mo, if_pos hz, h39, addN, remN (by omega) (by omega) (by omega), q_entryOn hK hW hB hmod, Option.bind_some, h9, h10]
    generalize enB b ((be + k) % fsB b (bE b)) = e at e3
    have ej : (if bSk b >>> (nI e &&& 31) &&& 1 = 0 then some ((1 : Int32) <<< (nI e &&& 31)) else some 0 : Option Int32) = some (if bit (bSk b) e = 0 then sh1 e else 0) := by
      by_cases c : bit (bSk b) e = 0
      · rw [if_pos c, if_pos c]
      · rw [if_neg c, if_neg c]
    rw [ej, Option.bind_some, Option.bind_some, incN, Option.bind_some, ← e3]
    exact r1
theorem q_143 {K : yK} {dy : Nat} {b : Bk} {cm x1 x2 : Int32} (hK : KSh K) (hW : WB b) : ∀ (f n w : Nat) (M : yM), M 50 0 = nI (bE b) → M 50 10 = cm → M 50 7 = nI dy → w + f = bE b → f < n →
    ∃ M', b_X8_dayOf_143 K 50 x1 x2 n M (nI w) = some M' ∧ (∀ v, w ≤ v → v < bE b → M' 53 (3 * v + 2) = if bt cm v = true then nI dy else M 53 (3 * v + 2)) ∧ (∀ i, (∀ v, w ≤ v → i ≠ 3 * v + 2) → M' 53 i = M 53 i) ∧ ∀ q, q ≠ 53 → M' q = M q := by
  have h12 := hW.1
  intro f
  induction f with
  | zero =>
    intro n w M h0 h10 h7 hw hn
    obtain ⟨n, rfl⟩ : ∃ z, n = z + 1 := ⟨n - 1, by omega⟩
    refine ⟨M, ?_, fun v h1 h2 => absurd h1 (by omega), fun _ _ => rfl, fun _ _ => rfl⟩
    rw [b_X8_dayOf_143, if_pos hK.mo, h0, iteLe (by omega) (by omega), if_pos (by omega)]
  | succ f ih =>
    intro n w M h0 h10 h7 hw hn
    obtain ⟨n, rfl⟩ : ∃ z, n = z + 1 := ⟨n - 1, by omega⟩
    have g53 : gA K 53 (nI (3 * w + 2)) = true := gA_N (hK.ar (p := 53) (n := 36) (by decide) rfl) (by omega) (by omega)
    have em : (3 : Int32) * nI w + (2 : Int32) = nI (3 * w + 2) := by rw [show (3 : Int32) = nI 3 from rfl, mulN]; exact addN _ _
    have ej : (if cm >>> (nI w &&& 31) &&& 1 = 1 then some (nI dy) else some (M 53 (3 * w + 2)) : Option Int32) = some (if bt cm w = true then nI dy else M 53 (3 * w + 2)) := by
      by_cases c : bt cm w = true
      · rw [if_pos c]; exact if_pos ((bit_1 cm (by omega)).mpr c)
      · rw [if_neg c]; exact if_neg (fun e => c ((bit_1 cm (by omega)).mp e))
    obtain ⟨M', r1, r2, r3, r4⟩ := ih n (w + 1) (yS M 53 (3 * w + 2) (if bt cm w = true then nI dy else M 53 (3 * w + 2))) (by rw [yS_op _ _ _ _ (by decide)]; exact h0) (by rw [yS_op _ _ _ _ (by decide)]; exact h10) (by rw [yS_op _ _ _ _ (by decide)]; exact h7) (by omega) (by omega)
    refine ⟨M', ?_, fun v h1 h2 => ?_, fun i hi => ?_, fun q hq => by rw [r4 q hq]; exact funext fun z => yS_op _ _ _ _ hq z⟩
    · rw [b_X8_dayOf_143, if_pos hK.mo, h0, iteLe (by omega) (by omega), if_neg (by omega), hK.mr (f := 3) rfl, Option.bind_some, em, if_pos g53, nC (by omega), h10, h7, ej, Option.bind_some, if_pos g53, Option.bind_some, incN, Option.bind_some]
      exact r1
    · by_cases z : v = w
      · subst z
        rw [r3 (3 * v + 2) (fun u hu => by omega), yS_at]
      · rw [r2 v (by omega) h2, yS_oi _ _ _ _ (by omega)]
    · rw [r3 i (fun v hv => hi v (by omega)), yS_oi _ _ _ _ (hi w (by omega))]
