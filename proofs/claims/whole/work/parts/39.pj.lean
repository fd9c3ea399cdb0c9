/-! the model thinks: what it keeps and lays back -/
theorem q_keeps_loop {K : yK} (hK : KSh K) : ∀ (f n w : Nat) (M : yM), w + f = 12 → f < n → ∃ M', b_X8_keeps_2 K 50 n M (nI w) = some M' ∧ (∀ v, w ≤ v → v < 12 → M' 69 v = M 53 (3 * v + 2)) ∧ (∀ v, v < w → M' 69 v = M 69 v) ∧ ∀ q, q ≠ 69 → M' q = M q := by
  intro f
  induction f with
  | zero =>
    intro n w M hw hn
    obtain ⟨n, rfl⟩ : ∃ z, n = z + 1 := ⟨n - 1, by omega⟩
    refine ⟨M, ?_, fun v h1 h2 => absurd h1 (by omega), fun _ _ => rfl, fun _ _ => rfl⟩
    rw [b_X8_keeps_2, show (12 : Int32) = nI 12 from rfl, iteLe (by omega) (by omega), if_pos (by omega)]
  | succ f ih =>
    intro n w M hw hn
    obtain ⟨n, rfl⟩ : ∃ z, n = z + 1 := ⟨n - 1, by omega⟩
    have g53 : gA K 53 (nI (3 * w + 2)) = true := gA_N (hK.ar (p := 53) (n := 36) (by decide) rfl) (by omega) (by omega)
    have g69 : gA K 69 (nI w) = true := gA_N (hK.ar (p := 69) (n := 12) (by decide) rfl) (by omega) (by omega)
    have em : (3 : Int32) * nI w + (2 : Int32) = nI (3 * w + 2) := by rw [show (3 : Int32) = nI 3 from rfl, mulN]; exact addN _ _
    obtain ⟨M', r1, r2, r3, r4⟩ := ih n (w + 1) (yS M 69 w (M 53 (3 * w + 2))) (by omega) (by omega)
    refine ⟨M', ?_, fun v h1 h2 => ?_, fun v h1 => ?_, fun q hq => by rw [r4 q hq]; exact funext fun z => yS_op _ _ _ _ hq z⟩
    · rw [b_X8_keeps_2, show (12 : Int32) = nI 12 from rfl, iteLe (by omega) (by omega), if_neg (by omega), if_pos hK.mo, hK.mr (f := 40) rfl, Option.bind_some, hK.mr (f := 3) rfl, Option.bind_some, em, if_pos g53, if_pos g69, nC (by omega), nC (by omega), Option.bind_some, incN, Option.bind_some]
      exact r1
    · by_cases z : v = w
      · subst z
        rw [r3 v (by omega), yS_at]
      · rw [r2 v (by omega) h2, yS_op _ _ _ _ (by decide)]
    · rw [r3 v (by omega), yS_oi _ _ _ _ (by omega)]
theorem q_keeps {K : yK} {M : yM} (hK : KSh K) : ∃ M', b_X8_keeps K M 50 = some M' ∧ (∀ v, v < 12 → M' 69 v = M 53 (3 * v + 2)) ∧ (M' 70 0 = M 50 6 ∧ M' 70 1 = M 50 7 ∧ M' 70 2 = M 50 8 ∧ M' 70 3 = M 50 10) ∧ (M' 50 42 = 0 ∧ M' 50 43 = 0 ∧ M' 50 44 = 0 ∧ M' 50 45 = 0 ∧ M' 50 47 = -1 ∧ M' 50 48 = -1) ∧ (∀ i, i < 42 ∨ i = 46 ∨ 48 < i → M' 50 i = M 50 i) ∧ ∀ q, q ≠ 50 → q ≠ 69 → q ≠ 70 → M' q = M q := by
  obtain ⟨N, r1, r2, -, r4⟩ := q_keeps_loop hK 12 1000 0 M (by omega) (by omega)
  have a70 := hK.ar (p := 70) (n := 4) (by decide) rfl
  unfold b_X8_keeps
  rw [show b_X8_keeps_2 K 50 1000 M 0 = some N from r1, Option.bind_some, if_pos hK.mo, hK.mr (f := 41) rfl, Option.bind_some, if_pos (show gA K 70 (0 : Int32) = true from gA_N (i := 0) a70 (by omega) (by omega)), Option.bind_some, if_pos (show gA K 70 (1 : Int32) = true from gA_N (i := 1) a70 (by omega) (by omega)), Option.bind_some, if_pos (show gA K 70 (2 : Int32) = true from gA_N (i := 2) a70 (by omega) (by omega)), Option.bind_some, if_pos (show gA K 70 (3 : Int32) = true from gA_N (i := 3) a70 (by omega) (by omega)), Option.bind_some, Option.bind_some, Option.bind_some, Option.bind_some, Option.bind_some, Option.bind_some, Option.bind_some]
  have hq : ∀ (M : yM) (i : Nat) (v : Int32) (j : Nat), yS M 70 i v 50 j = M 50 j := fun M i v j => yS_op M 70 i v (by decide) j
  simp only [hq, r4 50 (by decide), show ((0 : Int32)).toNatClampNeg = 0 from rfl, show ((1 : Int32)).toNatClampNeg = 1 from rfl, show ((2 : Int32)).toNatClampNeg = 2 from rfl, show ((3 : Int32)).toNatClampNeg = 3 from rfl]
  refine ⟨_, rfl, fun v hv => ?_, ⟨?_, ?_, ?_, ?_⟩, ⟨?_, ?_, ?_, ?_, ?_, ?_⟩, fun i hi => ?_, fun q h1 h2 h3 => ?_⟩
  · simp only [yS]
    simp [r2 v (Nat.zero_le _) hv]
  · simp [yS]
  · simp [yS]
  · simp [yS]
  · simp [yS]
  · simp [yS]
  · simp [yS]
  · simp [yS]
  · simp [yS]
  · simp [yS]
  · simp [yS]
  · rw [yS_oi _ _ _ _ (by omega), yS_oi _ _ _ _ (by omega), yS_oi _ _ _ _ (by omega), yS_oi _ _ _ _ (by omega), yS_oi _ _ _ _ (by omega), yS_oi _ _ _ _ (by omega), hq, hq, hq, hq, r4 50 (by decide)]
  · funext z
    rw [yS_op _ _ _ _ h1, yS_op _ _ _ _ h1, yS_op _ _ _ _ h1, yS_op _ _ _ _ h1, yS_op _ _ _ _ h1, yS_op _ _ _ _ h1, yS_op _ _ _ _ h3, yS_op _ _ _ _ h3, yS_op _ _ _ _ h3, yS_op _ _ _ _ h3, r4 q h2]
theorem q_laysBack_loop {K : yK} (hK : KSh K) : ∀ (f n w : Nat) (M : yM), w + f = 12 → f < n → ∃ M', b_X8_laysBack_10 K 50 n M (nI w) = some M' ∧ (∀ v, w ≤ v → v < 12 → M' 53 (3 * v + 2) = M 69 v) ∧ (∀ i, (∀ v, w ≤ v → i ≠ 3 * v + 2) → M' 53 i = M 53 i) ∧ ∀ q, q ≠ 53 → M' q = M q := by
  intro f
  induction f with
  | zero =>
    intro n w M hw hn
    obtain ⟨n, rfl⟩ : ∃ z, n = z + 1 := ⟨n - 1, by omega⟩
    refine ⟨M, ?_, fun v h1 h2 => absurd h1 (by omega), fun _ _ => rfl, fun _ _ => rfl⟩
    rw [b_X8_laysBack_10, show (12 : Int32) = nI 12 from rfl, iteLe (by omega) (by omega), if_pos (by omega)]
  | succ f ih =>
    intro n w M hw hn
    obtain ⟨n, rfl⟩ : ∃ z, n = z + 1 := ⟨n - 1, by omega⟩
    have g53 : gA K 53 (nI (3 * w + 2)) = true := gA_N (hK.ar (p := 53) (n := 36) (by decide) rfl) (by omega) (by omega)
    have g69 : gA K 69 (nI w) = true := gA_N (hK.ar (p := 69) (n := 12) (by decide) rfl) (by omega) (by omega)
    have em : (3 : Int32) * nI w + (2 : Int32) = nI (3 * w + 2) := by rw [show (3 : Int32) = nI 3 from rfl, mulN]; exact addN _ _
    obtain ⟨M', r1, r2, r3, r4⟩ := ih n (w + 1) (yS M 53 (3 * w + 2) (M 69 w)) (by omega) (by omega)
    refine ⟨M', ?_, fun v h1 h2 => ?_, fun i hi => ?_, fun q hq => by rw [r4 q hq]; exact funext fun z => yS_op _ _ _ _ hq z⟩
    · rw [b_X8_laysBack_10, show (12 : Int32) = nI 12 from rfl, iteLe (by omega) (by omega), if_neg (by omega), if_pos hK.mo, hK.mr (f := 3) rfl, Option.bind_some, hK.mr (f := 40) rfl, Option.bind_some, em, if_pos g69, if_pos g53, nC (by omega), nC (by omega), Option.bind_some, incN, Option.bind_some]
      exact r1
    · by_cases z : v = w
      · subst z
        rw [r3 (3 * v + 2) (fun u hu => by omega), yS_at]
      · rw [r2 v (by omega) h2, yS_op _ _ _ _ (by decide)]
    · rw [r3 i (fun v hv => hi v (by omega)), yS_oi _ _ _ _ (hi w (by omega))]
theorem q_laysBack {K : yK} {M : yM} (hK : KSh K) : ∃ M', b_X8_laysBack K M 50 = some M' ∧ (∀ v, v < 12 → M' 53 (3 * v + 2) = M 69 v) ∧ (∀ i, (∀ v, i ≠ 3 * v + 2) → M' 53 i = M 53 i) ∧ (M' 50 6 = M 70 0 ∧ M' 50 7 = M 70 1 ∧ M' 50 8 = M 70 2 ∧ M' 50 10 = M 70 3 ∧ M' 50 46 = M 50 6) ∧ (∀ i, i ≠ 6 → i ≠ 7 → i ≠ 8 → i ≠ 10 → i ≠ 46 → M' 50 i = M 50 i) ∧ ∀ q, q ≠ 50 → q ≠ 53 → M' q = M q := by
  obtain ⟨N, r1, r2, r3, r4⟩ := q_laysBack_loop hK 12 1000 0 (yS M 50 46 (M 50 6)) (by omega) (by omega)
  have a70 := hK.ar (p := 70) (n := 4) (by decide) rfl
  unfold b_X8_laysBack
  rw [if_pos hK.mo, Option.bind_some, show b_X8_laysBack_10 K 50 1000 (yS M 50 46 (M 50 6)) 0 = some N from r1, Option.bind_some, hK.mr (f := 41) rfl, Option.bind_some, if_pos (show gA K 70 (0 : Int32) = true from gA_N (i := 0) a70 (by omega) (by omega)), Option.bind_some, if_pos (show gA K 70 (1 : Int32) = true from gA_N (i := 1) a70 (by omega) (by omega)), Option.bind_some, if_pos (show gA K 70 (2 : Int32) = true from gA_N (i := 2) a70 (by omega) (by omega)), Option.bind_some, if_pos (show gA K 70 (3 : Int32) = true from gA_N (i := 3) a70 (by omega) (by omega)), Option.bind_some]
  have hq : ∀ (M : yM) (i : Nat) (v : Int32) (j : Nat), yS M 50 i v 70 j = M 70 j := fun M i v j => yS_op M 50 i v (by decide) j
  have h70 : N 70 = M 70 := by rw [r4 70 (by decide)]; exact funext fun z => yS_op _ _ _ _ (by decide) z
  have h50 : N 50 = yS M 50 46 (M 50 6) 50 := r4 50 (by decide)
  simp only [hq, h70, show ((0 : Int32)).toNatClampNeg = 0 from rfl, show ((1 : Int32)).toNatClampNeg = 1 from rfl, show ((2 : Int32)).toNatClampNeg = 2 from rfl, show ((3 : Int32)).toNatClampNeg = 3 from rfl]
  refine ⟨_, rfl, fun v hv => ?_, fun i hi => ?_, ⟨?_, ?_, ?_, ?_, ?_⟩, fun i z1 z2 z3 z4 z5 => ?_, fun q h1 h2 => ?_⟩
  · rw [yS_op _ _ _ _ (by decide), yS_op _ _ _ _ (by decide), yS_op _ _ _ _ (by decide), yS_op _ _ _ _ (by decide), r2 v (Nat.zero_le _) hv, yS_op _ _ _ _ (by decide)]
  · rw [yS_op _ _ _ _ (by decide), yS_op _ _ _ _ (by decide), yS_op _ _ _ _ (by decide), yS_op _ _ _ _ (by decide), r3 i (fun v _ => hi v), yS_op _ _ _ _ (by decide)]
  · simp [yS]
  · simp [yS]
  · simp [yS]
  · simp [yS]
  · rw [yS_oi _ _ _ _ (by decide), yS_oi _ _ _ _ (by decide), yS_oi _ _ _ _ (by decide), yS_oi _ _ _ _ (by decide), h50, yS_at]
  · rw [yS_oi _ _ _ _ z4, yS_oi _ _ _ _ z3, yS_oi _ _ _ _ z2, yS_oi _ _ _ _ z1, h50, yS_oi _ _ _ _ z5]
  · funext z
    rw [yS_op _ _ _ _ h1, yS_op _ _ _ _ h1, yS_op _ _ _ _ h1, yS_op _ _ _ _ h1, r4 q h2, yS_op _ _ _ _ h1]
