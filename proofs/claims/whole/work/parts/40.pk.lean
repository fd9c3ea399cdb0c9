/-! one day lived in thought, by the model -/
def wtF (cur wat x1 set : Int32) : Int32 := if cur = -1 then (if wat = -1 then cur else if bit set wat.toNatClampNeg = 1 then x1 else cur) else cur
theorem MR.cgi {M M' : yM} {b : Bk} (h : MR M b) (h0 : ∀ i, i ≤ 16 → M' 50 i = M 50 i) (h1 : ∀ q, 51 ≤ q → q ≤ 54 → M' q = M q) : MR M' b := by
  unfold MR
  rw [h0 0 (by omega), h0 4 (by omega), h0 6 (by omega), h0 7 (by omega), h0 8 (by omega), h0 9 (by omega), h0 10 (by omega), h0 16 (by omega), h1 51 (by omega) (by omega), h1 52 (by omega) (by omega), h1 53 (by omega) (by omega), h1 54 (by omega) (by omega)]
  exact h
def hdB (x : Tx) (b : Bk) : Int32 := caF b (heB x b) (bDn b)
theorem wt_ok {K : yK} {N : yM} {cur wat x1 set hi : Int32} {h : Nat} (hh : hi = nI h) (h31 : h < 32) (hw : wat = -1 ∨ ∃ j, j ≤ h ∧ wat = nI j) : (if cur = (-1 : Int32) then (if wat = (-1 : Int32) then some cur else (Option.bind (b_X8_within K N wat 0 hi) fun r => (if set >>> (r &&& 31) &&& 1 = 1 then some x1 else some cur))) else some cur) = some (wtF cur wat x1 set) := by
  unfold wtF
  by_cases c : cur = -1
  · rw [if_pos c, if_pos c]
    by_cases d : wat = -1
    · rw [if_pos d, if_pos d]
    · rw [if_neg d, if_neg d]
      rcases hw with e | ⟨j, hj, e⟩
      · exact absurd e d
      · rw [e, q_within ⟨nI_pos' (by omega), by rw [hh, leN (by omega) (by omega)]; exact hj⟩, Option.bind_some, nC (by omega)]
        by_cases z : bit set j = 1
        · rw [if_pos z, if_pos z]
        · rw [if_neg z, if_neg z]
  · rw [if_neg c, if_neg c]
theorem q_lives {K : yK} {M : yM} {b : Bk} {x : Tx} (x1 : Int32) (hK : KSh K) (hW : WX b) (hd : bDy b + 1 < 2000) (hB : MR M b) (hX : MT M (bLw b) x) (hx : TxW x) (h49 : M 50 49 = -1 ∨ ∃ j, j < 6 ∧ M 50 49 = nI j) (h50 : M 50 50 = -1 ∨ ∃ j, j < 12 ∧ M 50 50 = nI j) (hL : bLw (dyB x b) = bLw b) : ∃ M', b_X8_lives K M 50 x1 = some M' ∧ MR M' (dyB x b) ∧
    M' 50 42 = M 50 42 + woF x (dyB x b) (hdB x (dyB x b)) (bDn (dyB x b)) ∧ M' 50 43 = (M 50 43 ||| hdB x (dyB x b)) ∧ M' 50 44 = (M 50 44 ||| heB x (dyB x b)) ∧ M' 50 45 = (M 50 45 ||| bCa (dyB x b)) ∧ M' 50 47 = wtF (M 50 47) (M 50 49) x1 (hdB x (dyB x b)) ∧ M' 50 48 = wtF (M 50 48) (M 50 50) x1 (heB x (dyB x b)) ∧
    (M' 50 39 = if fsB b (bE b) = 0 then M 50 39 else nI (begB b)) ∧ (∀ i, i ≠ 6 → i ≠ 7 → i ≠ 8 → i ≠ 10 → i ≠ 39 → (i < 42 ∨ i = 46 ∨ 48 < i) → M' 50 i = M 50 i) ∧ ∀ q, q ≠ 50 → q ≠ 53 → q ≠ 67 → q ≠ 68 → M' q = M q := by
  obtain ⟨M1, a1, a2, a3, a4, a5⟩ := q_dayOf hK hW hd hB hX hx
  have hW' := dyB_W (x := x) hW hd
  generalize hb' : dyB x b = b' at hW' hL a2 ⊢
  have hX1 : MT M1 (bLw b') x := by rw [hL]; exact hX.cg (a5 57 (by decide) (by decide) (by decide) (by decide)) (a5 56 (by decide) (by decide) (by decide) (by decide))
  obtain ⟨M2, c1, c2⟩ := q_holding hK hW' a2 hX1 hx
  have hB2 : MR M2 b' := a2.cg (fun q h1 h2 => c2 q (by omega) (by omega))
  have d1 := q_doneBy hK hW'.1 hB2 (heB x b')
  obtain ⟨M3, e1, e2⟩ := q_worth hK hW' hB2 (hX1.cg (c2 57 (by decide) (by decide)) (c2 56 (by decide) (by decide))) hx (hdB x b')
  have f3 : ∀ q, q ≠ 67 → q ≠ 68 → M3 q = M1 q := fun q h1 h2 => by rw [e2 q h1 h2, c2 q h1 h2]
  have g3 : ∀ i, 42 ≤ i → M3 50 i = M 50 i := fun i hi => by rw [f3 50 (by decide) (by decide)]; exact a4 i (by omega) (by omega) (by omega) (by omega) (by omega)
  have g2 : M2 50 42 = M 50 42 := by rw [c2 50 (by decide) (by decide)]; exact a4 42 (by decide) (by decide) (by decide) (by decide) (by decide)
  have g10 : M3 50 10 = bCa b' := by rw [f3 50 (by decide) (by decide)]; exact a2.1.2.2.2.2.2.2.1
  unfold b_X8_lives
  rw [if_pos hK.mo, a1, Option.bind_some, c1, Option.bind_some]
  dsimp only
  rw [d1, Option.bind_some, show caF b' (heB x b') (bDn b') = hdB x b' from rfl, e1, Option.bind_some]
  dsimp only
  rw [g2, Option.bind_some, Option.bind_some, Option.bind_some, Option.bind_some]
  obtain ⟨N, hN⟩ : ∃ z, z = yS (yS (yS (yS M3 50 42 (M 50 42 + woF x b' (hdB x b') (bDn b'))) 50 43 (M 50 43 ||| hdB x b')) 50 44 (M 50 44 ||| heB x b')) 50 45 (M 50 45 ||| bCa b') := ⟨_, rfl⟩
  have hn : ∀ i, i < 42 ∨ 45 < i → N 50 i = M3 50 i := fun i hi => by rw [hN, yS_oi _ _ _ _ (by omega), yS_oi _ _ _ _ (by omega), yS_oi _ _ _ _ (by omega), yS_oi _ _ _ _ (by omega)]
  have ho : ∀ q, q ≠ 50 → N q = M3 q := fun q z => funext fun i => by rw [hN, yS_op _ _ _ _ z, yS_op _ _ _ _ z, yS_op _ _ _ _ z, yS_op _ _ _ _ z]
  have r43 : ∀ v, yS M3 50 42 v 50 43 = M 50 43 := fun v => by rw [yS_oi _ _ _ _ (by decide)]; exact g3 43 (by omega)
  have r44 : ∀ v w, yS (yS M3 50 42 v) 50 43 w 50 44 = M 50 44 := fun v w => by rw [yS_oi _ _ _ _ (by decide), yS_oi _ _ _ _ (by decide)]; exact g3 44 (by omega)
  have r45 : ∀ v w u, yS (yS (yS M3 50 42 v) 50 43 w) 50 44 u 50 45 = M 50 45 := fun v w u => by rw [yS_oi _ _ _ _ (by decide), yS_oi _ _ _ _ (by decide), yS_oi _ _ _ _ (by decide)]; exact g3 45 (by omega)
  have r10 : ∀ v w u, yS (yS (yS M3 50 42 v) 50 43 w) 50 44 u 50 10 = bCa b' := fun v w u => by rw [yS_oi _ _ _ _ (by decide), yS_oi _ _ _ _ (by decide), yS_oi _ _ _ _ (by decide)]; exact g10
  rw [r43, r44, r45, r10, ← hN]
  have n47 : N 50 47 = M 50 47 := by rw [hn 47 (by omega)]; exact g3 47 (by omega)
  have n48 : ∀ v, yS N 50 47 v 50 48 = M 50 48 := fun v => by rw [yS_oi _ _ _ _ (by decide), hn 48 (by omega)]; exact g3 48 (by omega)
  have n49 : N 50 49 = M 50 49 := by rw [hn 49 (by omega)]; exact g3 49 (by omega)
  have n50 : ∀ v, yS N 50 47 v 50 50 = M 50 50 := fun v => by rw [yS_oi _ _ _ _ (by decide), hn 50 (by omega)]; exact g3 50 (by omega)
  rw [n47, n49, wt_ok (hi := 5) (h := 5) rfl (by omega) (by rcases h49 with h | ⟨j, hj, h⟩; exact .inl h; exact .inr ⟨j, by omega, h⟩), Option.bind_some, Option.bind_some, n48, n50, wt_ok (hi := 11) (h := 11) rfl (by omega) (by rcases h50 with h | ⟨j, hj, h⟩; exact .inl h; exact .inr ⟨j, by omega, h⟩), Option.bind_some, Option.bind_some]
  have hl : ∀ v u i, i < 42 ∨ i = 46 ∨ 48 < i → yS (yS N 50 47 v) 50 48 u 50 i = M1 50 i := fun v u i hi => by rw [yS_oi _ _ _ _ (by omega), yS_oi _ _ _ _ (by omega), hn i (by omega), f3 50 (by decide) (by decide)]
  have hlo : ∀ v u q, q ≠ 50 → q ≠ 67 → q ≠ 68 → yS (yS N 50 47 v) 50 48 u q = M1 q := fun v u q h1 h2 h3 => by rw [show yS (yS N 50 47 v) 50 48 u q = N q from funext fun z => by rw [yS_op _ _ _ _ h1, yS_op _ _ _ _ h1], ho q h1, f3 q h2 h3]
  refine ⟨_, rfl, a2.cgi (fun i hi => hl _ _ i (by omega)) (fun q h1 h2 => hlo _ _ q (by omega) (by omega) (by omega)), ?_, ?_, ?_, ?_, ?_, ?_, ?_, ?_, ?_⟩
  · rw [yS_oi _ _ _ _ (by decide), yS_oi _ _ _ _ (by decide), hN, yS_oi _ _ _ _ (by decide), yS_oi _ _ _ _ (by decide), yS_oi _ _ _ _ (by decide), yS_at]
  · rw [yS_oi _ _ _ _ (by decide), yS_oi _ _ _ _ (by decide), hN, yS_oi _ _ _ _ (by decide), yS_oi _ _ _ _ (by decide), yS_at]
  · rw [yS_oi _ _ _ _ (by decide), yS_oi _ _ _ _ (by decide), hN, yS_oi _ _ _ _ (by decide), yS_at]
  · rw [yS_oi _ _ _ _ (by decide), yS_oi _ _ _ _ (by decide), hN, yS_at]
  · rw [yS_oi _ _ _ _ (by decide), yS_at]
  · rw [yS_at]
  · rw [hl _ _ 39 (by omega)]; exact a3
  · intro i z1 z2 z3 z4 z5 z6
    rw [hl _ _ i z6]; exact a4 i z1 z2 z3 z4 z5
  · intro q z1 z2 z3 z4
    rw [hlo _ _ q z1 z3 z4]; exact a5 q z1 z2 z3 z4
