/-! what holds by itself -/
def holdB (k : Nat) (m : Int32) (read yes : Bool) (be day : Int32) : Bool :=
  if k = 1 then (read && yes) || (yes && !(decide (m < be)))
  else if k = 2 then read && yes
  else if k = 3 then (((read && yes) || (yes && !(decide (m < be)))) && !(decide (day - day / 10 * 10 < m / 2))) || decide (day - day / 10 * 10 = m)
  else if k = 4 then (read && yes) || !(decide (m ≤ 4))
  else if k = 5 then (read && yes) && decide (be - be / 2 * 2 = m - m / 2 * 2)
  else read && yes
theorem holdB_yes (k : Nat) (m : Int32) (read yes : Bool) (be day : Int32) : holdB k m read (if read = true then yes else if m < be then false else yes) be day = holdB k m read yes be day := by
  unfold holdB
  cases read
  · by_cases h : m < be
    · simp [h]
    · simp [h]
  · simp
theorem p_asHabit {K : yK} {M : yM} (m be : Int32) (en yes : Bool) : b_X2_asHabit K M m en yes be = some (en || (yes && !(decide (m < be)))) := by
  unfold b_X2_asHabit
  cases en <;> cases yes <;> by_cases h : m < be <;> simp [h]
theorem p_holds {K : yK} {M : yM} {k : Nat} (hk : k < 6) (m be day : Int32) (read yes : Bool) : b_X2_holds K M (nI k) m read yes be day = some (holdB k m read yes be day) := by
  have e : (if read = true then (if yes = true then some true else some false) else some false : Option Bool) = some (read && yes) := by
    cases read <;> cases yes <;> rfl
  unfold b_X2_holds holdB
  rw [e, Option.bind_some, p_asHabit, Option.bind_some, Option.bind_some, show (1 : Int32) = nI 1 from rfl, iteEq (by omega) (by omega), show (2 : Int32) = nI 2 from rfl, iteEq (by omega) (by omega), show (3 : Int32) = nI 3 from rfl, iteEq (by omega) (by omega), show (4 : Int32) = nI 4 from rfl, iteEq (by omega) (by omega), show (5 : Int32) = nI 5 from rfl, iteEq (by omega) (by omega)]
  rcases (show k = 0 ∨ k = 1 ∨ k = 2 ∨ k = 3 ∨ k = 4 ∨ k = 5 by omega) with rfl | rfl | rfl | rfl | rfl | rfl
  · rfl
  · rfl
  · rfl
  · generalize hh : (read && yes || yes && !decide (m < be)) = ha
    by_cases h1 : day - day / 10 * 10 = m
    · simp [h1]
    · by_cases h2 : day - day / 10 * 10 < m / nI 2
      · simp [h1, h2]
      · simp only [h1, h2, if_false]
        cases ha <;> simp
  · by_cases h2 : m ≤ nI 4 <;> cases (read && yes) <;> simp [h2]
  · by_cases h2 : be - be / nI 2 * nI 2 = m - m / nI 2 * nI 2 <;> cases (read && yes) <;> simp [h2]
def behB (d : Nat) (r : Int32) : Int32 := if r = -1 then 999 else if 0 < nI d - r then nI d - r else 0
theorem p_behindOf {K : yK} {M : yM} {t w : Nat} {b : Bk} (hK : KSh K) (ht : isB t) (hW : WB b) (hB : BR M t b) (hw : w < bE b) : b_X0_behindOf K M t (nI w) = some (behB (bDy b) (bR b w)) := by
  obtain ⟨⟨-, -, -, h11, -⟩, hv, -⟩ := id hB
  obtain ⟨h12, -⟩ := id hW
  obtain ⟨-, -, -, -, v5⟩ := hv w hw
  unfold b_X0_behindOf behB
  rw [if_pos (hK.bo ht), hK.br ht (f := 4) (by omega), Option.bind_some, if_pos (gA_N (hK.ba ht (f := 4) (by omega)) (by omega) (by omega)), h11, nC (by omega), show t + 1 + 4 = t + 5 by omega, v5]
  by_cases h : bR b w = -1
  · rw [if_pos h, if_pos h]
  · rw [if_neg h, if_neg h]
theorem q_behindOf {K : yK} {M : yM} {w : Nat} {b : Bk} (hK : KSh K) (hW : WB b) (hB : MR M b) (hw : w < bE b) : b_X8_behindOf K M 50 (nI w) = some (behB (bDy b) (bR b w)) := by
  obtain ⟨⟨-, -, -, h7, -⟩, hv, -⟩ := id hB
  obtain ⟨h12, hr, -, -, hdy, -⟩ := id hW
  obtain ⟨-, -, -, -, v5⟩ := hv w hw
  obtain ⟨-, -, -, -, -, r6⟩ := hr w hw
  unfold b_X8_behindOf behB
  rw [if_pos hK.mo, hK.mr (f := 3) rfl, Option.bind_some, show (3 : Int32) = nI 3 from rfl, show (2 : Int32) = nI 2 from rfl, mulN, addN, if_pos (gA_N (hK.ar (p := 53) (n := 36) (by decide) rfl) (by omega) (by omega)), nC (by omega), v5, Option.bind_some, h7]
  by_cases h : bR b w = -1
  · rw [if_pos h, if_pos h]
  · rw [if_neg h, if_neg h]
    rcases r6 with r6 | ⟨j, hj, r6⟩
    · exact absurd r6 h
    · rw [r6]
      have es := subI (a := bDy b) (b := j) (by omega) (by omega)
      have eb : (999999 : Int32).toInt = 999999 := by decide
      unfold b_X8_within
      by_cases c : 0 < nI (bDy b) - nI j
      · rw [if_pos c]
        rw [i_lt, i_0] at c
        rw [if_pos (show (0 : Int32) ≤ nI (bDy b) - nI j by rw [i_le, i_0]; omega), if_pos (show nI (bDy b) - nI j ≤ 999999 by rw [i_le, eb]; omega), Option.bind_some]
      · rw [if_neg c]
        by_cases c2 : (0 : Int32) ≤ nI (bDy b) - nI j
        · rw [i_lt, i_0] at c
          have c3 := c2
          rw [i_le, i_0] at c3
          rw [if_pos c2, if_pos (show nI (bDy b) - nI j ≤ 999999 by rw [i_le, eb]; omega), Option.bind_some]
          rw [show nI (bDy b) - nI j = 0 from Int32.toInt_inj.mp (by rw [i_0]; omega)]
        · rw [if_neg c2, Option.bind_some]
