/-! the entry on a page -/
def enF (b : Bk) (q : Nat) : Nat → Nat → Nat
  | 0, w => w
  | f + 1, w => if q < fsB b (w + 1) then w else enF b q f (w + 1)
def enB (b : Bk) (q : Nat) : Nat := enF b q (bE b) 0
theorem enF_is {b : Bk} {q : Nat} : ∀ (f w : Nat), fsB b w ≤ q → q < fsB b (w + f) → fsB b (enF b q f w) ≤ q ∧ q < fsB b (enF b q f w + 1) ∧ enF b q f w < w + f
  | 0, w, h1, h2 => absurd h2 (Nat.not_lt.mpr h1)
  | f + 1, w, h1, h2 => by
    unfold enF
    by_cases c : q < fsB b (w + 1)
    · rw [if_pos c]; exact ⟨h1, c, by omega⟩
    · rw [if_neg c]
      obtain ⟨a, d, e⟩ := enF_is (b := b) (q := q) f (w + 1) (by omega) (by rw [show w + 1 + f = w + (f + 1) by omega]; exact h2)
      exact ⟨a, d, by omega⟩
theorem enB_is {b : Bk} {q : Nat} (h : q < fsB b (bE b)) : fsB b (enB b q) ≤ q ∧ q < fsB b (enB b q + 1) ∧ enB b q < bE b := by
  obtain ⟨a, d, e⟩ := enF_is (b := b) (q := q) (bE b) 0 (Nat.zero_le _) (by rw [Nat.zero_add]; exact h)
  exact ⟨a, d, by unfold enB; omega⟩
theorem enB_iff {b : Bk} {q w : Nat} (h : q < fsB b (bE b)) (hw : w < bE b) : enB b q = w ↔ fsB b w ≤ q ∧ q < fsB b (w + 1) := by
  obtain ⟨a, d, e⟩ := enB_is h
  constructor
  · intro z; subst z; exact ⟨a, d⟩
  · intro ⟨z1, z2⟩
    rcases Nat.lt_trichotomy (enB b q) w with c | c | c
    · have := fsB_mono (b := b) (show enB b q + 1 ≤ w by omega); omega
    · exact c
    · have := fsB_mono (b := b) (show w + 1 ≤ enB b q by omega); omega
theorem p_entryOn {K : yK} {M : yM} {t q : Nat} {b : Bk} (hK : KSh K) (ht : isB t) (hW : WB b) (h8 : M t 8 = nI (bE b)) (hS : ∀ w, w ≤ bE b → M (t + 6) w = nI (fsB b w)) (hq : q < fsB b (bE b)) : b_X0_entryOn K M t (nI q) = some (nI (enB b q)) := by
  have h12 := hW.1
  have hP := (fsB_le hW (bE b) (Nat.le_refl _)).2
  have hl : ∀ (f n w : Nat), w + f = bE b → f < n → fsB b w ≤ q → b_X0_entryOn_2 K M t (nI q) n (nI w) = some (.inr (nI (enF b q f w))) := by
    intro f
    induction f with
    | zero =>
      intro n w hw hn hf
      rw [show w = bE b by omega] at hf
      omega
    | succ f ih =>
      intro n w hw hn hf
      obtain ⟨n, rfl⟩ : ∃ z, n = z + 1 := ⟨n - 1, by omega⟩
      have hb := (fsB_le hW (w + 1) (by omega)).2
      rw [b_X0_entryOn_2, if_pos (hK.bo ht), h8, iteLe (by omega) (by omega), if_neg (by omega), hK.br ht (f := 5) (by omega), Option.bind_some, show t + 1 + 5 = t + 6 by omega, incN, if_pos (gA_N (hK.b6 ht) (by omega) (by omega)), nC (by omega), hS (w + 1) (by omega), iteLe (by omega) (by omega)]
      unfold enF
      by_cases c : q < fsB b (w + 1)
      · rw [if_neg (by omega), if_pos c]
      · rw [if_pos (by omega), if_neg c, Option.bind_some]
        exact ih n (w + 1) (by omega) (by omega) (by omega)
  unfold b_X0_entryOn
  rw [show b_X0_entryOn_2 K M t (nI q) 1000 0 = some (.inr (nI (enF b q (bE b) 0))) from hl (bE b) 1000 0 (by omega) (by omega) (Nat.zero_le _), Option.bind_some]
  rfl
theorem q_entryOn {K : yK} {M : yM} {q : Nat} {b : Bk} (hK : KSh K) (hW : WB b) (hB : ME M b) (hq : q < fsB b (bE b)) : b_X8_entryOn K M 50 (nI q) = some (nI (enB b q)) := by
  have h12 := hW.1
  have hP := (fsB_le hW (bE b) (Nat.le_refl _)).2
  have hl : ∀ (f n w : Nat), w + f = bE b → f < n → fsB b w ≤ q → b_X8_entryOn_4 K M 50 n (nI (q - fsB b w)) (nI w) = some (nI (enF b q f w)) := by
    intro f
    induction f with
    | zero =>
      intro n w hw hn hf
      rw [show w = bE b by omega] at hf
      omega
    | succ f ih =>
      intro n w hw hn hf
      obtain ⟨n, rfl⟩ : ∃ z, n = z + 1 := ⟨n - 1, by omega⟩
      have hb := (fsB_le hW (w + 1) (by omega)).2
      have hs : fsB b (w + 1) = fsB b w + tkB b w := rfl
      have htk := tkB_le hW (w := w) (by omega)
      rw [b_X8_entryOn_4, if_pos hK.mo, hB.1, incN, iteLe (by omega) (by omega), q_takesOf hK hW hB (by omega), Option.bind_some, Option.bind_some, iteLt (by omega) (by omega)]
      unfold enF
      by_cases c0 : bE b ≤ w + 1
      · have e : w + 1 = bE b := by omega
        rw [if_pos c0, if_pos (by rw [e]; exact hq)]
      · rw [if_neg c0]
        by_cases c : q < fsB b (w + 1)
        · rw [if_pos (by omega), if_pos c]
        · rw [if_neg (by omega), if_neg c, subN (by omega), Option.bind_some, Option.bind_some, show q - fsB b w - tkB b w = q - fsB b (w + 1) by omega]
          exact ih n (w + 1) (by omega) (by omega) (by omega)
  unfold b_X8_entryOn
  rw [show b_X8_entryOn_4 K M 50 1000 (nI q) 0 = some (nI (enF b q (bE b) 0)) from hl (bE b) 1000 0 (by omega) (by omega) (Nat.zero_le _), Option.bind_some]
  rfl
