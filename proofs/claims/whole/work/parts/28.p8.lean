/-! how many bits, the lowest bit -/
def onesF (x : Int32) : Nat → Int32
  | 0 => 0
  | n + 1 => onesF x n + bit x n
def bcF (x1 : Int32) : Int32 := (b_J6_bitCount_0f7a4 (0, fun _ => (0, 0), fun _ _ => none) (fun _ _ => 0) x1).getD 0
theorem bc_al2 : ∀ a, a < 64 → ∀ c, c < 64 → bcF (nI (64 * a + c)) = onesF (nI (64 * a + c)) 12 := by decide +kernel
theorem bc_all (j : Nat) (hj : j < 4096) : bcF (nI j) = onesF (nI j) 12 := by
  have h := bc_al2 (j / 64) (by omega) (j % 64) (by omega)
  rw [Nat.div_add_mod] at h
  exact h
theorem q_ones {K : yK} {M : yM} (x : Int32) : b_X8_ones K M x = some (onesF x 12) := by
  have h : ∀ (f n i : Nat), i + f = 12 → f < n → b_X8_ones_4 K M x n (onesF x i) (nI i) = some (onesF x 12) := by
    intro f
    induction f with
    | zero =>
      intro n i hi hn
      obtain ⟨n, rfl⟩ : ∃ z, n = z + 1 := ⟨n - 1, by omega⟩
      rw [b_X8_ones_4, show (12 : Int32) = nI 12 from rfl, iteLe (by omega) (by omega), if_pos (by omega), show i = 12 by omega]
    | succ f ih =>
      intro n i hi hn
      obtain ⟨n, rfl⟩ : ∃ z, n = z + 1 := ⟨n - 1, by omega⟩
      rw [b_X8_ones_4, show (12 : Int32) = nI 12 from rfl, iteLe (by omega) (by omega), if_neg (by omega), Option.bind_some, incN, Option.bind_some]
      exact ih n (i + 1) (by omega) (by omega)
  unfold b_X8_ones
  rw [show b_X8_ones_4 K M x 1000 0 0 = some (onesF x 12) from h 12 1000 0 rfl (by omega), Option.bind_some]
theorem p_bitCount {K : yK} {M : yM} {j : Nat} (hj : j < 4096) : b_J6_bitCount_0f7a4 K M (nI j) = some (onesF (nI j) 12) := by
  have h := bc_all j hj
  have e : b_J6_bitCount_0f7a4 K M (nI j) = some (bcF (nI j)) := rfl
  rw [e, h]
def loF (x : Int32) : Nat → Nat → Nat
  | 0, i => i
  | f + 1, i => if bt x i = true then i else loF x f (i + 1)
def loB (x : Int32) : Nat := loF x 12 0
theorem loF_is {x : Int32} : ∀ (f i : Nat), (∃ w, i ≤ w ∧ w < i + f ∧ bt x w = true) → bt x (loF x f i) = true ∧ i ≤ loF x f i ∧ loF x f i < i + f
  | 0, i, ⟨w, h1, h2, _⟩ => absurd h1 (by omega)
  | f + 1, i, ⟨w, h1, h2, h3⟩ => by
    unfold loF
    by_cases h : bt x i = true
    · rw [if_pos h]; exact ⟨h, Nat.le_refl _, by omega⟩
    · rw [if_neg h]
      have hw : w ≠ i := fun e => h (by rw [← e]; exact h3)
      obtain ⟨a, b, c⟩ := loF_is f (i + 1) ⟨w, by omega, by omega, h3⟩
      exact ⟨a, by omega, by omega⟩
theorem p_lowest {K : yK} {M : yM} {x : Int32} (h : ∃ w, w < 12 ∧ bt x w = true) : b_X0_lowest K M x = some (nI (loB x)) := by
  have hl : ∀ (f n i : Nat), i + f = 12 → f < n → (∃ w, i ≤ w ∧ w < i + f ∧ bt x w = true) → b_X0_lowest_2 K M x n (nI i) = some (.inr (nI (loF x f i))) := by
    intro f
    induction f with
    | zero =>
      intro n i hi hn ⟨w, h1, h2, _⟩
      omega
    | succ f ih =>
      intro n i hi hn ⟨w, h1, h2, h3⟩
      obtain ⟨n, rfl⟩ : ∃ z, n = z + 1 := ⟨n - 1, by omega⟩
      rw [b_X0_lowest_2, show (12 : Int32) = nI 12 from rfl, iteLe (by omega) (by omega), if_neg (by omega)]
      unfold loF
      by_cases c : bt x i = true
      · rw [if_pos (show x >>> (nI i &&& 31) &&& 1 = 1 from (bit_1 x (by omega)).mpr c), if_pos c]
      · rw [if_neg (show ¬ x >>> (nI i &&& 31) &&& 1 = 1 from fun e => c ((bit_1 x (by omega)).mp e)), if_neg c, Option.bind_some, incN]
        have hw : w ≠ i := fun e => c (by rw [← e]; exact h3)
        exact ih n (i + 1) (by omega) (by omega) ⟨w, by omega, by omega, h3⟩
  obtain ⟨w, h1, h2⟩ := h
  unfold b_X0_lowest
  rw [show b_X0_lowest_2 K M x 1000 0 = some (.inr (nI (loF x 12 0))) from hl 12 1000 0 rfl (by omega) ⟨w, by omega, by omega, h2⟩, Option.bind_some]
  rfl
theorem q_lowestIn {K : yK} {M : yM} {x : Int32} (h : ∃ w, w < 12 ∧ bt x w = true) : b_X8_lowestIn K M x = some (nI (loB x)) := by
  have hl : ∀ (f n i : Nat), i + f = 12 → f < n → (∃ w, i ≤ w ∧ w < i + f ∧ bt x w = true) → b_X8_lowestIn_2 K M x n (nI i) = some (nI (loF x f i)) := by
    intro f
    induction f with
    | zero =>
      intro n i hi hn ⟨w, h1, h2, _⟩
      omega
    | succ f ih =>
      intro n i hi hn ⟨w, h1, h2, h3⟩
      obtain ⟨n, rfl⟩ : ∃ z, n = z + 1 := ⟨n - 1, by omega⟩
      rw [b_X8_lowestIn_2]
      unfold loF
      by_cases c : bt x i = true
      · rw [if_neg (show ¬ x >>> (nI i &&& 31) &&& 1 = 0 from fun e => by rw [(bit_0 x (by omega)).mp e] at c; exact Bool.noConfusion c), if_pos c]
      · rw [if_pos (show x >>> (nI i &&& 31) &&& 1 = 0 from (bit_0 x (by omega)).mpr (by simpa using c)), if_neg c, Option.bind_some, incN]
        have hw : w ≠ i := fun e => c (by rw [← e]; exact h3)
        exact ih n (i + 1) (by omega) (by omega) ⟨w, by omega, by omega, h3⟩
  obtain ⟨w, h1, h2⟩ := h
  unfold b_X8_lowestIn
  rw [show b_X8_lowestIn_2 K M x 1000 0 = some (nI (loF x 12 0)) from hl 12 1000 0 rfl (by omega) ⟨w, by omega, by omega, h2⟩, Option.bind_some]
  rfl
theorem b_nI {j : Nat} (hj : j < 4294967296) (i : Nat) : bt (nI j) i = j.testBit i := by
  have h : (nI j).toBitVec = BitVec.ofNat 32 j := rfl
  unfold bt
  rw [h, BitVec.getLsbD_ofNat]
  by_cases c : i < 32
  · simp [c]
  · have : j < 2 ^ i := Nat.lt_of_lt_of_le (show j < 2 ^ 32 from hj) (Nat.pow_le_pow_right (show 2 > 0 by decide) (show 32 ≤ i by omega))
    simp [c, Nat.testBit_lt_two_pow this]
/-- bits below e only -/
def bB (x : Int32) (e : Nat) : Prop := ∀ i, e ≤ i → bt x i = false
theorem bB_nI {x : Int32} {e : Nat} (h : bB x e) (he : e ≤ 31) : ∃ j, j < 2 ^ e ∧ x = nI j := by
  refine ⟨x.toBitVec.toNat, ?_, ?_⟩
  · exact Nat.lt_pow_two_of_testBit _ (fun i hi => h i hi)
  · apply Int32.toBitVec_inj.mp
    show x.toBitVec = BitVec.ofNat 32 x.toBitVec.toNat
    rw [BitVec.ofNat_toNat, BitVec.setWidth_eq]
theorem nI_bB {j e : Nat} (h : j < 2 ^ e) (he : e ≤ 31) : bB (nI j) e := by
  intro i hi
  have h1 : (2 : Nat) ^ e ≤ 2 ^ i := Nat.pow_le_pow_right (by decide) hi
  have h2 : (2 : Nat) ^ e ≤ 2 ^ 31 := Nat.pow_le_pow_right (by decide) he
  rw [b_nI (by omega), Nat.testBit_lt_two_pow (by omega)]
theorem bB_0 (e : Nat) : bB 0 e := fun i _ => b_0 i
theorem bB_or {x y : Int32} {e : Nat} (hx : bB x e) (hy : bB y e) : bB (x ||| y) e := fun i hi => by rw [b_or, hx i hi, hy i hi]; rfl
theorem bB_sh1 {w e : Nat} (hw : w < e) (he : e ≤ 31) : bB (sh1 w) e := fun i hi => by
  by_cases c : i < 32
  · rw [bt_sh1 (by omega) c]; exact dcF (by omega)
  · exact b_big (by omega)
theorem bB_le {x : Int32} {e f : Nat} (h : bB x e) (hf : e ≤ f) : bB x f := fun i hi => h i (by omega)
theorem bB_ne {j e : Nat} (h : j < 2 ^ e) (h0 : 0 < j) (he : e ≤ 31) : ∃ w, w < e ∧ bt (nI j) w = true := by
  have h2 : (2 : Nat) ^ e ≤ 2 ^ 31 := Nat.pow_le_pow_right (by decide) he
  obtain ⟨w, hw⟩ := Nat.exists_testBit_of_ne_zero (Nat.pos_iff_ne_zero.mp h0)
  refine ⟨w, ?_, by rw [b_nI (by omega)]; exact hw⟩
  rcases Nat.lt_or_ge w e with c | c
  · exact c
  · have : j < 2 ^ w := Nat.lt_of_lt_of_le h (Nat.pow_le_pow_right (by decide) c)
    rw [Nat.testBit_lt_two_pow this] at hw
    exact Bool.noConfusion hw
