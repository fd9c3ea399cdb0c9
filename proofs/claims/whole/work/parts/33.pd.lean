/-! the pages of a day -/
def anyB (b : Bk) (be m w : Nat) : Bool := decide (0 < m ∧ ((fsB b w < be + m ∧ be < fsB b (w + 1)) ∨ (fsB b w + fsB b (bE b) < be + m ∧ be < fsB b (w + 1) + fsB b (bE b))))
def hitB (b : Bk) (be m w : Nat) : Bool := anyB b be m w && decide (bit (bSk b) w = 0)
def cmF (b : Bk) (be m : Nat) : Nat → Int32
  | 0 => 0
  | w + 1 => cmF b be m w ||| (if hitB b be m w = true then sh1 w else 0)
theorem cmF_bt {b : Bk} {be m : Nat} : ∀ (e : Nat), e ≤ 31 → ∀ i, i < 32 → bt (cmF b be m e) i = (decide (i < e) && hitB b be m i)
  | 0, _, i, _ => by rw [show cmF b be m 0 = 0 from rfl, b_0]; simp
  | e + 1, he, i, hi => by
    rw [show cmF b be m (e + 1) = cmF b be m e ||| (if hitB b be m e = true then sh1 e else 0) from rfl, b_or, cmF_bt e (by omega) i hi]
    by_cases c : hitB b be m e = true
    · rw [if_pos c, bt_sh1 (by omega) hi]
      by_cases d : i = e
      · subst d; simp [c]
      · rw [dcF d, Bool.or_false]
        by_cases z : i < e
        · rw [dc z, dc (show i < e + 1 by omega)]
        · rw [dcF z, dcF (show ¬ i < e + 1 by omega)]
    · rw [if_neg c, b_0, Bool.or_false]
      by_cases d : i = e
      · subst d; simp [c]
      · by_cases z : i < e
        · rw [dc z, dc (show i < e + 1 by omega)]
        · rw [dcF z, dcF (show ¬ i < e + 1 by omega)]
def moF (b : Bk) (be : Nat) : Nat → Int32
  | 0 => 0
  | k + 1 => moF b be k ||| (if bit (bSk b) (enB b ((be + k) % fsB b (bE b))) = 0 then sh1 (enB b ((be + k) % fsB b (bE b))) else 0)
theorem moF_bt {b : Bk} (hW : WB b) {be : Nat} (hP : 0 < fsB b (bE b)) : ∀ (m i : Nat), i < 32 → (bt (moF b be m) i = true ↔ (∃ k, k < m ∧ enB b ((be + k) % fsB b (bE b)) = i) ∧ bit (bSk b) i = 0)
  | 0, i, hi => by
    rw [show moF b be 0 = 0 from rfl, b_0]
    exact ⟨fun h => Bool.noConfusion h, fun ⟨⟨k, hk, _⟩, _⟩ => absurd hk (by omega)⟩
  | m + 1, i, hi => by
    have he := (enB_is (b := b) (q := (be + m) % fsB b (bE b)) (Nat.mod_lt _ hP)).2.2
    have h12 := hW.1
    have ih := moF_bt hW (be := be) hP m i hi
    rw [show moF b be (m + 1) = moF b be m ||| (if bit (bSk b) (enB b ((be + m) % fsB b (bE b))) = 0 then sh1 (enB b ((be + m) % fsB b (bE b))) else 0) from rfl, b_or, Bool.or_eq_true, ih]
    generalize hq : enB b ((be + m) % fsB b (bE b)) = e at he
    constructor
    · intro h
      rcases h with ⟨⟨k, k1, k2⟩, h2⟩ | h
      · exact ⟨⟨k, by omega, k2⟩, h2⟩
      · by_cases c : bit (bSk b) e = 0
        · rw [if_pos c, bt_sh1 (by omega) hi] at h
          have := of_decide_eq_true h
          subst this
          exact ⟨⟨m, by omega, hq⟩, c⟩
        · rw [if_neg c, b_0] at h; exact Bool.noConfusion h
    · intro ⟨⟨k, k1, k2⟩, h2⟩
      by_cases z : k = m
      · subst z
        rw [hq] at k2
        subst k2
        right
        rw [if_pos h2, bt_sh1 (by omega) hi]
        exact dc rfl
      · exact .inl ⟨⟨k, by omega, k2⟩, h2⟩
theorem any_iff {b : Bk} (hW : WB b) {be m w : Nat} (hbe : be < fsB b (bE b)) (hm : m ≤ fsB b (bE b)) (hw : w < bE b) : anyB b be m w = true ↔ ∃ k, k < m ∧ enB b ((be + k) % fsB b (bE b)) = w := by
  have hP : 0 < fsB b (bE b) := by omega
  have h1 : fsB b w < fsB b (w + 1) := by
    have := tkB_le hW hw
    show fsB b w < fsB b w + tkB b w
    omega
  have h2 : fsB b (w + 1) ≤ fsB b (bE b) := fsB_mono (by omega)
  generalize hPP : fsB b (bE b) = P at hbe hm hP h2
  constructor
  · intro h
    have h := of_decide_eq_true h
    rw [hPP] at h
    obtain ⟨h0, h | h⟩ := h
    · by_cases c : be ≤ fsB b w
      · refine ⟨fsB b w - be, by omega, ?_⟩
        rw [show be + (fsB b w - be) = fsB b w by omega, Nat.mod_eq_of_lt (by omega)]
        exact (enB_iff (by omega) hw).mpr ⟨Nat.le_refl _, h1⟩
      · refine ⟨0, h0, ?_⟩
        rw [Nat.add_zero, Nat.mod_eq_of_lt hbe]
        exact (enB_iff (by omega) hw).mpr ⟨by omega, h.2⟩
    · refine ⟨fsB b w + P - be, by omega, ?_⟩
      rw [show be + (fsB b w + P - be) = fsB b w + P by omega, Nat.add_mod_right, Nat.mod_eq_of_lt (by omega)]
      exact (enB_iff (by omega) hw).mpr ⟨Nat.le_refl _, h1⟩
  · intro ⟨k, k1, k2⟩
    have hlt : (be + k) % P < P := Nat.mod_lt _ hP
    obtain ⟨a, d⟩ := (enB_iff (b := b) (q := (be + k) % P) (by omega) hw).mp k2
    refine dc ?_
    rw [hPP]
    refine ⟨by omega, ?_⟩
    by_cases c : be + k < P
    · rw [Nat.mod_eq_of_lt c] at a d
      exact .inl ⟨by omega, by omega⟩
    · rw [Nat.mod_eq_sub_mod (by omega), Nat.mod_eq_of_lt (by omega)] at a d
      exact .inr ⟨by omega, by omega⟩
theorem cm_mo {b : Bk} (hW : WB b) {be m : Nat} (hbe : be < fsB b (bE b)) (hm : m ≤ fsB b (bE b)) : cmF b be m (bE b) = moF b be m := by
  have h12 := hW.1
  refine b_ext (fun i hi => ?_)
  rw [cmF_bt (bE b) (by omega) i hi]
  have h := moF_bt hW (be := be) (by omega) m i hi
  rw [Bool.eq_iff_iff, h, Bool.and_eq_true, decide_eq_true_iff]
  unfold hitB
  rw [Bool.and_eq_true, decide_eq_true_iff]
  constructor
  · intro ⟨z1, z2, z3⟩
    exact ⟨(any_iff hW hbe hm z1).mp z2, z3⟩
  · intro ⟨⟨k, k1, k2⟩, z3⟩
    have he := (enB_is (b := b) (q := (be + k) % fsB b (bE b)) (Nat.mod_lt _ (by omega))).2.2
    rw [k2] at he
    exact ⟨he, (any_iff hW hbe hm he).mpr ⟨k, k1, k2⟩, z3⟩
