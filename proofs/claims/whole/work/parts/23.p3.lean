/-! texts: a stack of numbers -/
abbrev Sk : Type := Nat × (Nat → Int32)
def opF (c : Nat) (x y : Int32) : Int32 :=
  if c = 11 then (if x = 0 then (if y = 0 then 0 else 1) else 1)
  else if c = 12 then (if x = 0 then 0 else if y = 0 then 0 else 1)
  else if c = 14 then (if y ≤ x then 0 else 1)
  else if c = 15 then (if x = y then 1 else 0)
  else if c = 16 then x + y
  else if c = 17 then x - y
  else x * y
def ev1 (nm : Nat → Int32) (c : Nat) (s : Sk) : Sk :=
  if 100000 ≤ c then (s.1 + 1, va_up s.2 s.1 (nI (c - 100000)))
  else if c < 11 then (s.1 + 1, va_up s.2 s.1 (nm c))
  else if c = 13 then (s.1, va_up s.2 (s.1 - 1) (if s.2 (s.1 - 1) = 0 then 1 else 0))
  else if c = 19 then (s.1, va_up s.2 (s.1 - 1) (-(s.2 (s.1 - 1))))
  else (s.1 - 1, va_up s.2 (s.1 - 2) (opF c (s.2 (s.1 - 2)) (s.2 (s.1 - 1))))
def evR (nm : Nat → Int32) (ct : Nat → Nat) : Nat → Nat → Sk → Sk
  | 0, _, s => s
  | n + 1, i, s => evR nm ct n (i + 1) (ev1 nm (ct i) s)
def dok (c d : Nat) : Prop := (100000 ≤ c ∧ c ≤ 109999) ∨ c < 6 ∨ ((c = 13 ∨ c = 19) ∧ 1 ≤ d) ∨ ((c = 11 ∨ c = 12 ∨ (14 ≤ c ∧ c ≤ 18)) ∧ 2 ≤ d)
def dep (c d : Nat) : Nat := if 100000 ≤ c then d + 1 else if c < 11 then d + 1 else if c = 13 then d else if c = 19 then d else d - 1
def okR (ct : Nat → Nat) : Nat → Nat → Nat → Prop
  | 0, _, d => d = 1
  | n + 1, i, d => dok (ct i) d ∧ okR ct n (i + 1) (dep (ct i) d)
theorem ev1_d (nm : Nat → Int32) (c : Nat) (s : Sk) : (ev1 nm c s).1 = dep c s.1 := by
  unfold ev1 dep
  repeat' split
  all_goals rfl
theorem dep_le (c d : Nat) : dep c d ≤ d + 1 := by
  unfold dep
  repeat' split
  all_goals omega
/-- a row holds a stack -/
def SR (M : yM) (p : Nat) (s : Sk) : Prop := ∀ i, i < s.1 → M p i = s.2 i
theorem SR_put {M : yM} {p d d' : Nat} {g : Nat → Int32} {v : Int32} (h : ∀ i, i < d → M p i = g i) (hd : d' ≤ d + 1) (k : Nat) (hk : k + 1 ≥ d') (hk2 : k ≤ d) : SR (yS M p k v) p (d', va_up g k v) := by
  intro i hi
  show yS M p k v p i = va_up g k v i
  by_cases e : i = k
  · subst e; rw [yS_at]; simp [va_up]
  · rw [yS_oi _ _ _ _ e, h i (by have : i < d' := hi; omega)]; simp [va_up, e]
/-- a text: its codes, where its parts begin -/
abbrev Tx : Type := (Nat → Nat) × (Nat → Nat)
def TxW (x : Tx) : Prop := x.2 0 = 0 ∧ x.2 0 ≤ x.2 1 ∧ x.2 1 ≤ x.2 2 ∧ x.2 2 ≤ x.2 3 ∧ x.2 3 ≤ 159 ∧ ∀ p, p < 3 → okR x.1 (x.2 (p + 1) - x.2 p) (x.2 p) 0
def sayR (x : Tx) (nm : Nat → Int32) (p : Nat) : Sk := evR nm x.1 (x.2 (p + 1) - x.2 p) (x.2 p) (0, fun _ => 0)
def sayV (x : Tx) (nm : Nat → Int32) (p : Nat) : Int32 := (sayR x nm p).2 0
theorem TxW.mono {x : Tx} (h : TxW x) {p q : Nat} (hq : q ≤ 3) (hp : p ≤ q) : x.2 p ≤ x.2 q ∧ x.2 q ≤ 159 := by
  obtain ⟨h0, h1, h2, h3, h4, -⟩ := h
  rcases (show q = 0 ∨ q = 1 ∨ q = 2 ∨ q = 3 by omega) with rfl | rfl | rfl | rfl <;> rcases (show p = 0 ∨ p = 1 ∨ p = 2 ∨ p = 3 by omega) with rfl | rfl | rfl | rfl <;> omega
theorem evR_d1 {nm : Nat → Int32} {ct : Nat → Nat} : ∀ (n i : Nat) (s : Sk), okR ct n i s.1 → (evR nm ct n i s).1 = 1
  | 0, _, _, h => h
  | n + 1, i, s, h => by
    show (evR nm ct n (i + 1) (ev1 nm (ct i) s)).1 = 1
    apply evR_d1 n (i + 1)
    rw [ev1_d]
    exact h.2
/-- the model holds text k -/
def MT (M : yM) (k : Nat) (x : Tx) : Prop := (∀ p, p ≤ 3 → M 57 (4 * k + p) = nI (x.2 p)) ∧ ∀ i, i < x.2 3 → M 56 (200 * k + i) = nI (x.1 i)
theorem MT.cg {M M' : yM} {k : Nat} {x : Tx} (h : MT M k x) (h1 : M' 57 = M 57) (h2 : M' 56 = M 56) : MT M' k x := by
  unfold MT
  rw [h1, h2]
  exact h
theorem q_two {K : yK} {M : yM} {c : Nat} (hc : c = 11 ∨ c = 12 ∨ (14 ≤ c ∧ c ≤ 18)) (x y : Int32) : b_X8_two K M (nI c) x y = some (opF c x y) := by
  rcases (show c = 11 ∨ c = 12 ∨ c = 14 ∨ c = 15 ∨ c = 16 ∨ c = 17 ∨ c = 18 by omega) with rfl | rfl | rfl | rfl | rfl | rfl | rfl
  · show b_X8_two K M 11 x y = _
    by_cases h : x = 0 <;> by_cases h2 : y = 0 <;> simp [b_X8_two, opF, h, h2]
  · show b_X8_two K M 12 x y = _
    by_cases h : x = 0 <;> by_cases h2 : y = 0 <;> simp [b_X8_two, opF, h, h2]
  · show b_X8_two K M 14 x y = _
    by_cases h : y ≤ x <;> simp [b_X8_two, opF, h]
  · show b_X8_two K M 15 x y = _
    by_cases h : x = y <;> simp [b_X8_two, opF, h]
  · show b_X8_two K M 16 x y = _
    simp [b_X8_two, opF]
  · show b_X8_two K M 17 x y = _
    simp [b_X8_two, opF]
  · show b_X8_two K M 18 x y = _
    simp [b_X8_two, opF]
/-- one code, by the model: what comes onto the row 67 -/
theorem q_says_loop {K : yK} {k part : Nat} {x : Tx} {nm : Nat → Int32} (hK : KSh K) (hk : k < 6) (hp : part < 3) (hx : TxW x) : ∀ (f n i : Nat) (M : yM) (s : Sk), M 50 16 = nI k → MT M k x → (∀ j, j < 6 → M 68 j = nm j) → SR M 67 s → i + f = x.2 (part + 1) → f < n → s.1 ≤ i → okR x.1 f i s.1 →
    ∃ M', b_X8_says_16 K 50 (nI part) n M (nI s.1) (nI i) = some M' ∧ SR M' 67 (evR nm x.1 f i s) ∧ ∀ q, q ≠ 67 → M' q = M q := by
  have hb := hx.mono (p := part + 1) (q := 3) (by omega) (by omega)
  have r14 := hK.mr (f := 14) (q := 57) rfl
  have r13 := hK.mr (f := 13) (q := 56) rfl
  have r37 := hK.mr (f := 37) (q := 67) rfl
  have r38 := hK.mr (f := 38) (q := 68) rfl
  intro f
  induction f with
  | zero =>
    intro n i M s h16 hT hN hS hi hn hd hok
    obtain ⟨n, rfl⟩ : ∃ z, n = z + 1 := ⟨n - 1, by omega⟩
    have g57 : gA K 57 (nI (4 * k + part + 1)) = true := gA_N (hK.ar (n := 24) (by decide) rfl) (by omega) (by omega)
    refine ⟨M, ?_, hS, fun _ _ => rfl⟩
    rw [b_X8_says_16, if_pos hK.mo, r14, Option.bind_some, h16, show (4 : Int32) = nI 4 from rfl, mulN, addN, incN, if_pos g57, nC (by omega), show 4 * k + part + 1 = 4 * k + (part + 1) from rfl, hT.1 (part + 1) (by omega), iteLe (by omega) (by omega), if_pos (by omega)]
  | succ f ih =>
    intro n i M s h16 hT hN hS hi hn hd hok
    obtain ⟨n, rfl⟩ : ∃ z, n = z + 1 := ⟨n - 1, by omega⟩
    obtain ⟨d, g⟩ := s
    obtain ⟨ho, hr⟩ := hok
    have hd : d ≤ i := hd
    have g57 : gA K 57 (nI (4 * k + part + 1)) = true := gA_N (hK.ar (n := 24) (by decide) rfl) (by omega) (by omega)
    have g56 : gA K 56 (nI (200 * k + i)) = true := gA_N (hK.ar (n := 1200) (by decide) rfl) (by omega) (by omega)
    have g67 : ∀ j, j < 200 → gA K 67 (nI j) = true := fun j hj => gA_N (hK.ar (n := 200) (by decide) rfl) hj (by omega)
    have ec := hT.2 i (by omega)
    rw [b_X8_says_16, if_pos hK.mo, r14, Option.bind_some, h16, show (4 : Int32) = nI 4 from rfl, mulN, addN, incN, if_pos g57, nC (by omega), show 4 * k + part + 1 = 4 * k + (part + 1) from rfl, hT.1 (part + 1) (by omega), iteLe (by omega) (by omega), if_neg (by omega), r13, Option.bind_some, show (200 : Int32) = nI 200 from rfl, mulN, addN, if_pos g56, nC (by omega), ec, Option.bind_some]
    rw [show (100000 : Int32) = nI 100000 from rfl, show (11 : Int32) = nI 11 from rfl, show (13 : Int32) = nI 13 from rfl, show (19 : Int32) = nI 19 from rfl, r37, r38]
    have next : ∀ (M1 : yM) (s1 : Sk), (∀ q, q ≠ 67 → M1 q = M q) → SR M1 67 s1 → s1 = ev1 nm (x.1 i) (d, g) → ∃ M', b_X8_says_16 K 50 (nI part) n M1 (nI s1.1) (nI (i + 1)) = some M' ∧ SR M' 67 (evR nm x.1 (f + 1) i (d, g)) ∧ ∀ q, q ≠ 67 → M' q = M q := by
      intro M1 s1 hM hS1 hs1
      have e1 : s1.1 = dep (x.1 i) d := by rw [hs1, ev1_d]
      have := dep_le (x.1 i) d
      obtain ⟨M', h1, h2, h3⟩ := ih n (i + 1) M1 s1 (by rw [hM 50 (by decide)]; exact h16) (hT.cg (hM 57 (by decide)) (hM 56 (by decide))) (fun j hj => by rw [hM 68 (by decide)]; exact hN j hj) hS1 (by omega) (by omega) (by omega) (by rw [e1]; exact hr)
      refine ⟨M', h1, ?_, fun q hq => by rw [h3 q hq, hM q hq]⟩
      rw [hs1] at h2
      exact h2
    generalize hc : x.1 i = c at ho hr next ⊢
    have hfr : ∀ (j : Nat) (v : Int32) (q : Nat), q ≠ 67 → yS M 67 j v q = M q := fun j v q hq => funext fun z => yS_op _ _ _ _ hq z
    rcases ho with ⟨h1, h2⟩ | h1 | ⟨h1, h2⟩ | ⟨h1, h2⟩
    · rw [iteLe (by omega) (by omega), if_pos h1, Option.bind_some, iteLe (by omega) (by omega), if_pos (by omega), subN (by omega), Option.bind_some, if_pos (g67 d (by omega)), nC (by omega), Option.bind_some, incN, Option.bind_some, incN, Option.bind_some]
      refine next _ (d + 1, va_up g d (nI (c - 100000))) (hfr _ _) (SR_put hS (by omega) d (by omega) (by omega)) ?_
      unfold ev1
      rw [if_pos h1]
    · rw [iteLe (by omega) (by omega), if_neg (by omega), iteLe (by omega) (by omega), if_neg (by omega), Option.bind_some, iteLe (by omega) (by omega), if_neg (by omega), Option.bind_some, if_pos (gA_N (hK.ar (n := 6) (by decide) rfl) h1 (by omega)), nC (by omega), hN c h1, Option.bind_some, if_pos (g67 d (by omega)), nC (by omega), Option.bind_some, incN, Option.bind_some, Option.bind_some, incN, Option.bind_some]
      refine next _ (d + 1, va_up g d (nm c)) (hfr _ _) (SR_put hS (by omega) d (by omega) (by omega)) ?_
      unfold ev1
      rw [if_neg (by omega), if_pos (by omega)]
    · have hM1 : M 67 (d - 1) = g (d - 1) := hS (d - 1) (by show d - 1 < d; omega)
      have es : nI d - (1 : Int32) = nI (d - 1) := subN (a := d) (b := 1) (by omega)
      rw [iteLe (by omega) (by omega), if_neg (by omega), iteLe (by omega) (by omega), if_pos (by omega), iteEq (by omega) (by omega), iteEq (by omega) (by omega)]
      rcases h1 with h1 | h1
      · rw [if_pos h1, Option.bind_some, es, if_pos (g67 _ (by omega)), nC (by omega), hM1]
        have ej : (if g (d - 1) = 0 then some true else some false : Option Bool) = some (decide (g (d - 1) = 0)) := by
          by_cases z : g (d - 1) = 0
          · rw [if_pos z, dc z]
          · rw [if_neg z, dcF z]
        rw [ej, Option.bind_some, Option.bind_some, Option.bind_some, incN, Option.bind_some]
        refine next _ (d, va_up g (d - 1) (bI (decide (g (d - 1) = 0)))) (hfr _ _) (SR_put hS (by omega) (d - 1) (by omega) (by omega)) ?_
        unfold ev1
        rw [if_neg (by omega), if_neg (by omega), if_pos h1]
        by_cases z : g (d - 1) = 0
        · simp only [z]; rfl
        · rw [dcF z]
          show (d, va_up g (d - 1) 0) = (d, va_up g (d - 1) (if g (d - 1) = 0 then 1 else 0))
          rw [if_neg z]
      · rw [if_neg (by omega), if_pos h1, Option.bind_some, es, if_pos (g67 _ (by omega)), nC (by omega), hM1, Option.bind_some, Option.bind_some, incN, Option.bind_some]
        refine next _ (d, va_up g (d - 1) (-(g (d - 1)))) (hfr _ _) (SR_put hS (by omega) (d - 1) (by omega) (by omega)) ?_
        unfold ev1
        rw [if_neg (by omega), if_neg (by omega), if_neg (by omega), if_pos h1]
    · have hM1 : M 67 (d - 1) = g (d - 1) := hS (d - 1) (by show d - 1 < d; omega)
      have hM2 : M 67 (d - 2) = g (d - 2) := hS (d - 2) (by show d - 2 < d; omega)
      have e1 : nI d + (-1 : Int32) = nI (d - 1) := by
        obtain ⟨z, rfl⟩ : ∃ z, d = z + 1 := ⟨d - 1, by omega⟩
        exact pk_m1 z
      have e2 : nI (d - 1) - (1 : Int32) = nI (d - 2) := subN (a := d - 1) (b := 1) (by omega)
      rw [iteLe (by omega) (by omega), if_neg (by omega), iteLe (by omega) (by omega), if_pos (by omega), iteEq (by omega) (by omega), if_neg (by omega), iteEq (by omega) (by omega), if_neg (by omega), e1, Option.bind_some, Option.bind_some, e2, if_pos (g67 _ (by omega)), if_pos (g67 _ (by omega)), nC (by omega), nC (by omega), hM1, hM2, q_two (by omega), Option.bind_some, Option.bind_some, Option.bind_some, incN, Option.bind_some]
      refine next _ (d - 1, va_up g (d - 2) (opF c (g (d - 2)) (g (d - 1)))) (hfr _ _) (SR_put hS (by omega) (d - 2) (by omega) (by omega)) ?_
      unfold ev1
      rw [if_neg (by omega), if_neg (by omega), if_neg (by omega), if_neg (by omega)]
theorem q_says {K : yK} {M : yM} {k part : Nat} {x : Tx} {nm : Nat → Int32} (hK : KSh K) (hk : k < 6) (hp : part < 3) (hx : TxW x) (h16 : M 50 16 = nI k) (hT : MT M k x) (hN : ∀ j, j < 6 → M 68 j = nm j) : ∃ M', b_X8_says K M 50 (nI part) = some (sayV x nm part, M') ∧ ∀ q, q ≠ 67 → M' q = M q := by
  have hb := hx.mono (p := part) (q := 3) (by omega) (by omega)
  have hb2 := hx.mono (p := part) (q := part + 1) (by omega) (by omega)
  have g57 : gA K 57 (nI (4 * k + part)) = true := gA_N (hK.ar (n := 24) (by decide) rfl) (by omega) (by omega)
  have g67 : gA K 67 (nI 0) = true := gA_N (hK.ar (n := 200) (by decide) rfl) (by omega) (by omega)
  obtain ⟨M', h1, h2, h3⟩ := q_says_loop hK hk hp hx (x.2 (part + 1) - x.2 part) 1000 (x.2 part) M (0, fun _ => 0) h16 hT hN (fun i hi => absurd hi (Nat.not_lt_zero _)) (by omega) (by omega) (Nat.zero_le _) (hx.2.2.2.2.2 part hp)
  refine ⟨M', ?_, h3⟩
  have hd := evR_d1 (nm := nm) (x.2 (part + 1) - x.2 part) (x.2 part) (0, fun _ => 0) (hx.2.2.2.2.2 part hp)
  have hz := h2 0 (by rw [hd]; decide)
  unfold b_X8_says
  rw [if_pos hK.mo, hK.mr (f := 14) rfl, Option.bind_some, h16, show (4 : Int32) = nI 4 from rfl, mulN, addN, if_pos g57, nC (by omega), hT.1 part (by omega), Option.bind_some]
  rw [show (0 : Int32) = nI 0 from rfl]
  rw [show b_X8_says_16 K 50 (nI part) 1000 M (nI 0) (nI (x.2 part)) = b_X8_says_16 K 50 (nI part) 1000 M (nI ((0, fun _ => (0 : Int32)) : Sk).1) (nI (x.2 part)) from rfl, h1, Option.bind_some, hK.mr (f := 37) rfl, Option.bind_some, if_pos g67, nC (by omega), hz]
  rfl
