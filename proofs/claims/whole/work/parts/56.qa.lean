/-! asked alone: count, told, needs, chain, rings, longest, taken -/
/-- two askings that answer alike -/
def AP {α : Type} (p q : Option α) : Prop := ∃ r, p = some r ∧ q = some r
theorem AP.of {α : Type} {p q : Option α} (h : p = q) (h2 : ∃ r, p = some r) : AP p q := ⟨h2.choose, h2.choose_spec, h ▸ h2.choose_spec⟩
theorem a_count {K : yK} {M : yM} {b ib : Bk} {im : Bool} {tn ts : Nat} {tx : Nat → Tx} {tp so : Nat → Int32} {sz : Nat → Nat} {ce : Nat → Nat → Int32} (h : IN K M b ib im tn ts tx tp so sz ce) (x1 : Int32) : AP (b_X7_count K M 0 x1) (b_X8_count K M 50 x1) := by
  obtain ⟨hK, hW, hd, hl, hT, hx, hB, hS, hXs, hX⟩ := h.cls
  obtain ⟨⟨b8, b9, b10, b11, b12, b13, b14, b15⟩, -, -⟩ := id hB
  obtain ⟨⟨m0, m4, m6, m7, m8, m9, m10, m16⟩, -, -⟩ := id h.2.2.1.1
  obtain ⟨c6, c7, -⟩ := h.2.1.2.2.1
  obtain ⟨d12, d15, -⟩ := h.2.2.2.2.1
  unfold b_X7_count b_X8_count
  simp only [hK.o0, hK.r00, hK.o7, hK.mo, if_true, Option.bind_some, b8, b9, b10, b11, b12, b13, b15, m0, m4, m6, m7, m8, m9, m16, c6, c7, d12, d15]
  exact AP.of rfl (by
    by_cases z0 : x1 = 0
    · exact ⟨_, if_pos z0⟩
    rw [if_neg z0]
    by_cases z1 : x1 = 1
    · exact ⟨_, if_pos z1⟩
    rw [if_neg z1]
    by_cases z2 : x1 = 2
    · exact ⟨_, if_pos z2⟩
    rw [if_neg z2]
    by_cases z3 : x1 = 3
    · exact ⟨_, if_pos z3⟩
    rw [if_neg z3]
    by_cases z4 : x1 = 4
    · exact ⟨_, if_pos z4⟩
    rw [if_neg z4]
    by_cases z5 : x1 = 5
    · exact ⟨_, if_pos z5⟩
    rw [if_neg z5]
    by_cases z6 : x1 = 6
    · exact ⟨_, if_pos z6⟩
    rw [if_neg z6]
    by_cases z7 : x1 = 7
    · exact ⟨_, if_pos z7⟩
    rw [if_neg z7]
    by_cases z8 : x1 = 8
    · exact ⟨_, if_pos z8⟩
    rw [if_neg z8]
    exact ⟨_, rfl⟩)
theorem t3 {w k : Nat} (hk : 2 ≤ k) : (3 : Int32) * nI w + nI k - 2 = nI (3 * w + (k - 2)) := by
  rw [show (3 : Int32) = nI 3 from rfl, mulN, addN, show (2 : Int32) = nI 2 from rfl, subN (by omega)]
  congr 1
  omega
theorem a_told {K : yK} {M : yM} {b ib : Bk} {im : Bool} {tn ts : Nat} {tx : Nat → Tx} {tp so : Nat → Int32} {sz : Nat → Nat} {ce : Nat → Nat → Int32} (h : IN K M b ib im tn ts tx tp so sz ce) (x1 x2 : Int32) : AP (b_X7_told K M 0 x1 x2) (b_X8_told K M 50 x1 x2) := by
  obtain ⟨hK, hW, hd, hl, hT, hx, hB, hS, hXs, hX⟩ := h.cls
  have h12 := hW.1.1
  have hQ := h.2.2.1
  have c_has := p_has hK iB7 hB.1.1 h12 x1
  have m_has := q_isEntry hK hQ.1.1.1 h12 x1
  have a51 : isAr K 51 12 := hK.ar (by decide) rfl
  have a52 : isAr K 52 12 := hK.ar (by decide) rfl
  have a53 : isAr K 53 36 := hK.ar (by decide) rfl
  unfold b_X7_told b_X8_told
  rw [if_pos hK.o0, hK.r00, Option.bind_some, if_pos hK.o7, c_has, Option.bind_some, if_pos hK.mo, m_has, Option.bind_some]
  by_cases c : isN x1 (bE b) = true
  · obtain ⟨w, hw, rfl⟩ := isN_of c
    obtain ⟨e1, e2, e3, e4, e5⟩ := hB.2.1 w hw
    obtain ⟨g1, g2, g3, g4, g5⟩ := hQ.1.2.1 w hw
    obtain ⟨v1, v2, -⟩ := hW.1.2.1 w hw
    have ga : ∀ f, f < 5 → gA K (7 + 1 + f) (nI w) = true := fun f hf => gA_N (hK.ba iB7 hf) (by omega) (by omega)
    rw [if_pos c, if_pos c, nC (by omega)]
    by_cases z0 : x2 = 0
    · subst z0
      refine ⟨nI (bK b w), ?_, ?_⟩
      · rw [if_pos rfl, hK.br iB7 (f := 0) (by omega), Option.bind_some, if_pos (ga 0 (by omega))]; exact congrArg some e1
      · rw [if_pos rfl, hK.mr (f := 1) rfl, Option.bind_some, if_pos (gA_N a51 (by omega) (by omega)), g1]
    by_cases z1 : x2 = 1
    · subst z1
      refine ⟨nI (bM b w), ?_, ?_⟩
      · rw [if_neg z0, if_pos rfl, hK.br iB7 (f := 1) (by omega), Option.bind_some, if_pos (ga 1 (by omega))]; exact congrArg some e2
      · rw [if_neg z0, if_pos rfl, hK.mr (f := 2) rfl, Option.bind_some, if_pos (gA_N a52 (by omega) (by omega)), g2]
    by_cases z2 : x2 = 2
    · subst z2
      refine ⟨nI (bZ b w), ?_, ?_⟩
      · rw [if_neg z0, if_neg z1, if_pos rfl, hK.br iB7 (f := 2) (by omega), Option.bind_some, if_pos (ga 2 (by omega))]; exact congrArg some e3
      · rw [if_neg z0, if_neg z1, if_pos rfl, hK.mr (f := 3) rfl, Option.bind_some, show (3 : Int32) * nI w + 2 - 2 = nI (3 * w + 0) from t3 (k := 2) (by omega), if_pos (gA_N a53 (by omega) (by omega)), nC (by omega)]
        exact congrArg some g3
    by_cases z3 : x2 = 3
    · subst z3
      refine ⟨bT b w, ?_, ?_⟩
      · rw [if_neg z0, if_neg z1, if_neg z2, if_pos rfl, hK.br iB7 (f := 3) (by omega), Option.bind_some, if_pos (ga 3 (by omega))]; exact congrArg some e4
      · rw [if_neg z0, if_neg z1, if_neg z2, if_pos rfl, hK.mr (f := 3) rfl, Option.bind_some, show (3 : Int32) * nI w + 3 - 2 = nI (3 * w + 1) from t3 (k := 3) (by omega), if_pos (gA_N a53 (by omega) (by omega)), nC (by omega)]
        exact congrArg some g4
    by_cases z4 : x2 = 4
    · subst z4
      refine ⟨bR b w, ?_, ?_⟩
      · rw [if_neg z0, if_neg z1, if_neg z2, if_neg z3, if_pos rfl, hK.br iB7 (f := 4) (by omega), Option.bind_some, if_pos (ga 4 (by omega))]; exact congrArg some e5
      · rw [if_neg z0, if_neg z1, if_neg z2, if_neg z3, if_pos rfl, hK.mr (f := 3) rfl, Option.bind_some, show (3 : Int32) * nI w + 4 - 2 = nI (3 * w + 2) from t3 (k := 4) (by omega), if_pos (gA_N a53 (by omega) (by omega)), nC (by omega)]
        exact congrArg some g5
    by_cases z5 : x2 = 5
    · subst z5
      refine ⟨nI (tkB b w), ?_, ?_⟩
      · rw [if_neg z0, if_neg z1, if_neg z2, if_neg z3, if_neg z4, if_pos rfl, p_takesOf hK iB7 hW.1 hB.be hw, Option.bind_some]
      · rw [if_neg z0, if_neg z1, if_neg z2, if_neg z3, if_neg z4, if_pos rfl, q_takesOf hK hW.1 hQ.1.me hw, Option.bind_some]
    by_cases z6 : x2 = 6
    · subst z6
      refine ⟨nI (fsB b w), ?_, ?_⟩
      · rw [if_neg z0, if_neg z1, if_neg z2, if_neg z3, if_neg z4, if_neg z5, if_pos rfl, hK.br iB7 (f := 5) (by omega), Option.bind_some, if_pos (gA_N (hK.b6 iB7) (by omega) (by omega))]
        exact congrArg some (hS.1 w (by omega))
      · rw [if_neg z0, if_neg z1, if_neg z2, if_neg z3, if_neg z4, if_neg z5, if_pos rfl, q_firstPage hK hW.1 hQ.1.me (by omega), Option.bind_some]
    by_cases z7 : x2 = 7
    · subst z7
      refine ⟨if ndF (bK b w) = true then 1 else 0, ?_, ?_⟩
      · rw [if_neg z0, if_neg z1, if_neg z2, if_neg z3, if_neg z4, if_neg z5, if_neg z6, if_pos rfl, hK.br iB7 (f := 0) (by omega), Option.bind_some, if_pos (ga 0 (by omega)), show M (7 + 1 + 0) w = nI (bK b w) from e1, p_needsNext v1, Option.bind_some]
        cases ndF (bK b w) <;> rfl
      · rw [if_neg z0, if_neg z1, if_neg z2, if_neg z3, if_neg z4, if_neg z5, if_neg z6, if_pos rfl, q_needsOn hK hW.1 hQ.1.me hw, Option.bind_some]
        cases ndF (bK b w) <;> rfl
    refine ⟨-7, ?_, ?_⟩
    · rw [if_neg z0, if_neg z1, if_neg z2, if_neg z3, if_neg z4, if_neg z5, if_neg z6, if_neg z7]
    · rw [if_neg z0, if_neg z1, if_neg z2, if_neg z3, if_neg z4, if_neg z5, if_neg z6, if_neg z7]
  · rw [if_neg c, if_neg c]
    exact ⟨_, rfl, rfl⟩
theorem a_needs {K : yK} {M : yM} {b ib : Bk} {im : Bool} {tn ts : Nat} {tx : Nat → Tx} {tp so : Nat → Int32} {sz : Nat → Nat} {ce : Nat → Nat → Int32} (h : IN K M b ib im tn ts tx tp so sz ce) (x1 : Int32) : AP (b_X7_needs K M 0 x1) (b_X8_needs K M 50 x1) := by
  obtain ⟨hK, hW, hd, hl, hT, hx, hB, hS, hXs, hX⟩ := h.cls
  have h6 := hW.1.2.2.1
  have hQ := h.2.2.1
  unfold b_X7_needs b_X8_needs
  rw [if_pos hK.o0, hK.r00, Option.bind_some, if_pos hK.o7, p_hasDeed hK iB7 hB.1.2.1 h6 x1, Option.bind_some, if_pos hK.mo, q_isDeed hK hQ.1.1.2.1 (show bDn b ≤ 12 by omega) x1, Option.bind_some]
  by_cases c : isN x1 (bDn b) = true
  · obtain ⟨d, hd, rfl⟩ := isN_of c
    refine ⟨bDs b d, ?_, ?_⟩
    · rw [if_pos c, hK.br iB7 (f := 7) (by omega), Option.bind_some, if_pos (gA_N (hK.b8 iB7) (by omega) (by omega)), nC (by omega)]
      exact congrArg some (hB.2.2 d hd)
    · rw [if_pos c, hK.mr (f := 5) rfl, Option.bind_some, if_pos (gA_N (hK.ar (p := 54) (n := 6) (by decide) rfl) (by omega) (by omega)), nC (by omega)]
      exact congrArg some (hQ.1.2.2 d hd)
  · rw [if_neg c, if_neg c]
    exact ⟨_, rfl, rfl⟩
theorem a_chain {K : yK} {M : yM} {b ib : Bk} {im : Bool} {tn ts : Nat} {tx : Nat → Tx} {tp so : Nat → Int32} {sz : Nat → Nat} {ce : Nat → Nat → Int32} (h : IN K M b ib im tn ts tx tp so sz ce) (x1 : Int32) : AP (b_X7_chain K M 0 x1) (b_X8_chain K M 50 x1) := by
  obtain ⟨hK, hW, hd, hl, hT, hx, hB, hS, hXs, hX⟩ := h.cls
  have h12 := hW.1.1
  have hQ := h.2.2.1
  unfold b_X7_chain b_X8_chain
  rw [if_pos hK.o0, hK.r00, Option.bind_some, if_pos hK.o7, p_has hK iB7 hB.1.1 h12 x1, Option.bind_some, if_pos hK.mo, q_isEntry hK hQ.1.1.1 h12 x1, Option.bind_some]
  by_cases c : isN x1 (bE b) = true
  · obtain ⟨w, hw, rfl⟩ := isN_of c
    refine ⟨chB b w, ?_, ?_⟩
    · rw [if_pos c, hK.br iB7 (f := 6) (by omega), Option.bind_some, if_pos (gA_N (hK.b7 iB7) (by omega) (by omega)), nC (by omega)]
      exact congrArg some (hS.2 w hw)
    · rw [if_pos c, q_chainOf hK hW.1 hQ.1.me hw, Option.bind_some]
  · rw [if_neg c, if_neg c]
    exact ⟨_, rfl, rfl⟩
/-! rings -/
def rgC (b : Bk) (w : Nat) : Nat → Int32 → Bool
  | 0, _ => false
  | f + 1, a => if isN a (bE b) = true then (if bT b a.toNatClampNeg = nI w then true else rgC b w f (bT b a.toNatClampNeg)) else false
def rgM (b : Bk) (w : Nat) : Nat → Int32 → Bool
  | 0, _ => false
  | f + 1, a => if isN a (bE b) = true then (if a = nI w then true else rgM b w f (bT b a.toNatClampNeg)) else false
theorem rg_eq {b : Bk} {w : Nat} (hw : w < bE b) (he : bE b ≤ 12) : ∀ (f : Nat) (a : Int32), isN a (bE b) = true → rgC b w f a = rgM b w f (bT b a.toNatClampNeg)
  | 0, _, _ => rfl
  | f + 1, a, ha => by
    rw [rgC, rgM, if_pos ha]
    by_cases z : bT b a.toNatClampNeg = nI w
    · rw [if_pos z, z, if_pos (isN_at hw (by omega)), if_pos rfl]
    · rw [if_neg z]
      by_cases y : isN (bT b a.toNatClampNeg) (bE b) = true
      · rw [if_pos y, if_neg z]
        exact rg_eq hw he f _ y
      · rw [if_neg y]
        cases f with
        | zero => rfl
        | succ f => rw [rgC, if_neg y]
theorem p_ring {K : yK} {M : yM} {t w : Nat} {b : Bk} (hK : KSh K) (ht : isB t) (hW : WB b) (hB : BR M t b) : ∀ (f n i : Nat) (a : Int32), i + f = 12 → f < n → (Option.bind (b_X0_sendsToItself_4 K M t (nI w) n a (nI i)) fun x9 => Sum.elim (fun j1 => (some false)) (fun r9 => (some r9)) x9) = some (rgC b w f a) := by
  have h12 := hW.1
  intro f
  induction f with
  | zero =>
    intro n i a hi hn
    obtain ⟨n, rfl⟩ : ∃ k, n = k + 1 := ⟨n - 1, by omega⟩
    rw [b_X0_sendsToItself_4, show (12 : Int32) = nI 12 from rfl, iteLe (by omega) (by omega), if_pos (by omega), Option.bind_some]
    rfl
  | succ f ih =>
    intro n i a hi hn
    obtain ⟨n, rfl⟩ : ∃ k, n = k + 1 := ⟨n - 1, by omega⟩
    rw [b_X0_sendsToItself_4, show (12 : Int32) = nI 12 from rfl, iteLe (by omega) (by omega), if_neg (by omega), if_pos (hK.bo ht), p_has hK ht hB.1.1 h12, Option.bind_some, rgC]
    by_cases c : isN a (bE b) = true
    · obtain ⟨v, hv, rfl⟩ := isN_of c
      have e4 : M (t + 1 + 3) v = bT b v := (hB.2.1 v hv).2.2.2.1
      rw [if_pos c, if_pos c, hK.br (f := 3) ht (by omega), Option.bind_some, if_pos (gA_N (hK.ba (f := 3) ht (by omega)) (by omega) (by omega)), nC (by omega), e4, Option.bind_some]
      by_cases z : bT b v = nI w
      · rw [if_pos z, if_pos z, Option.bind_some]; rfl
      · rw [if_neg z, if_neg z, incN, Option.bind_some]
        exact ih n (i + 1) _ (by omega) (by omega)
    · rw [if_neg c, if_neg c, Option.bind_some]
      rfl
theorem q_ring {K : yK} {M : yM} {w : Nat} {b : Bk} (hK : KSh K) (hW : WB b) (hB : MR M b) : ∀ (f n i : Nat) (a : Int32), i + f = 12 → f < n → (Option.bind (b_X8_comesToItself_13 K M 50 (nI w) n a (nI i)) fun x9 => Sum.elim (fun j5 => (some false)) (fun r9 => (some r9)) x9) = some (rgM b w f a) := by
  have h12 := hW.1
  intro f
  induction f with
  | zero =>
    intro n i a hi hn
    obtain ⟨n, rfl⟩ : ∃ k, n = k + 1 := ⟨n - 1, by omega⟩
    rw [b_X8_comesToItself_13, show (12 : Int32) = nI 12 from rfl, iteLe (by omega) (by omega), if_pos (by omega), Option.bind_some]
    rfl
  | succ f ih =>
    intro n i a hi hn
    obtain ⟨n, rfl⟩ : ∃ k, n = k + 1 := ⟨n - 1, by omega⟩
    rw [b_X8_comesToItself_13, show (12 : Int32) = nI 12 from rfl, iteLe (by omega) (by omega), if_neg (by omega), if_pos hK.mo, q_isEntry hK hB.1.1 h12, Option.bind_some, rgM]
    by_cases c : isN a (bE b) = true
    · rw [if_pos c, if_pos c]
      by_cases z : a = nI w
      · rw [if_pos z, if_pos z, Option.bind_some]; rfl
      · obtain ⟨v, hv, rfl⟩ := isN_of c
        have e3 : (3 : Int32) * nI v + 1 = nI (3 * v + 1) := by rw [show (3 : Int32) = nI 3 from rfl, mulN, incN]
        rw [if_neg z, if_neg z, hK.mr (f := 3) rfl, Option.bind_some, e3, if_pos (gA_N (hK.ar (p := 53) (n := 36) (by decide) rfl) (by omega) (by omega)), nC (by omega), (hB.2.1 v hv).2.2.2.1, Option.bind_some, incN, Option.bind_some, nC (by omega)]
        exact ih n (i + 1) _ (by omega) (by omega)
    · rw [if_neg c, if_neg c, Option.bind_some]
      rfl
def rgB (b : Bk) (w : Nat) : Bool := rgC b w 12 (nI w)
theorem p_sends {K : yK} {M : yM} {t w : Nat} {b : Bk} (hK : KSh K) (ht : isB t) (hW : WB b) (hB : BR M t b) : b_X0_sendsToItself K M t (nI w) = some (rgB b w) := p_ring hK ht hW hB 12 1000 0 (nI w) (by omega) (by omega)
theorem q_comes {K : yK} {M : yM} {w : Nat} {b : Bk} (hK : KSh K) (hW : WB b) (hB : MR M b) (hw : w < bE b) : b_X8_comesToItself K M 50 (nI w) = some (rgB b w) := by
  have h12 := hW.1
  have e3 : (3 : Int32) * nI w + 1 = nI (3 * w + 1) := by rw [show (3 : Int32) = nI 3 from rfl, mulN, incN]
  unfold b_X8_comesToItself rgB
  rw [if_pos hK.mo, hK.mr (f := 3) rfl, Option.bind_some, e3, if_pos (gA_N (hK.ar (p := 53) (n := 36) (by decide) rfl) (by omega) (by omega)), nC (by omega), (hB.2.1 w hw).2.2.2.1, Option.bind_some, rg_eq hw h12 12 (nI w) (isN_at hw (by omega)), nC (by omega)]
  exact q_ring hK hW hB 12 1000 0 (bT b w) (by omega) (by omega)
theorem a_rings {K : yK} {M : yM} {b ib : Bk} {im : Bool} {tn ts : Nat} {tx : Nat → Tx} {tp so : Nat → Int32} {sz : Nat → Nat} {ce : Nat → Nat → Int32} (h : IN K M b ib im tn ts tx tp so sz ce) : AP (b_X7_rings K M 0) (b_X8_rings K M 50) := by
  obtain ⟨hK, hW, hd, hl, hT, hx, hB, hS, hXs, hX⟩ := h.cls
  have h12 := hW.1.1
  have hQ := h.2.2.1.1
  have p1 : ∀ (f n k : Nat), k + f = bE b → f < n → b_X7_rings_4 K M 0 n (ftF (rgB b) k) (nI k) = some (ftF (rgB b) (bE b)) := by
    intro f
    induction f with
    | zero =>
      intro n k hk hn
      obtain ⟨n, rfl⟩ : ∃ z, n = z + 1 := ⟨n - 1, by omega⟩
      obtain rfl : k = bE b := by omega
      rw [b_X7_rings_4, if_pos hK.o0, hK.r00, Option.bind_some, if_pos hK.o7, hB.1.1, iteLe (by omega) (by omega), if_pos (Nat.le_refl _)]
    | succ f ih =>
      intro n k hk hn
      obtain ⟨n, rfl⟩ : ∃ z, n = z + 1 := ⟨n - 1, by omega⟩
      rw [b_X7_rings_4, if_pos hK.o0, hK.r00, Option.bind_some, if_pos hK.o7, hB.1.1, iteLe (by omega) (by omega), if_neg (by omega), p_sends hK iB7 hW.1 hB, Option.bind_some]
      have e : (if rgB b k = true then (Option.bind (some (ftF (rgB b) k ||| ((1 : Int32) <<< (nI k &&& 31)))) fun v8 => (some v8)) else (some (ftF (rgB b) k))) = some (ftF (rgB b) (k + 1)) := by
        rw [ftF]
        by_cases z : rgB b k = true
        · rw [if_pos z, if_pos z, Option.bind_some]
        · rw [if_neg z, if_neg z]
      rw [e, Option.bind_some, incN, Option.bind_some]
      exact ih n (k + 1) (by omega) (by omega)
  have p2 : ∀ (f n k : Nat), k + f = bE b → f < n → b_X8_rings_4 K M 50 n (ftF (rgB b) k) (nI k) = some (ftF (rgB b) (bE b)) := by
    intro f
    induction f with
    | zero =>
      intro n k hk hn
      obtain ⟨n, rfl⟩ : ∃ z, n = z + 1 := ⟨n - 1, by omega⟩
      obtain rfl : k = bE b := by omega
      rw [b_X8_rings_4, if_pos hK.mo, hQ.1.1, iteLe (by omega) (by omega), if_pos (Nat.le_refl _)]
    | succ f ih =>
      intro n k hk hn
      obtain ⟨n, rfl⟩ : ∃ z, n = z + 1 := ⟨n - 1, by omega⟩
      obtain ⟨j, e1, e2⟩ := ft_j (rgB b) k (C := rgB b k = true) (by cases rgB b k <;> rfl)
      rw [b_X8_rings_4, if_pos hK.mo, hQ.1.1, iteLe (by omega) (by omega), if_neg (by omega), q_comes hK hW.1 hQ (by omega), Option.bind_some, e1, Option.bind_some, e2, Option.bind_some, incN, Option.bind_some]
      exact ih n (k + 1) (by omega) (by omega)
  refine ⟨ftF (rgB b) (bE b), ?_, ?_⟩
  · unfold b_X7_rings
    rw [show b_X7_rings_4 K M 0 1000 0 0 = _ from p1 (bE b) 1000 0 (by omega) (by omega), Option.bind_some]
  · unfold b_X8_rings
    rw [show b_X8_rings_4 K M 50 1000 0 0 = _ from p2 (bE b) 1000 0 (by omega) (by omega), Option.bind_some]
/-! longest -/
theorem chF_bB {b : Bk} (h12 : bE b ≤ 12) : ∀ (n : Nat) (a s : Int32), bB s 12 → bB (chF b n a s) 12
  | 0, _, _, h => h
  | n + 1, a, s, h => by
    rw [chF]
    by_cases c : isN a (bE b) = true ∧ bit s a.toNatClampNeg = 0
    · rw [if_pos c]
      obtain ⟨v, hv, rfl⟩ := isN_of c.1
      rw [nC (by omega)]
      exact chF_bB h12 n _ _ (bB_or h (bB_sh1 (by omega) (by omega)))
    · rw [if_neg c]; exact h
theorem chB_bB {b : Bk} (h12 : bE b ≤ 12) (w : Nat) : ∃ j, j < 4096 ∧ chB b w = nI j := bB_nI (chF_bB h12 12 (nI w) 0 (bB_0 12)) (by omega)
theorem a_longest {K : yK} {M : yM} {b ib : Bk} {im : Bool} {tn ts : Nat} {tx : Nat → Tx} {tp so : Nat → Int32} {sz : Nat → Nat} {ce : Nat → Nat → Int32} (h : IN K M b ib im tn ts tx tp so sz ce) (x1 : Int32) : AP (b_X7_longest K M 0 x1) (b_X8_longest K M 50 x1) := by
  obtain ⟨hK, hW, hd, hl, hT, hx, hB, hS, hXs, hX⟩ := h.cls
  have h12 := hW.1.1
  have hQ := h.2.2.1.1
  have p1 : ∀ (f n k : Nat) (a m : Int32), k + f = bE b → f < n → b_X7_longest_17 K M 0 x1 n a m (nI k) = some (beF (fun k => onesF (chB b k) 12) nI f k a m) := by
    intro f
    induction f with
    | zero =>
      intro n k a m hk hn
      obtain ⟨n, rfl⟩ : ∃ z, n = z + 1 := ⟨n - 1, by omega⟩
      rw [b_X7_longest_17, if_pos hK.o0, hK.r00, Option.bind_some, if_pos hK.o7, hB.1.1, iteLe (by omega) (by omega), if_pos (by omega)]
      rfl
    | succ f ih =>
      intro n k a m hk hn
      obtain ⟨n, rfl⟩ : ∃ z, n = z + 1 := ⟨n - 1, by omega⟩
      obtain ⟨j, hj, ej⟩ := chB_bB h12 k
      have e1 : M (7 + 1 + 6) k = chB b k := hS.2 k (by omega)
      rw [b_X7_longest_17, if_pos hK.o0, hK.r00, Option.bind_some, if_pos hK.o7, hB.1.1, iteLe (by omega) (by omega), if_neg (by omega), hK.br (f := 6) iB7 (by omega), Option.bind_some, if_pos (gA_N (hK.b7 iB7) (by omega) (by omega)), nC (by omega), e1, ej, p_bitCount hj, Option.bind_some, ← ej, beF]
      by_cases z : onesF (chB b k) 12 ≤ m
      · rw [if_pos z, if_pos z, Option.bind_some, incN, Option.bind_some]
        exact ih n (k + 1) a m (by omega) (by omega)
      · rw [if_neg z, if_neg z, Option.bind_some, incN, Option.bind_some]
        exact ih n (k + 1) (nI k) _ (by omega) (by omega)
  have p2 : ∀ (f n k : Nat) (a m : Int32), k + f = bE b → f < n → b_X8_longest_19 K M 50 x1 n a m (nI k) = some (beF (fun k => onesF (chB b k) 12) nI f k a m) := by
    intro f
    induction f with
    | zero =>
      intro n k a m hk hn
      obtain ⟨n, rfl⟩ : ∃ z, n = z + 1 := ⟨n - 1, by omega⟩
      rw [b_X8_longest_19, if_pos hK.mo, hQ.1.1, iteLe (by omega) (by omega), if_pos (by omega)]
      rfl
    | succ f ih =>
      intro n k a m hk hn
      obtain ⟨n, rfl⟩ : ∃ z, n = z + 1 := ⟨n - 1, by omega⟩
      rw [b_X8_longest_19, if_pos hK.mo, hQ.1.1, iteLe (by omega) (by omega), if_neg (by omega), q_chainOf hK hW.1 hQ.me (by omega), Option.bind_some, q_ones, Option.bind_some, beF]
      by_cases z : onesF (chB b k) 12 ≤ m
      · rw [if_pos z, if_pos z, if_pos z, Option.bind_some, Option.bind_some, incN, Option.bind_some]
        exact ih n (k + 1) a m (by omega) (by omega)
      · rw [if_neg z, if_neg z, if_neg z, Option.bind_some, Option.bind_some, incN, Option.bind_some]
        exact ih n (k + 1) (nI k) _ (by omega) (by omega)
  unfold b_X7_longest b_X8_longest
  rw [c_zo, Option.bind_some, q_in, Option.bind_some, show b_X7_longest_17 K M 0 x1 1000 (-1) (-1) 0 = _ from p1 (bE b) 1000 0 (-1) (-1) (by omega) (by omega), show b_X8_longest_19 K M 50 x1 1000 (-1) (-1) 0 = _ from p2 (bE b) 1000 0 (-1) (-1) (by omega) (by omega)]
  refine AP.of rfl ?_
  by_cases c : 0 ≤ x1 ∧ x1 ≤ 1
  · rw [ifd c, Option.bind_some]
    by_cases d : x1 = 0
    · exact ⟨_, if_pos d⟩
    · exact ⟨_, if_neg d⟩
  · exact ⟨_, ifn c _ _⟩
