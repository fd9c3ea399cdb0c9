theorem leN {a b : Nat} (ha : a < 2147483648) (hb : b < 2147483648) : (nI a ≤ nI b) = (a ≤ b) := propext (nI_leI (by omega) (by omega))
theorem ltN {a b : Nat} (ha : a < 2147483648) (hb : b < 2147483648) : (nI a < nI b) = (a < b) := propext (nI_ltI (by omega) (by omega))
theorem eqN {a b : Nat} (ha : a < 2147483648) (hb : b < 2147483648) : (nI a = nI b) = (a = b) := propext (nI_eq (by omega) (by omega))
theorem iteLe {a b : Nat} {α : Type} {x y : α} (ha : a < 2147483648) (hb : b < 2147483648) : (if nI a ≤ nI b then x else y) = if a ≤ b then x else y := by
  by_cases h : a ≤ b
  · rw [if_pos h, if_pos (by rw [leN ha hb]; exact h)]
  · rw [if_neg h, if_neg (by rw [leN ha hb]; exact h)]
theorem iteLt {a b : Nat} {α : Type} {x y : α} (ha : a < 2147483648) (hb : b < 2147483648) : (if nI a < nI b then x else y) = if a < b then x else y := by
  by_cases h : a < b
  · rw [if_pos h, if_pos (by rw [ltN ha hb]; exact h)]
  · rw [if_neg h, if_neg (by rw [ltN ha hb]; exact h)]
theorem iteEq {a b : Nat} {α : Type} {x y : α} (ha : a < 2147483648) (hb : b < 2147483648) : (if nI a = nI b then x else y) = if a = b then x else y := by
  by_cases h : a = b
  · rw [if_pos h, if_pos (by rw [eqN ha hb]; exact h)]
  · rw [if_neg h, if_neg (by rw [eqN ha hb]; exact h)]
theorem addN (a b : Nat) : nI a + nI b = nI (a + b) := nI_add a b
theorem subN {a b : Nat} (h : b ≤ a) : nI a - nI b = nI (a - b) := pk_sub h
theorem divN {a d : Nat} (ha : a < 2147483648) (h0 : 0 < d) (hd : d < 2147483648) : nI a / nI d = nI (a / d) := pk_div (by omega) h0 (by omega)
theorem remN {a d : Nat} (ha : a < 2147483648) (h0 : 0 < d) (hd : d < 2147483648) : nI a - nI a / nI d * nI d = nI (a % d) := pk_rem (by omega) h0 (by omega)
theorem incN (a : Nat) : nI a + (1 : Int32) = nI (a + 1) := nI_1 a
theorem dc {p : Prop} [Decidable p] (h : p) : decide p = true := decide_eq_true h
theorem dcF {p : Prop} [Decidable p] (h : ¬ p) : decide p = false := decide_eq_false h
theorem p_has {K : yK} {M : yM} {t e : Nat} (hK : KSh K) (ht : isB t) (h8 : M t 8 = nI e) (hE : e ≤ 12) (x : Int32) : b_X0_has K M t x = some (isN x e) := by
  unfold b_X0_has
  by_cases h : x < 0
  · rw [if_pos h, isN_neg h]
  · obtain ⟨j, hj, rfl⟩ := nI_of h
    rw [if_neg h, if_pos (hK.bo ht), h8, iteLe (by omega) hj, isN_nI hj]
    by_cases c : e ≤ j
    · rw [if_pos c, dcF (by omega)]
    · rw [if_neg c, show (12 : Int32) = nI 12 from rfl, iteLe (by omega) hj, if_neg (by omega), dc (by omega)]
theorem isN_at {j e : Nat} (h : j < e) (he : e ≤ 1000) : isN (nI j) e = true := by rw [isN_nI (by omega)]; exact dc h
/-! kinds -/
def isAb (k o : Nat) : Bool := if o = 0 then true else if k = o then true else if o = 1 then decide (k = 3) else if o = 2 then decide (k = 4) else false
theorem p_isA {K : yK} {M : yM} {k o : Nat} (hk : k < 6) (ho : o < 8) : b_X2_isA K M (nI k) (nI o) = some (isAb k o) := by
  rcases (show k = 0 ∨ k = 1 ∨ k = 2 ∨ k = 3 ∨ k = 4 ∨ k = 5 by omega) with rfl | rfl | rfl | rfl | rfl | rfl <;>
  rcases (show o = 0 ∨ o = 1 ∨ o = 2 ∨ o = 3 ∨ o = 4 ∨ o = 5 ∨ o = 6 ∨ o = 7 by omega) with rfl | rfl | rfl | rfl | rfl | rfl | rfl | rfl <;> rfl
theorem isAb_2 {k : Nat} (hk : k < 6) : isAb k 2 = !(ndF k) := by
  rcases (show k = 0 ∨ k = 1 ∨ k = 2 ∨ k = 3 ∨ k = 4 ∨ k = 5 by omega) with rfl | rfl | rfl | rfl | rfl | rfl <;> rfl
theorem p_needsNext {K : yK} {M : yM} {k : Nat} (hk : k < 6) : b_X2_needsNext K M (nI k) = some (ndF k) := by
  unfold b_X2_needsNext
  rw [show (2 : Int32) = nI 2 from rfl, p_isA hk (by omega), Option.bind_some, isAb_2 hk]
  cases ndF k <;> rfl
theorem p_takes {K : yK} {M : yM} {k m s : Nat} (hk : k < 6) (hm : m < 10) (hs : s ≤ 60) : b_X2_takes K M (nI k) (nI m) (nI s) = some (nI (tkF k m s)) := by
  unfold b_X2_takes tkF
  rw [show (2 : Int32) = nI 2 from rfl, p_isA hk (by omega), Option.bind_some, isAb_2 hk, show (3 : Int32) = nI 3 from rfl, divN (by omega) (by omega) (by omega), addN]
  rw [show (5 : Int32) = nI 5 from rfl, divN (by omega) (by omega) (by omega), show (1 : Int32) = nI 1 from rfl]
  unfold ndF
  by_cases h : k = 2 ∨ k = 4
  · rw [dcF (by omega), if_pos (by rfl), if_pos h]
  · rw [dc (by omega), if_neg (by decide), if_neg h, iteEq (by omega) (by omega)]
    by_cases h5 : k = 5
    · rw [if_pos h5, if_pos h5, iteLt (by omega) (by omega)]
      by_cases c : 1 < s / 2
      · rw [if_pos c, if_neg (by omega)]
      · rw [if_neg c]
        by_cases c2 : s / 2 < 1
        · rw [if_pos c2]
        · rw [if_neg c2, show s / 2 = 1 by omega]
    · rw [if_neg h5, if_neg h5]
/-- what the ENTRIES of a Book hold -/
def BE (M : yM) (t : Nat) (b : Bk) : Prop := M t 8 = nI (bE b) ∧ ∀ w, w < bE b → M (t + 1) w = nI (bK b w) ∧ M (t + 2) w = nI (bM b w) ∧ M (t + 3) w = nI (bZ b w) ∧ M (t + 4) w = bT b w
theorem BR.be {M : yM} {t : Nat} {b : Bk} (h : BR M t b) : BE M t b := ⟨h.1.1, fun w hw => ⟨(h.2.1 w hw).1, (h.2.1 w hw).2.1, (h.2.1 w hw).2.2.1, (h.2.1 w hw).2.2.2.1⟩⟩
theorem p_takesOf {K : yK} {M : yM} {t w : Nat} {b : Bk} (hK : KSh K) (ht : isB t) (hW : WB b) (hB : BE M t b) (hw : w < bE b) : b_X0_takesOf K M t (nI w) = some (nI (tkB b w)) := by
  obtain ⟨h12, hv, -⟩ := id hW
  obtain ⟨v1, v2, v3, v4, -⟩ := hv w hw
  obtain ⟨e1, e2, e3, e4⟩ := hB.2 w hw
  unfold b_X0_takesOf
  have g0 : gA K (t + 1) (nI w) = true := gA_N (hK.ba (f := 0) ht (by omega)) (by omega) (by omega)
  have g1 : gA K (t + 2) (nI w) = true := gA_N (hK.ba (f := 1) ht (by omega)) (by omega) (by omega)
  have g2 : gA K (t + 3) (nI w) = true := gA_N (hK.ba (f := 2) ht (by omega)) (by omega) (by omega)
  rw [if_pos (hK.bo ht), p_has hK ht hB.1 h12, Option.bind_some, isN_at hw (by omega), if_pos rfl, hK.br (f := 0) ht (by omega), Option.bind_some, if_pos g0, hK.br (f := 1) ht (by omega), Option.bind_some, if_pos g1, hK.br (f := 2) ht (by omega), Option.bind_some, if_pos g2, nC (by omega)]
  show Option.bind (b_X2_takes K M (M (t + 1) w) (M (t + 2) w) (M (t + 3) w)) _ = _
  rw [e1, e2, e3, p_takes v1 v2 v4]
  rfl
/-! the way of definitions -/
theorem p_chainOf_loop {K : yK} {M : yM} {t : Nat} {b : Bk} (hK : KSh K) (ht : isB t) (hW : WB b) (hB : BE M t b) : ∀ (f n i : Nat) (at' s : Int32), i + f = 12 → f < n → b_X0_chainOf_7 K M t n s at' (nI i) = some (chF b f at' s) := by
  obtain ⟨h12, hv, -⟩ := id hW
  intro f
  induction f with
  | zero =>
    intro n i at' s hi hn
    obtain ⟨n, rfl⟩ : ∃ k, n = k + 1 := ⟨n - 1, by omega⟩
    rw [b_X0_chainOf_7, show (12 : Int32) = nI 12 from rfl, iteLe (by omega) (by omega), if_pos (by omega)]
    rfl
  | succ f ih =>
    intro n i at' s hi hn
    obtain ⟨n, rfl⟩ : ∃ k, n = k + 1 := ⟨n - 1, by omega⟩
    rw [b_X0_chainOf_7, show (12 : Int32) = nI 12 from rfl, iteLe (by omega) (by omega), if_neg (by omega), if_pos (hK.bo ht), p_has hK ht hB.1 h12, Option.bind_some, chF]
    by_cases c : isN at' (bE b) = true
    · obtain ⟨w, hw, rfl⟩ := isN_of c
      obtain ⟨v1, v2, v3, v4, -⟩ := hv w hw
      obtain ⟨e1, e2, e3, e4⟩ := hB.2 w hw
      have g0 : gA K (t + 1) (nI w) = true := gA_N (hK.ba (f := 0) ht (by omega)) (by omega) (by omega)
      have g3 : gA K (t + 4) (nI w) = true := gA_N (hK.ba (f := 3) ht (by omega)) (by omega) (by omega)
      rw [c, if_pos rfl, nC (by omega)]
      by_cases d : bit s w = 0
      · rw [if_pos d, if_pos ⟨rfl, d⟩, Option.bind_some, hK.br (f := 0) ht (by omega), Option.bind_some, if_pos g0, show t + 1 + 0 = t + 1 from rfl, e1, p_needsNext v1, Option.bind_some, hK.br (f := 3) ht (by omega)]
        cases hn2 : ndF (bK b w) with
        | true =>
          rw [if_pos rfl, if_pos rfl, Option.bind_some, if_pos g3, show t + 1 + 3 = t + 4 from rfl, e4, Option.bind_some, Option.bind_some, incN]
          exact ih n (i + 1) _ _ (by omega) (by omega)
        | false =>
          rw [if_neg (by decide), if_neg (by decide), Option.bind_some, Option.bind_some, incN]
          exact ih n (i + 1) _ _ (by omega) (by omega)
      · rw [if_neg d, if_neg (fun z => d z.2)]
    · have c2 : isN at' (bE b) = false := by cases h : isN at' (bE b) <;> simp_all
      rw [c2, if_neg (by decide), if_neg (by simp)]
theorem p_chainOf {K : yK} {M : yM} {t w : Nat} {b : Bk} (hK : KSh K) (ht : isB t) (hW : WB b) (hB : BE M t b) : b_X0_chainOf K M t (nI w) = some (chB b w) := by
  unfold b_X0_chainOf
  rw [show (0 : Int32) = nI 0 from rfl, p_chainOf_loop hK ht hW hB 12 1000 0 (nI w) (nI 0) rfl (by omega)]
  rfl
/-! settle -/
theorem BE.cg {M M' : yM} {t : Nat} {b : Bk} (h : BE M t b) (h0 : M' t 8 = M t 8) (h1 : ∀ q, t + 1 ≤ q → q ≤ t + 4 → M' q = M q) : BE M' t b :=
  ⟨by rw [h0]; exact h.1, fun w hw => by rw [h1 (t + 1) (by omega) (by omega), h1 (t + 2) (by omega) (by omega), h1 (t + 3) (by omega) (by omega), h1 (t + 4) (by omega) (by omega)]; exact h.2 w hw⟩
theorem p_settle_loop {K : yK} {t : Nat} {b : Bk} (hK : KSh K) (ht : isB t) (hW : WB b) : ∀ (f n i : Nat) (M : yM), BE M t b → i + f = bE b → f < n → (∀ w, w < i → M (t + 6) w = nI (fsB b w) ∧ M (t + 7) w = chB b w) →
    ∃ M', b_X0_settle_4 K t n M (nI (fsB b i)) (nI i) = some (nI (fsB b (bE b)), M') ∧ (∀ q, q ≠ t + 6 → q ≠ t + 7 → M' q = M q) ∧ ∀ w, w < bE b → M' (t + 6) w = nI (fsB b w) ∧ M' (t + 7) w = chB b w := by
  have h12 := hW.1
  intro f
  induction f with
  | zero =>
    intro n i M hB hi hn hd
    obtain ⟨n, rfl⟩ : ∃ k, n = k + 1 := ⟨n - 1, by omega⟩
    refine ⟨M, ?_, fun _ _ _ => rfl, fun w hw => hd w (by omega)⟩
    rw [b_X0_settle_4, if_pos (hK.bo ht), hB.1, iteLe (by omega) (by omega), if_pos (by omega), show i = bE b by omega]
  | succ f ih =>
    intro n i M hB hi hn hd
    obtain ⟨n, rfl⟩ : ∃ k, n = k + 1 := ⟨n - 1, by omega⟩
    have g5 : gA K (t + 1 + 5) (nI i) = true := gA_N (hK.b6 ht) (by omega) (by omega)
    have g6 : gA K (t + 1 + 6) (nI i) = true := gA_N (hK.b7 ht) (by omega) (by omega)
    have hB1 : BE (yS M (t + 1 + 5) i (nI (fsB b i))) t b := hB.cg (yS_op _ _ _ _ (by omega) _) (fun q _ _ => funext fun j => yS_op _ _ _ _ (by omega) _)
    rw [b_X0_settle_4, if_pos (hK.bo ht), hB.1, iteLe (by omega) (by omega), if_neg (by omega), hK.br (f := 5) ht (by omega), Option.bind_some, if_pos g5, Option.bind_some, nC (by omega), p_takesOf hK ht hW hB1 (by omega), Option.bind_some, addN, Option.bind_some, hK.br (f := 6) ht (by omega), Option.bind_some, p_chainOf hK ht hW hB1, Option.bind_some, if_pos g6, Option.bind_some, incN, Option.bind_some]
    have hB2 : BE (yS (yS M (t + 1 + 5) i (nI (fsB b i))) (t + 1 + 6) i (chB b i)) t b := hB1.cg (yS_op _ _ _ _ (by omega) _) (fun q _ _ => funext fun j => yS_op _ _ _ _ (by omega) _)
    obtain ⟨M', e1, e2, e3⟩ := ih n (i + 1) _ hB2 (by omega) (by omega) (fun w hw => by
      rcases Nat.lt_or_ge w i with q | q
      · rw [show t + 1 + 5 = t + 6 by omega, show t + 1 + 6 = t + 7 by omega]
        rw [yS_op _ _ _ _ (by omega), yS_oi _ _ _ _ (by omega), yS_oi _ _ _ _ (by omega), yS_op _ _ _ _ (by omega)]
        exact hd w q
      · rw [show w = i by omega, show t + 1 + 5 = t + 6 by omega, show t + 1 + 6 = t + 7 by omega]
        rw [yS_op _ _ _ _ (by omega), yS_at, yS_at]
        exact ⟨rfl, rfl⟩)
    refine ⟨M', e1, fun q h1 h2 => ?_, e3⟩
    rw [e2 q h1 h2]
    funext j
    rw [yS_op _ _ _ _ (by omega), yS_op _ _ _ _ (by omega)]
theorem p_settle {K : yK} {M : yM} {t : Nat} {b : Bk} (hK : KSh K) (ht : isB t) (hW : WB b) (hB : BE M t b) : ∃ M', b_X0_settle K M t = some M' ∧ (∀ q, q ≠ t + 6 → q ≠ t + 7 → M' q = M q) ∧ BS M' t b := by
  have h12 := hW.1
  obtain ⟨M', e1, e2, e3⟩ := p_settle_loop hK ht hW (bE b) 1000 0 M hB (by omega) (by omega) (fun w hw => absurd hw (Nat.not_lt_zero _))
  have g5 : gA K (t + 1 + 5) (nI (bE b)) = true := gA_N (hK.b6 ht) (by omega) (by omega)
  refine ⟨yS M' (t + 6) (bE b) (nI (fsB b (bE b))), ?_, fun q h1 h2 => ?_, fun w hw => ?_, fun w hw => ?_⟩
  · unfold b_X0_settle
    rw [show ((0 : Int32)) = nI (fsB b 0) from rfl]
    rw [show b_X0_settle_4 K t 1000 M (nI (fsB b 0)) (nI (fsB b 0)) = b_X0_settle_4 K t 1000 M (nI (fsB b 0)) (nI 0) from rfl, e1, Option.bind_some, if_pos (hK.bo ht), hK.br (f := 5) ht (by omega), Option.bind_some]
    have e8 : M' t 8 = nI (bE b) := by rw [e2 t (by omega) (by omega)]; exact hB.1
    dsimp only
    rw [if_pos (show gA K (t + 1 + 5) (M' t 8) = true by rw [e8]; exact g5), e8, nC (by omega)]
    rfl
  · rw [← e2 q h1 h2]
    funext j
    rw [yS_op _ _ _ _ h1]
  · rcases Nat.lt_or_ge w (bE b) with q | q
    · rw [yS_oi _ _ _ _ (by omega)]
      exact (e3 w q).1
    · rw [show w = bE b by omega, yS_at]
  · rw [yS_op _ _ _ _ (by omega)]
    exact (e3 w hw).2
