/-! the reference's next token -/
def SM (v : Nat → Nat) (ts : Nat) (M : yM) : Prop := M 50 12 = nI ts ∧ (∀ i, i < ts → M 55 i = nI (v i)) ∧ ∀ i, i < 96 → M 65 i = wds.getD i 0
theorem SM_fl (v : Nat → Nat) (ts : Nat) : Sfl (SM v ts) := by
  intro M M' h h1 h2 h3
  unfold SM
  rw [h1, h2, h3]
  exact h
/-- only the place where one stands has moved -/
def Fa (M M' : yM) : Prop := (∀ i, i ≠ 28 → M' 50 i = M 50 i) ∧ ∀ q, q ≠ 50 → M' q = M q
theorem Fa.sm {v : Nat → Nat} {ts : Nat} {M M' : yM} (h : Fa M M') (g : SM v ts M) : SM v ts M' := SM_fl v ts M M' g (h.1 12 (by decide)) (h.2 55 (by decide)) (h.2 65 (by decide))
theorem KSh.a55 {K : yK} (h : KSh K) : K.2.2 50 11 = some 55 ∧ isAr K 55 160 := ⟨h.mr rfl, h.ar (by decide) rfl⟩
theorem q_skip {K : yK} {v : Nat → Nat} {ts : Nat} (hK : KSh K) (hv : VB v) (hts : ts ≤ 160) : ∀ (f n p : Nat) (M : yM), ts ≤ p + f → f < n → p ≤ ts → SM v ts M → M 50 28 = nI p → ∃ M', b_X8_next_0 K 50 n M = some M' ∧ M' 50 28 = nI (rnF v ts isBl f p) ∧ Fa M M' := by
  obtain ⟨g1, g2⟩ := hK.a55
  intro f
  induction f with
  | zero =>
    intro n p M h1 h2 h3 hM h28
    obtain ⟨n, rfl⟩ : ∃ z, n = z + 1 := ⟨n - 1, by omega⟩
    refine ⟨M, ?_, h28, fun _ _ => rfl, fun _ _ => rfl⟩
    rw [b_X8_next_0, if_pos hK.mo, hM.1, h28, iteLe (by omega) (by omega), if_pos (by omega)]
  | succ f ih =>
    intro n p M h1 h2 h3 hM h28
    obtain ⟨n, rfl⟩ : ∃ z, n = z + 1 := ⟨n - 1, by omega⟩
    rw [b_X8_next_0, if_pos hK.mo, hM.1, h28, iteLe (by omega) (by omega), rnF]
    by_cases z : ts ≤ p
    · rw [if_pos z, if_neg (by omega)]
      exact ⟨M, rfl, h28, fun _ _ => rfl, fun _ _ => rfl⟩
    · have em : M 55 p = nI (v p) := hM.2.1 p (by omega)
      have hvp := hv p
      rw [if_neg z, g1, Option.bind_some, if_pos (gA_N g2 (by omega) (by omega)), nC (by omega), em, show (32 : Int32) = nI 32 from rfl, show (10 : Int32) = nI 10 from rfl, iteEq (by omega) (by omega), iteEq (by omega) (by omega), incN]
      have hF : Fa M (yS M 50 28 (nI (p + 1))) := ⟨fun i hi => yS_oi _ _ _ _ hi, fun q hq => yS_q _ _ _ hq⟩
      have go := fun (hb : isBl (v p) = true) => ih n (p + 1) (yS M 50 28 (nI (p + 1))) (by omega) (by omega) (by omega) (hF.sm hM) (yS_at _ _ _ _)
      by_cases y : v p = 32
      · have hb : isBl (v p) = true := decide_eq_true (.inl y)
        obtain ⟨M', r1, r2, r3, r4⟩ := go hb
        rw [if_pos y, Option.bind_some, if_pos ⟨by omega, hb⟩]
        exact ⟨M', r1, r2, fun i hi => (r3 i hi).trans (hF.1 i hi), fun q hq => (r4 q hq).trans (hF.2 q hq)⟩
      · rw [if_neg y]
        by_cases x : v p = 10
        · have hb : isBl (v p) = true := decide_eq_true (.inr x)
          obtain ⟨M', r1, r2, r3, r4⟩ := go hb
          rw [if_pos x, Option.bind_some, if_pos ⟨by omega, hb⟩]
          exact ⟨M', r1, r2, fun i hi => (r3 i hi).trans (hF.1 i hi), fun q hq => (r4 q hq).trans (hF.2 q hq)⟩
        · rw [if_neg x, if_neg (fun w => (of_decide_eq_true w.2).elim y x)]
          exact ⟨M, rfl, h28, fun _ _ => rfl, fun _ _ => rfl⟩
theorem q_inN {K : yK} {M : yM} {b lo hi : Nat} (hb : b < 1000) (hl : lo < 1000) (hh : hi < 1000) : b_X8_in K M (nI b) (nI lo) (nI hi) = some (decide (lo ≤ b ∧ b ≤ hi)) := by
  rw [q_in]
  congr 1
  apply decide_eq_decide.mpr
  rw [leN (by omega) (by omega), leN (by omega) (by omega)]
theorem q_letters {K : yK} {v : Nat → Nat} {ts : Nat} (hK : KSh K) (hv : VB v) (hts : ts ≤ 160) : ∀ (f n p : Nat) (M : yM), ts ≤ p + f → f < n → p ≤ ts → SM v ts M → M 50 28 = nI p → ∃ M', b_X8_next_103 K 50 n M = some M' ∧ M' 50 28 = nI (rnF v ts isLt f p) ∧ Fa M M' := by
  obtain ⟨g1, g2⟩ := hK.a55
  intro f
  induction f with
  | zero =>
    intro n p M h1 h2 h3 hM h28
    obtain ⟨n, rfl⟩ : ∃ z, n = z + 1 := ⟨n - 1, by omega⟩
    refine ⟨M, ?_, h28, fun _ _ => rfl, fun _ _ => rfl⟩
    rw [b_X8_next_103, if_pos hK.mo, hM.1, h28, iteLe (by omega) (by omega), if_pos (by omega)]
  | succ f ih =>
    intro n p M h1 h2 h3 hM h28
    obtain ⟨n, rfl⟩ : ∃ z, n = z + 1 := ⟨n - 1, by omega⟩
    rw [b_X8_next_103, if_pos hK.mo, hM.1, h28, iteLe (by omega) (by omega), rnF]
    by_cases z : ts ≤ p
    · rw [if_pos z, if_neg (by omega)]
      exact ⟨M, rfl, h28, fun _ _ => rfl, fun _ _ => rfl⟩
    · have em : M 55 p = nI (v p) := hM.2.1 p (by omega)
      have hvp := hv p
      have hF : Fa M (yS M 50 28 (nI (p + 1))) := ⟨fun i hi => yS_oi _ _ _ _ hi, fun q hq => yS_q _ _ _ hq⟩
      rw [if_neg z, g1, Option.bind_some, if_pos (gA_N g2 (by omega) (by omega)), nC (by omega), em, show b_X8_in K M (nI (v p)) 97 122 = some (isLt (v p)) from q_inN (lo := 97) (hi := 122) (by omega) (by omega) (by omega), Option.bind_some]
      by_cases y : isLt (v p) = true
      · obtain ⟨M', r1, r2, r3, r4⟩ := ih n (p + 1) (yS M 50 28 (nI (p + 1))) (by omega) (by omega) (by omega) (hF.sm hM) (yS_at _ _ _ _)
        rw [if_pos y, incN, Option.bind_some, if_pos ⟨by omega, y⟩]
        exact ⟨M', r1, r2, fun i hi => (r3 i hi).trans (hF.1 i hi), fun q hq => (r4 q hq).trans (hF.2 q hq)⟩
      · rw [if_neg y, if_neg (fun w => y w.2)]
        exact ⟨M, rfl, h28, fun _ _ => rfl, fun _ _ => rfl⟩
def Fvd (M M' : yM) : Prop := (∀ i, i ≠ 28 → i ≠ 31 → M' 50 i = M 50 i) ∧ ∀ q, q ≠ 50 → M' q = M q
theorem q_digits {K : yK} {v : Nat → Nat} {ts : Nat} (hK : KSh K) (hv : VB v) (hts : ts ≤ 160) : ∀ (f n p c : Nat) (M : yM), ts ≤ p + f → f < n → p ≤ ts → c ≤ p → SM v ts M → M 50 28 = nI p → ∃ M', b_X8_next_230 K 50 n M (nI c) = some (nI (c + (rnF v ts isDg f p - p)), M') ∧ M' 50 28 = nI (rnF v ts isDg f p) ∧ Fvd M M' ∧ ∀ a, M 50 31 = nI a → c + (rnF v ts isDg f p - p) ≤ 4 → M' 50 31 = nI (nmN v (rnF v ts isDg f p - p) p a) := by
  obtain ⟨g1, g2⟩ := hK.a55
  intro f
  induction f with
  | zero =>
    intro n p c M h1 h2 h3 hc hM h28
    obtain ⟨n, rfl⟩ : ∃ z, n = z + 1 := ⟨n - 1, by omega⟩
    have e0 : rnF v ts isDg 0 p = p := rfl
    rw [e0, Nat.sub_self]
    refine ⟨M, ?_, h28, ⟨fun _ _ _ => rfl, fun _ _ => rfl⟩, fun a ha _ => ha⟩
    rw [b_X8_next_230, if_pos hK.mo, hM.1, h28, iteLe (by omega) (by omega), if_pos (by omega)]
    rfl
  | succ f ih =>
    intro n p c M h1 h2 h3 hc hM h28
    obtain ⟨n, rfl⟩ : ∃ z, n = z + 1 := ⟨n - 1, by omega⟩
    rw [b_X8_next_230, if_pos hK.mo, hM.1, h28, iteLe (by omega) (by omega), rnF]
    by_cases z : ts ≤ p
    · rw [if_pos z, if_neg (by omega), Nat.sub_self]
      exact ⟨M, rfl, h28, ⟨fun _ _ _ => rfl, fun _ _ => rfl⟩, fun a ha _ => ha⟩
    · have em : M 55 p = nI (v p) := hM.2.1 p (by omega)
      have hvp := hv p
      rw [if_neg z, g1, Option.bind_some, if_pos (gA_N g2 (by omega) (by omega)), nC (by omega), em, show b_X8_in K M (nI (v p)) 48 57 = some (isDg (v p)) from q_inN (lo := 48) (hi := 57) (by omega) (by omega) (by omega), Option.bind_some]
      by_cases y : isDg (v p) = true
      · obtain ⟨w, hw, hwv⟩ : ∃ w, (if (4 : Int32) ≤ nI c then (some (0 : Int32)) else (some ((((10 : Int32) * (M 50 31)) + nI (v p)) - (48 : Int32)))) = some w ∧ ∀ a, M 50 31 = nI a → c < 4 → w = nI (a * 10 + v p - 48) := by
          rw [show (4 : Int32) = nI 4 from rfl, iteLe (by omega) (by omega)]
          by_cases x : 4 ≤ c
          · exact ⟨0, if_pos x, fun a _ h => by omega⟩
          · refine ⟨_, if_neg x, fun a ha _ => ?_⟩
            have := (of_decide_eq_true y).1
            rw [ha, show (10 : Int32) = nI 10 from rfl, mulN, addN, show (48 : Int32) = nI 48 from rfl, subN (by omega), Nat.mul_comm]
        have hF : Fvd M (yS (yS M 50 31 w) 50 28 (nI (p + 1))) := ⟨fun i h1 h2 => by rw [yS_oi _ _ _ _ h1, yS_oi _ _ _ _ h2], fun q hq => by rw [yS_q _ _ _ hq, yS_q _ _ _ hq]⟩
        have hM' : SM v ts (yS (yS M 50 31 w) 50 28 (nI (p + 1))) := SM_fl v ts M _ hM (hF.1 12 (by decide) (by decide)) (hF.2 55 (by decide)) (hF.2 65 (by decide))
        have hle := (rnF_le (v := v) (ts := ts) (pr := isDg) f (p + 1)).1
        have hcc : c + 1 ≤ p + 1 ∨ ¬ c + 1 ≤ p + 1 := by omega
        have hle2 := (rnF_le (v := v) (ts := ts) (pr := isDg) f (p + 1)).2.1 (by omega)
        rcases hcc with hcc | hcc
        · obtain ⟨M', r1, r2, r3, r4⟩ := ih n (p + 1) (c + 1) _ (by omega) (by omega) (by omega) hcc hM' (yS_at _ _ _ _)
          rw [if_pos y, hw, Option.bind_some, Option.bind_some, incN, Option.bind_some, yS_oi _ _ _ _ (show (28 : Nat) ≠ 31 by decide), h28, incN, Option.bind_some, if_pos ⟨by omega, y⟩, r1]
          refine ⟨M', by congr 3; omega, r2, ⟨fun i h1 h2 => (r3.1 i h1 h2).trans (hF.1 i h1 h2), fun q hq => (r3.2 q hq).trans (hF.2 q hq)⟩, fun a ha hc4 => ?_⟩
          have := r4 (a * 10 + v p - 48) (by rw [yS_oi _ _ _ _ (by decide), yS_at]; exact hwv a ha (by omega)) (by omega)
          rw [this, show rnF v ts isDg f (p + 1) - p = (rnF v ts isDg f (p + 1) - (p + 1)) + 1 by omega, nmN]
        · exfalso
          omega
      · rw [if_neg y, if_neg (fun w => y w.2), Nat.sub_self]
        exact ⟨M, rfl, h28, ⟨fun _ _ _ => rfl, fun _ _ => rfl⟩, fun a ha _ => ha⟩
/-! the reference's words -/
def kmp (k : Nat) : Nat := if k < 3 then k else if k < 9 then k + 3 else k - 6
def kin (j : Nat) : Nat := if j < 3 then j else if j < 6 then j + 6 else j - 3
theorem wds_N : ∀ k, k < 12 → ∀ c, c < 8 → wds.getD (8 * k + c) 0 = (if c < wl (kmp k) then nI (wcN (kmp k) c) else 32) := by decide +kernel
theorem kmp_lt : ∀ k, k < 12 → kmp k < 12 ∧ kin (kmp k) = k := by decide
theorem q_w26 {K : yK} {M : yM} {v : Nat → Nat} {ts q e k : Nat} (hK : KSh K) (hv : VB v) (hts : ts ≤ 160) (hM : SM v ts M) (hk : k < 12) (he : e ≤ ts) (hq : q ≤ e) : ∀ (f n c : Nat) (like : Bool), c + f = 8 → f < n → ∃ r, b_X8_wordFrom_26 K M 50 (nI q) (nI e) (nI k) n like (nI c) = some r ∧ (r = true ↔ like = true ∧ ∀ d, c ≤ d → d < 8 → wds.getD (8 * k + d) 0 = if q + d < e then nI (v (q + d)) else 32) := by
  obtain ⟨g1, g2⟩ := hK.a55
  have a65 : isAr K 65 96 := hK.ar (by decide) rfl
  intro f
  induction f with
  | zero =>
    intro n c like h1 h2
    obtain ⟨n, rfl⟩ : ∃ z, n = z + 1 := ⟨n - 1, by omega⟩
    refine ⟨like, ?_, fun h => ⟨h, fun d h3 h4 => absurd h4 (by omega)⟩, fun h => h.1⟩
    rw [b_X8_wordFrom_26, show (8 : Int32) = nI 8 from rfl, iteLe (by omega) (by omega), if_pos (by omega)]
  | succ f ih =>
    intro n c like h1 h2
    obtain ⟨n, rfl⟩ : ∃ z, n = z + 1 := ⟨n - 1, by omega⟩
    rw [b_X8_wordFrom_26, if_neg (show ¬ (8 : Int32) ≤ nI c by rw [show (8 : Int32) = nI 8 from rfl, leN (by omega) (by omega)]; omega)]
    cases like with
    | false =>
      rw [if_neg Bool.false_ne_true]
      exact ⟨false, rfl, fun h => absurd h Bool.false_ne_true, fun h => absurd h.1 Bool.false_ne_true⟩
    | true =>
      have e8 : (8 : Int32) * nI k + nI c = nI (8 * k + c) := by rw [show (8 : Int32) = nI 8 from rfl, mulN, addN]
      have ej : (if nI e ≤ (nI q + nI c) then (some (32 : Int32)) else (Option.bind (K.2.2 50 11) fun q8 => (if gA K q8 (nI q + nI c) = true then (some (M q8 ((nI q + nI c)).toNatClampNeg)) else none))) = some (if q + c < e then nI (v (q + c)) else 32) := by
        rw [addN, iteLe (by omega) (by omega)]
        by_cases z : e ≤ q + c
        · rw [if_pos z, if_neg (by omega)]
        · rw [if_neg z, if_pos (by omega), g1, Option.bind_some, if_pos (gA_N g2 (by omega) (by omega)), nC (by omega), hM.2.1 _ (by omega)]
      rw [if_pos rfl, if_pos hK.mo, hK.mr (f := 32) rfl, Option.bind_some, e8, if_pos (gA_N a65 (by omega) (by omega)), ej, Option.bind_some, nC (by omega), hM.2.2 _ (by omega)]
      by_cases z : wds.getD (8 * k + c) 0 = if q + c < e then nI (v (q + c)) else 32
      · obtain ⟨r, r1, r2⟩ := ih n (c + 1) true (by omega) (by omega)
        rw [if_pos z, Option.bind_some, incN, Option.bind_some]
        refine ⟨r, r1, fun h => ⟨rfl, fun d h3 h4 => ?_⟩, fun h => r2.mpr ⟨rfl, fun d h3 h4 => h.2 d (by omega) h4⟩⟩
        rcases Nat.lt_or_ge c d with x | x
        · exact (r2.mp h).2 d x h4
        · rw [show d = c by omega]; exact z
      · obtain ⟨r, r1, r2⟩ := ih n (c + 1) false (by omega) (by omega)
        rw [if_neg z, Option.bind_some, incN, Option.bind_some]
        exact ⟨r, r1, fun h => absurd (r2.mp h).1 Bool.false_ne_true, fun h => absurd (h.2 c (Nat.le_refl _) (by omega)) z⟩
theorem q_w2 {K : yK} {M : yM} {v : Nat → Nat} {ts q e : Nat} (hK : KSh K) (hv : VB v) (hts : ts ≤ 160) (hM : SM v ts M) (he : e ≤ ts) (hq : q ≤ e) (hlet : ∀ p, q ≤ p → p < e → isLt (v p) = true) : ∀ (f n k : Nat), k + f = 12 → f < n → ∃ r, (Option.bind (b_X8_wordFrom_2 K M 50 (nI q) (nI e) n (nI k)) fun x9 => Sum.elim (fun j1 => (some (12 : Int32))) (fun r9 => (some r9)) x9) = some (nI r) ∧ ((r = 12 ∧ ∀ i, k ≤ i → i < 12 → ¬ wdP v q e (kmp i)) ∨ (r < 12 ∧ wdP v q e (kmp r))) := by
  intro f
  induction f with
  | zero =>
    intro n k h1 h2
    obtain ⟨n, rfl⟩ : ∃ z, n = z + 1 := ⟨n - 1, by omega⟩
    refine ⟨12, ?_, .inl ⟨rfl, fun i h3 h4 => absurd h4 (by omega)⟩⟩
    rw [b_X8_wordFrom_2, show (12 : Int32) = nI 12 from rfl, iteLe (by omega) (by omega), if_pos (by omega), Option.bind_some]
    rfl
  | succ f ih =>
    intro n k h1 h2
    obtain ⟨n, rfl⟩ : ∃ z, n = z + 1 := ⟨n - 1, by omega⟩
    have hkm := (kmp_lt k (by omega)).1
    have hwl := wl_le _ hkm
    have ej : (if (8 : Int32) < (nI e - nI q) then (some false) else (some true)) = some (decide (e - q ≤ 8)) := by
      rw [subN hq, show (8 : Int32) = nI 8 from rfl, iteLt (by omega) (by omega)]
      by_cases z : 8 < e - q
      · rw [if_pos z, decide_eq_false (by omega)]
      · rw [if_neg z, decide_eq_true (by omega)]
    obtain ⟨r, r1, r2⟩ := q_w26 (k := k) hK hv hts hM (by omega) he hq 8 1000 0 (decide (e - q ≤ 8)) (by omega) (by omega)
    have key : r = true ↔ wdP v q e (kmp k) := by
      rw [r2, decide_eq_true_iff]
      refine ⟨fun h => ?_, fun h => ?_⟩
      · obtain ⟨h8, hc⟩ := h
        have hlen : e = q + wl (kmp k) := by
          rcases Nat.lt_trichotomy (e - q) (wl (kmp k)) with x | x | x
          · exfalso
            have := hc (e - q) (by omega) (by omega)
            rw [wds_N k (by omega) _ (by omega), if_pos x, if_neg (by omega)] at this
            have y := yCh_N _ hkm (e - q) (by omega) x
            rw [show (32 : Int32) = nI 32 from rfl, eqN (by omega) (by omega)] at this
            omega
          · omega
          · exfalso
            have := hc (wl (kmp k)) (by omega) (by omega)
            rw [wds_N k (by omega) _ (by omega), if_neg (by omega), if_pos (by omega), show (32 : Int32) = nI 32 from rfl, eqN (by omega) (by have := hv (q + wl (kmp k)); omega)] at this
            have := of_decide_eq_true (hlet (q + wl (kmp k)) (by omega) (by omega))
            omega
        refine ⟨hlen, fun c hc2 => ?_⟩
        have := hc c (by omega) (by omega)
        have y := yCh_N _ hkm c (by omega) hc2
        rw [wds_N k (by omega) _ (by omega), if_pos hc2, if_pos (by omega), eqN (by omega) (by have := hv (q + c); omega)] at this
        exact this.symm
      · obtain ⟨hlen, hc⟩ := h
        refine ⟨by omega, fun d _ hd => ?_⟩
        rw [wds_N k (by omega) _ hd]
        by_cases x : d < wl (kmp k)
        · rw [if_pos x, if_pos (by omega), hc d x]
        · rw [if_neg x, if_neg (by omega)]
    have r1 : b_X8_wordFrom_26 K M 50 (nI q) (nI e) (nI k) 1000 (decide (e - q ≤ 8)) 0 = some r := r1
    rw [b_X8_wordFrom_2, show (12 : Int32) = nI 12 from rfl, iteLe (by omega) (by omega), if_neg (by omega), ej, Option.bind_some, r1, Option.bind_some]
    by_cases z : r = true
    · rw [if_pos z, Option.bind_some]
      exact ⟨k, rfl, .inr ⟨by omega, key.mp z⟩⟩
    · rw [if_neg z, incN, Option.bind_some]
      obtain ⟨r', s1, s2⟩ := ih n (k + 1) (by omega) (by omega)
      refine ⟨r', s1, ?_⟩
      rcases s2 with ⟨s2, s3⟩ | s2
      · refine .inl ⟨s2, fun i h3 h4 => ?_⟩
        rcases Nat.lt_or_ge k i with x | x
        · exact s3 i x h4
        · rw [show i = k by omega]; exact fun h => z (key.mpr h)
      · exact .inr s2
theorem q_wordFrom {K : yK} {M : yM} {v : Nat → Nat} {ts q e : Nat} (hK : KSh K) (hv : VB v) (hts : ts ≤ 160) (hM : SM v ts M) (he : e ≤ ts) (hq : q ≤ e) (hlet : ∀ p, q ≤ p → p < e → isLt (v p) = true) : b_X8_wordFrom K M 50 (nI q) (nI e) = some (nI (if wdx v q e < 12 then kin (wdx v q e) else 12)) := by
  obtain ⟨r, r1, r2⟩ := q_w2 hK hv hts hM he hq hlet 12 1000 0 (by omega) (by omega)
  have r1 : b_X8_wordFrom K M 50 (nI q) (nI e) = some (nI r) := r1
  rw [r1]
  congr 2
  rcases r2 with ⟨e1, e2⟩ | ⟨e1, e2⟩
  · have h12 : wdx v q e = 12 := wdx_12 (fun j hj h => by
      have hk : kin j < 12 ∧ kmp (kin j) = j := by
        rcases (show j = 0 ∨ j = 1 ∨ j = 2 ∨ j = 3 ∨ j = 4 ∨ j = 5 ∨ j = 6 ∨ j = 7 ∨ j = 8 ∨ j = 9 ∨ j = 10 ∨ j = 11 by omega) with rfl | rfl | rfl | rfl | rfl | rfl | rfl | rfl | rfl | rfl | rfl | rfl <;> decide
      exact e2 (kin j) (by omega) hk.1 (by rw [hk.2]; exact h))
    rw [h12, e1]
    rfl
  · obtain ⟨k1, k2⟩ := kmp_lt r e1
    rw [wdx_of k1 e2, if_pos k1, k2]
theorem q_next {K : yK} {v : Nat → Nat} {ts : Nat} (hK : KSh K) (hv : VB v) (hts : ts ≤ 160) : NXT (tkT v ts) (nvT v ts) (plT v ts) (posF v ts 0) (NN v ts 0) K (SM v ts) := by
  intro M i hM h28 hi
  obtain ⟨g1, g2⟩ := hK.a55
  have hN := NN_is v ts (ts + 1) 0 (by omega) (by omega)
  have hpos := posF_le v ts 0 (by omega) i
  obtain ⟨q, hq⟩ : ∃ q, q = sk v ts (posF v ts 0 i) := ⟨_, rfl⟩
  have hqt : q ≤ ts := by rw [hq]; exact (sk_le v ts _).2 hpos
  obtain ⟨A, a1, a2, a3⟩ := q_skip hK hv hts ts 1000 (posF v ts 0 i) M (by omega) (by omega) hpos hM h28
  have a2 : A 50 28 = nI q := by rw [a2, hq]; rfl
  obtain ⟨B, hB⟩ : ∃ B, B = yS (yS (yS A 50 29 (nI q)) 50 30 0) 50 31 0 := ⟨_, rfl⟩
  have bi : ∀ f, f ≠ 29 → f ≠ 30 → f ≠ 31 → B 50 f = A 50 f := fun f z1 z2 z3 => by rw [hB, yS_oi _ _ _ _ z3, yS_oi _ _ _ _ z2, yS_oi _ _ _ _ z1]
  have bq : ∀ p, p ≠ 50 → B p = A p := fun p z => by rw [hB, yS_q _ _ _ z, yS_q _ _ _ z, yS_q _ _ _ z]
  have b28 : B 50 28 = nI q := by rw [bi 28 (by decide) (by decide) (by decide)]; exact a2
  have b12 : B 50 12 = nI ts := by rw [bi 12 (by decide) (by decide) (by decide), a3.1 12 (by decide)]; exact hM.1
  have b29 : B 50 29 = nI q := by rw [hB, yS_oi _ _ _ _ (by decide), yS_oi _ _ _ _ (by decide), yS_at]
  have b30 : B 50 30 = 0 := by rw [hB, yS_oi _ _ _ _ (by decide), yS_at]
  have b31 : B 50 31 = 0 := by rw [hB, yS_at]
  have bM : SM v ts B := SM_fl v ts A B (a3.sm hM) (bi 12 (by decide) (by decide) (by decide)) (bq 55 (by decide)) (bq 65 (by decide))
  have fB : Fn M B := ⟨fun f z => by rw [bi f (by omega) (by omega) (by omega), a3.1 f (by omega)], fun p z => by rw [bq p z, a3.2 p z]⟩
  have etk : tkT v ts i = tok v ts q := by unfold tkT; rw [← hq]
  have env : nvT v ts i = nmv v ts q := by unfold nvT; rw [← hq]
  have epl : plT v ts i = q := by unfold plT; rw [← hq]
  have epos : posF v ts 0 (i + 1) = if q < ts then en v ts q else q := by
    show nxp v ts (posF v ts 0 i) = _
    unfold nxp
    rw [← hq]
  rw [etk, env, epl, epos]
  have start : ∀ R, (if B 50 28 = B 50 12 then (some B) else (Option.bind (K.2.2 50 11) fun q7 => (if gA K q7 (B 50 28) = true then (Option.bind (some (B q7 ((B 50 28)).toNatClampNeg)) fun v9 => (Option.bind (b_X8_in K B v9 ((97 : Int32)) ((122 : Int32))) fun r10 => (if r10 = true then (Option.bind (b_X8_next_103 K 50 1000 B) fun j31 => (Option.bind (b_X8_wordFrom K j31 50 ((j31 50 29)) ((j31 50 28))) fun r32 => (Option.bind (if (3 : Int32) ≤ r32 then (if (9 : Int32) ≤ r32 then (if r32 = (12 : Int32) then (some (-1 : Int32)) else (some (((4 : Int32) + r32) - (9 : Int32)))) else (some (2 : Int32))) else (some (3 : Int32))) fun j34 => (Option.bind (some (yS j31 50 30 j34)) fun M37 => (Option.bind (if (3 : Int32) ≤ r32 then (some (r32 - (3 : Int32))) else (some r32)) fun j39 => (Option.bind (some (yS M37 50 31 j39)) fun M40 => (some M40))))))) else (Option.bind (b_X8_in K B v9 ((48 : Int32)) ((57 : Int32))) fun r12 => (if r12 = true then (Option.bind (b_X8_next_230 K 50 1000 B ((0 : Int32))) fun j27 => (Option.bind (if j27.1 ≤ (4 : Int32) then (some (1 : Int32)) else (some (-1 : Int32))) fun j29 => (Option.bind (some (yS j27.2 50 30 j29)) fun M30 => (some M30)))) else (Option.bind (if v9 = (40 : Int32) then (some true) else (if v9 = (41 : Int32) then (some true) else (if v9 = (59 : Int32) then (some true) else (if v9 = (43 : Int32) then (some true) else (if v9 = (45 : Int32) then (some true) else (if v9 = (42 : Int32) then (some true) else (if v9 = (60 : Int32) then (some true) else (if v9 = (61 : Int32) then (some true) else (some false))))))))) fun j15 => (Option.bind (if j15 = true then (some v9) else (some (-1 : Int32))) fun j24 => (Option.bind (some (yS B 50 30 j24)) fun M25 => (Option.bind (some (yS M25 50 28 ((M25 50 28) + (1 : Int32)))) fun M26 => (some M26)))))))))) else none))) = some R → b_X8_next K M 50 = some R := by
    intro R hR
    unfold b_X8_next
    rw [a1, Option.bind_some, if_pos hK.mo, a2, Option.bind_some, Option.bind_some, Option.bind_some, ← hB]
    exact hR
  by_cases z : q < ts
  rotate_left
  · have eq : q = ts := by omega
    have t0 : tok v ts q = 0 := by unfold tok; rw [if_neg z]
    refine ⟨B, start _ ?_, fB, by rw [if_neg z]; exact b28, b29, by rw [t0]; exact b30, fun e => by rw [t0] at e; omega, fun e => by rw [t0] at e; omega, fun e => by rw [t0] at e; omega⟩
    rw [b28, b12, if_pos (by rw [eq])]
  have em : B 55 q = nI (v q) := bM.2.1 q z
  have hvq := hv q
  have hen := en_lt v ts q
  have hent := hen.2 z
  rw [if_pos z]
  have start2 : ∀ R, (if isLt (v q) = true then (Option.bind (b_X8_next_103 K 50 1000 B) fun j31 => (Option.bind (b_X8_wordFrom K j31 50 ((j31 50 29)) ((j31 50 28))) fun r32 => (Option.bind (if (3 : Int32) ≤ r32 then (if (9 : Int32) ≤ r32 then (if r32 = (12 : Int32) then (some (-1 : Int32)) else (some (((4 : Int32) + r32) - (9 : Int32)))) else (some (2 : Int32))) else (some (3 : Int32))) fun j34 => (Option.bind (some (yS j31 50 30 j34)) fun M37 => (Option.bind (if (3 : Int32) ≤ r32 then (some (r32 - (3 : Int32))) else (some r32)) fun j39 => (Option.bind (some (yS M37 50 31 j39)) fun M40 => (some M40))))))) else (if isDg (v q) = true then (Option.bind (b_X8_next_230 K 50 1000 B ((0 : Int32))) fun j27 => (Option.bind (if j27.1 ≤ (4 : Int32) then (some (1 : Int32)) else (some (-1 : Int32))) fun j29 => (Option.bind (some (yS j27.2 50 30 j29)) fun M30 => (some M30)))) else (Option.bind (if isSg (v q) = true then (some (nI (v q))) else (some (-1 : Int32))) fun j24 => (Option.bind (some (yS B 50 30 j24)) fun M25 => (Option.bind (some (yS M25 50 28 ((M25 50 28) + (1 : Int32)))) fun M26 => (some M26)))))) = some R → b_X8_next K M 50 = some R := by
    intro R hR
    refine start R ?_
    have es : (if nI (v q) = (40 : Int32) then (some true) else (if nI (v q) = (41 : Int32) then (some true) else (if nI (v q) = (59 : Int32) then (some true) else (if nI (v q) = (43 : Int32) then (some true) else (if nI (v q) = (45 : Int32) then (some true) else (if nI (v q) = (42 : Int32) then (some true) else (if nI (v q) = (60 : Int32) then (some true) else (if nI (v q) = (61 : Int32) then (some true) else (some false))))))))) = some (isSg (v q)) := by
      have e : ∀ k : Nat, k < 62 → ∀ x y : Option Bool, (if nI (v q) = nI k then x else y) = if v q = k then x else y := fun k hk x y => iteEq (by omega) (by omega)
      rw [show (40 : Int32) = nI 40 from rfl, show (41 : Int32) = nI 41 from rfl, show (59 : Int32) = nI 59 from rfl, show (43 : Int32) = nI 43 from rfl, show (45 : Int32) = nI 45 from rfl, show (42 : Int32) = nI 42 from rfl, show (60 : Int32) = nI 60 from rfl, show (61 : Int32) = nI 61 from rfl, e 40 (by omega), e 41 (by omega), e 59 (by omega), e 43 (by omega), e 45 (by omega), e 42 (by omega), e 60 (by omega), e 61 (by omega)]
      unfold isSg
      by_cases y0 : v q = 40
      · rw [if_pos y0, decide_eq_true (by omega)]
      by_cases y1 : v q = 41
      · rw [if_neg y0, if_pos y1, decide_eq_true (by omega)]
      by_cases y2 : v q = 59
      · rw [if_neg y0, if_neg y1, if_pos y2, decide_eq_true (by omega)]
      by_cases y3 : v q = 43
      · rw [if_neg y0, if_neg y1, if_neg y2, if_pos y3, decide_eq_true (by omega)]
      by_cases y4 : v q = 45
      · rw [if_neg y0, if_neg y1, if_neg y2, if_neg y3, if_pos y4, decide_eq_true (by omega)]
      by_cases y5 : v q = 42
      · rw [if_neg y0, if_neg y1, if_neg y2, if_neg y3, if_neg y4, if_pos y5, decide_eq_true (by omega)]
      by_cases y6 : v q = 60
      · rw [if_neg y0, if_neg y1, if_neg y2, if_neg y3, if_neg y4, if_neg y5, if_pos y6, decide_eq_true (by omega)]
      by_cases y7 : v q = 61
      · rw [if_neg y0, if_neg y1, if_neg y2, if_neg y3, if_neg y4, if_neg y5, if_neg y6, if_pos y7, decide_eq_true (by omega)]
      rw [if_neg y0, if_neg y1, if_neg y2, if_neg y3, if_neg y4, if_neg y5, if_neg y6, if_neg y7, decide_eq_false (by omega)]
    rw [b28, b12, iteEq (by omega) (by omega), if_neg (by omega), g1, Option.bind_some, if_pos (gA_N g2 (by omega) (by omega)), nC (by omega), em, Option.bind_some, show b_X8_in K B (nI (v q)) 97 122 = some (isLt (v q)) from q_inN (lo := 97) (hi := 122) (by omega) (by omega) (by omega), Option.bind_some, show b_X8_in K B (nI (v q)) 48 57 = some (isDg (v q)) from q_inN (lo := 48) (hi := 57) (by omega) (by omega) (by omega), Option.bind_some, es, Option.bind_some]
    exact hR
  by_cases y : isLt (v q) = true
  · have een : en v ts q = run v ts isLt (q + 1) := by unfold en; rw [if_pos y]
    have een2 : rnF v ts isLt ts q = en v ts q := by rw [een]; show run v ts isLt q = _; rw [run_eq, if_pos ⟨z, y⟩]
    obtain ⟨C, c1, c2, c3⟩ := q_letters hK hv hts ts 1000 q B (by omega) (by omega) hqt bM b28
    rw [een2] at c2
    have hlet : ∀ p, q ≤ p → p < en v ts q → isLt (v p) = true := fun p h1 h2 => by
      rcases Nat.lt_or_ge q p with x | x
      · exact (run_le v ts isLt (q + 1)).2.2 p x (by omega)
      · rw [show p = q by omega]; exact y
    have cw := q_wordFrom hK hv hts (c3.sm bM) hent (Nat.le_of_lt hen.1) hlet
    have c29 : C 50 29 = nI q := by rw [c3.1 29 (by decide)]; exact b29
    obtain ⟨j, hj⟩ : ∃ j, j = wdx v q (en v ts q) := ⟨_, rfl⟩
    have hj12 : j ≤ 12 := by rw [hj]; exact (wdx_le v q _).1
    rw [← hj] at cw
    obtain ⟨r, hr⟩ : ∃ r, r = (if j < 12 then kin j else 12) := ⟨_, rfl⟩
    rw [← hr] at cw
    have htok : tok v ts q = if j < 12 then 256 + j else 3 := by unfold tok; rw [if_pos z, if_pos y, ← hj]
    obtain ⟨t, val, t1, t2, t3⟩ : ∃ t val, (if (3 : Int32) ≤ nI r then (if (9 : Int32) ≤ nI r then (if nI r = (12 : Int32) then (some (-1 : Int32)) else (some (((4 : Int32) + nI r) - (9 : Int32)))) else (some (2 : Int32))) else (some (3 : Int32))) = some t ∧ (if (3 : Int32) ≤ nI r then (some (nI r - (3 : Int32))) else (some (nI r))) = some val ∧ t = mtk (tok v ts q) ∧ (262 ≤ tok v ts q ∧ tok v ts q < 268 → val = nI (tok v ts q - 262)) ∧ (256 ≤ tok v ts q ∧ tok v ts q < 259 → val = nI (tok v ts q - 256)) := by
      rw [htok, hr]
      rcases (show j = 0 ∨ j = 1 ∨ j = 2 ∨ j = 3 ∨ j = 4 ∨ j = 5 ∨ j = 6 ∨ j = 7 ∨ j = 8 ∨ j = 9 ∨ j = 10 ∨ j = 11 ∨ j = 12 by omega) with h | h | h | h | h | h | h | h | h | h | h | h | h <;> rw [h] <;> exact ⟨_, _, rfl, rfl, by decide, by decide, by decide⟩
    refine ⟨yS (yS C 50 30 t) 50 31 val, start2 _ ?_, ⟨fun f w => ?_, fun p w => ?_⟩, ?_, ?_, ?_, fun e => ?_, fun e => ?_, fun e => ?_⟩
    · rw [if_pos y, c1, Option.bind_some, c29, c2, cw, Option.bind_some, t1, Option.bind_some, Option.bind_some, t2, Option.bind_some, Option.bind_some]
    · rw [yS_oi _ _ _ _ (by omega), yS_oi _ _ _ _ (by omega), c3.1 f (by omega)]; exact fB.1 f w
    · rw [yS_q _ _ _ w, yS_q _ _ _ w, c3.2 p w]; exact fB.2 p w
    · rw [yS_oi _ _ _ _ (by decide), yS_oi _ _ _ _ (by decide)]; exact c2
    · rw [yS_oi _ _ _ _ (by decide), yS_oi _ _ _ _ (by decide)]; exact c29
    · rw [yS_oi _ _ _ _ (by decide), yS_at]; exact t3.1
    · rw [htok] at e
      split at e <;> omega
    · rw [yS_at]; exact t3.2.1 e
    · rw [yS_at]; exact t3.2.2 e
  have y' : isLt (v q) = false := by cases h : isLt (v q); rfl; exact absurd h y
  by_cases x : isDg (v q) = true
  · have een : en v ts q = run v ts isDg (q + 1) := by unfold en; rw [if_neg y, if_pos x]
    have een2 : rnF v ts isDg ts q = en v ts q := by rw [een]; show run v ts isDg q = _; rw [run_eq, if_pos ⟨z, x⟩]
    obtain ⟨C, c1, c2, c3, c4⟩ := q_digits hK hv hts ts 1000 q 0 B (by omega) (by omega) hqt (by omega) bM b28
    rw [een2] at c1 c2 c4
    rw [Nat.zero_add] at c1 c4
    have htok : tok v ts q = if en v ts q ≤ q + 4 then 1 else 3 := by unfold tok; rw [if_pos z, if_neg y, if_pos x]
    have et : (if nI (en v ts q - q) ≤ (4 : Int32) then (some (1 : Int32)) else (some (-1 : Int32))) = some (mtk (tok v ts q)) := by
      rw [htok, show (4 : Int32) = nI 4 from rfl, iteLe (by omega) (by omega)]
      by_cases w : en v ts q ≤ q + 4
      · rw [if_pos w, if_pos (by omega)]; rfl
      · rw [if_neg w, if_neg (by omega)]; rfl
    have c1 : b_X8_next_230 K 50 1000 B 0 = some (nI (en v ts q - q), C) := c1
    refine ⟨yS C 50 30 (mtk (tok v ts q)), start2 _ ?_, ⟨fun f w => ?_, fun p w => ?_⟩, ?_, ?_, yS_at _ _ _ _, fun e => ?_, fun e => ?_, fun e => ?_⟩
    · rw [if_neg y, if_pos x, c1, Option.bind_some]
      dsimp only
      rw [et, Option.bind_some, Option.bind_some]
    · rw [yS_oi _ _ _ _ (by omega), c3.1 f (by omega) (by omega)]; exact fB.1 f w
    · rw [yS_q _ _ _ w, c3.2 p w]; exact fB.2 p w
    · rw [yS_oi _ _ _ _ (by decide)]; exact c2
    · rw [yS_oi _ _ _ _ (by decide), c3.1 29 (by decide) (by decide)]; exact b29
    · rw [yS_oi _ _ _ _ (by decide)]
      refine c4 0 b31 ?_
      rw [htok] at e
      split at e <;> omega
    · rw [htok] at e
      split at e <;> omega
    · rw [htok] at e
      split at e <;> omega
  · have een : en v ts q = q + 1 := by unfold en; rw [if_neg y, if_neg x]
    have htok : tok v ts q = if isSg (v q) = true then v q else 3 := by unfold tok; rw [if_pos z, if_neg y, if_neg x]
    obtain ⟨t, t1, t2, t3⟩ : ∃ t, (if isSg (v q) = true then (some (nI (v q))) else (some (-1 : Int32))) = some t ∧ t = mtk (tok v ts q) ∧ (tok v ts q = 3 ∨ (40 ≤ tok v ts q ∧ tok v ts q ≤ 61)) := by
      rw [htok]
      by_cases w : isSg (v q) = true
      · have w' := of_decide_eq_true w
        refine ⟨_, if_pos w, ?_, .inr (by rw [if_pos w]; omega)⟩
        rw [if_pos w]
        unfold mtk
        rw [if_neg (by omega), if_neg (by omega), if_neg (by omega), if_neg (by omega), if_neg (by omega), if_neg (by omega)]
      · refine ⟨_, if_neg w, ?_, .inl (by rw [if_neg w])⟩
        rw [if_neg w]
        rfl
    refine ⟨yS (yS B 50 30 t) 50 28 (nI (q + 1)), start2 _ ?_, ⟨fun f w => ?_, fun p w => ?_⟩, ?_, ?_, ?_, fun e => ?_, fun e => ?_, fun e => ?_⟩
    · rw [if_neg y, if_neg x, t1, Option.bind_some, Option.bind_some, yS_oi _ _ _ _ (by decide), b28, incN, Option.bind_some]
    · rw [yS_oi _ _ _ _ (by omega), yS_oi _ _ _ _ (by omega)]; exact fB.1 f w
    · rw [yS_q _ _ _ w, yS_q _ _ _ w]; exact fB.2 p w
    · rw [yS_at, een]
    · rw [yS_oi _ _ _ _ (by decide), yS_oi _ _ _ _ (by decide)]; exact b29
    · rw [yS_oi _ _ _ _ (by decide), yS_at]; exact t2
    · omega
    · omega
    · omega
