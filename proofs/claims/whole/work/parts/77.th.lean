/-! the reference reads a text -/
theorem q_eRun {K : yK} {tk nv pl pos : Nat → Nat} {N k : Nat} {S : yM → Prop} (hK : KSh K) (hk : k < 6) (hN : TKS tk nv pl N) (hX : NXT tk nv pl pos N K S) (hS : Sfl S) : ∀ (m n i : Nat) (M : yM) (w mn : Bool) (u : St) (r : Option Ot × Nat), N ≤ i + m → rn tk nv n (i, w, mn, u) = .inr r → S M → M 50 28 = nI (pos i) → i < N → MU M k u → SV u i →
    (∀ out' i', r = (some out', i') → ∃ M', eR K m M w mn = some (true, M') ∧ M' 50 28 = nI (pos i') ∧ i' < N ∧ out'.1 ≤ i' ∧ M' 50 36 = nI out'.1 ∧ M' 50 15 = nI k ∧ (∀ j, j < out'.1 → M' 56 (200 * k + j) = nI (out'.2 j)) ∧ FE k M M') ∧ (∀ j, r = (none, j) → ∃ M', eR K m M w mn = some (false, M') ∧ M' 50 29 = nI (pl j) ∧ FE k M M')
  | 0, n, i, M, w, mn, u, r, hm, _, _, _, hi, _, _ => absurd hi (by omega)
  | m + 1, n, i, M, w, mn, u, r, hm, hr, hM, hat, hi, hU, hV => by
    obtain ⟨n, rfl⟩ : ∃ z, n = z + 1 := by
      cases n with
      | zero => exact absurd hr (by intro e; cases e)
      | succ n => exact ⟨n, rfl⟩
    rw [rn_s] at hr
    rcases q_eStep (w := w) (mn := mn) (n := m) hK hk hN hX hS hM hat hi hU hV with ⟨s', h1, M', h2, h3, h4, h5, h6, h7, h8⟩ | ⟨out', h1, h2, h2b, M', h3, h4, h5, h6, h7, h8⟩ | ⟨h1, M', h2, h3, h4⟩
    · rw [h1] at hr
      obtain ⟨i', w', mn', u'⟩ := s'
      have h3 : i' = i + 1 := h3
      subst h3
      obtain ⟨r1, r2⟩ := q_eRun hK hk hN hX hS m n (i + 1) M' w' mn' u' r (by omega) hr (h8.sf hS hM) h5 h4 h6 h7
      refine ⟨fun o' i' e => ?_, fun j e => ?_⟩
      · obtain ⟨M2, g1, g2, g3, g4, g5, g6, g7, g8⟩ := r1 o' i' e
        exact ⟨M2, h2.trans g1, g2, g3, g4, g5, g6, g7, h8.tr g8⟩
      · obtain ⟨M2, g1, g2, g3⟩ := r2 j e
        exact ⟨M2, h2.trans g1, g2, h8.tr g3⟩
    · rw [h1] at hr
      have e0 := Sum.inr.inj hr
      refine ⟨fun o' i' e => ?_, fun j e => ?_⟩
      · rw [e] at e0
        have e1 := (Prod.mk.inj e0).1
        have e2 := (Prod.mk.inj e0).2
        have e3 := Option.some.inj e1
        subst e3
        subst e2
        exact ⟨M', h3, h4, h2, h2b, h5, h6, h7, h8⟩
      · rw [e] at e0
        exact absurd (Prod.mk.inj e0).1 (by intro z; cases z)
    · rw [h1] at hr
      have e0 := Sum.inr.inj hr
      refine ⟨fun o' i' e => ?_, fun j e => ?_⟩
      · rw [e] at e0
        exact absurd (Prod.mk.inj e0).1 (by intro z; cases z)
      · rw [e] at e0
        have e2 := (Prod.mk.inj e0).2
        subst e2
        exact ⟨M', h2, h3, h4⟩
def FT (k : Nat) (M M' : yM) : Prop := (∀ f, (f < 28 ∨ f = 32 ∨ f = 33 ∨ 36 < f) → M' 50 f = M 50 f) ∧ (∀ q, q ≠ 50 → q ≠ 56 → q ≠ 57 → q ≠ 66 → M' q = M q) ∧ (∀ j, j < 200 * k → M' 56 j = M 56 j) ∧ ∀ j, j < 4 * k → M' 57 j = M 57 j
theorem FT.rf (k : Nat) (M : yM) : FT k M M := ⟨fun _ _ => rfl, fun _ _ _ _ _ => rfl, fun _ _ => rfl, fun _ _ => rfl⟩
theorem FT.tr {k : Nat} {M M' M'' : yM} (h : FT k M M') (g : FT k M' M'') : FT k M M'' := ⟨fun f z => (g.1 f z).trans (h.1 f z), fun q z1 z2 z3 z4 => (g.2.1 q z1 z2 z3 z4).trans (h.2.1 q z1 z2 z3 z4), fun j hj => (g.2.2.1 j hj).trans (h.2.2.1 j hj), fun j hj => (g.2.2.2 j hj).trans (h.2.2.2 j hj)⟩
theorem FE.ft {k : Nat} {M M' : yM} (h : FE k M M') : FT k M M' := ⟨h.1, fun q z1 z2 _ z4 => h.2.1 q z1 z2 z4, h.2.2, fun j _ => by rw [h.2.1 57 (by decide) (by decide) (by decide)]⟩
theorem FT.sf {k : Nat} {M M' : yM} {S : yM → Prop} (h : FT k M M') (hS : Sfl S) (hM : S M) : S M' := hS M M' hM (h.1 12 (by omega)) (h.2.1 55 (by decide) (by decide) (by decide) (by decide)) (h.2.1 65 (by decide) (by decide) (by decide) (by decide))
/-- where the reading of a text stands -/
def MX (pos : Nat → Nat) (k i : Nat) (out : Ot) (M : yM) : Prop := M 50 28 = nI (pos i) ∧ M 50 36 = nI out.1 ∧ M 50 15 = nI k ∧ ∀ j, j < out.1 → M 56 (200 * k + j) = nI (out.2 j)
def tPart (K : yK) (M : yM) (p : Int32) : Option (Bool × yM) := Option.bind (b_X8_next K M 50) fun r4 => (Option.bind (if (r4 50 30) = (3 : Int32) then (if (r4 50 31) = p then (some true) else (some false)) else (some false)) fun j6 => (Option.bind (K.2.2 50 14) fun q8 => (if gA K q8 (((4 : Int32) * (r4 50 15)) + p) = true then (Option.bind (some (yS r4 q8 ((((4 : Int32) * (r4 50 15)) + p)).toNatClampNeg (r4 50 36))) fun M10 => (if j6 = true then (Option.bind (b_X8_eRead K M10 50) fun r13 => (if r13.1 = true then (some (true, r13.2)) else (some (false, r13.2)))) else (some (false, M10)))) else none)))
theorem q_tpart {K : yK} {tk nv pl pos : Nat → Nat} {N k p i : Nat} {S : yM → Prop} {out : Ot} {M : yM} (hK : KSh K) (hk : k < 6) (hN : TKS tk nv pl N) (hX : NXT tk nv pl pos N K S) (hS : Sfl S) (hp : p < 3) (hM : S M) (hi : i < N) (hl : out.1 ≤ i) (h : MX pos k i out M) :
    (∀ i' out', PTo tk nv p i out i' out' → ∃ M', tPart K M (nI p) = some (true, M') ∧ MX pos k i' out' M' ∧ i' < N ∧ out'.1 ≤ i' ∧ M' 57 (4 * k + p) = nI out.1 ∧ (∀ j, j ≠ 4 * k + p → M' 57 j = M 57 j) ∧ FT k M M') ∧ (∀ j, PTf tk nv p i out j → ∃ M', tPart K M (nI p) = some (false, M') ∧ M' 50 29 = nI (pl j) ∧ M' 50 15 = nI k ∧ FT k M M') := by
  obtain ⟨h1, h2, h3, h4⟩ := h
  have hv := (hN.2.2 i hi).1
  have h161 := hN.1.2
  obtain ⟨A, a1, a2, a3, a4, a5, -, -, a8⟩ := hX M i hM h1 hi
  obtain ⟨-, -, -, -, -, -, -, -, z3⟩ := mtk_eq hv
  have A15 : A 50 15 = nI k := by rw [a2.1 15 (by omega)]; exact h3
  have A36 : A 50 36 = nI out.1 := by rw [a2.1 36 (by omega)]; exact h2
  have a57 : isAr K 57 24 := hK.ar (by decide) rfl
  have e4 : (4 : Int32) * nI k + nI p = nI (4 * k + p) := by rw [show (4 : Int32) = nI 4 from rfl, mulN, addN]
  obtain ⟨B, hB⟩ : ∃ B, B = yS A 57 (4 * k + p) (nI out.1) := ⟨_, rfl⟩
  have bq : ∀ q, q ≠ 57 → B q = A q := fun q hq => by rw [hB, yS_q _ _ _ hq]
  have bF : FT k M B := (a2.fe (k := k)).ft.tr ⟨fun f _ => by rw [bq 50 (by decide)], fun q _ _ z3 _ => bq q z3, fun j _ => by rw [bq 56 (by decide)], fun j hj => by rw [hB, yS_oi _ _ _ _ (by omega)]⟩
  have ev : ∀ (g : Bool) (R : Bool × yM), (if (mtk (tk i)) = (3 : Int32) then (if (A 50 31) = nI p then (some true) else (some false)) else (some false)) = some g → (if g = true then (Option.bind (b_X8_eRead K B 50) fun r13 => (if r13.1 = true then (some (true, r13.2)) else (some (false, r13.2)))) else (some (false, B))) = some R → tPart K M (nI p) = some R := by
    intro g R hg hR
    unfold tPart
    rw [a1, Option.bind_some, a5, hg, Option.bind_some, hK.mr (f := 14) rfl, Option.bind_some, A15, e4, if_pos (gA_N a57 (by omega) (by omega)), nC (by omega), A36, Option.bind_some, ← hB]
    exact hR
  have hgood : tk i = 256 + p → (if (mtk (tk i)) = (3 : Int32) then (if (A 50 31) = nI p then (some true) else (some false)) else (some false)) = some true := by
    intro t
    rw [if_pos (z3.mpr (by omega)), a8 (by omega), if_pos (show nI (tk i - 256) = nI p by rw [show tk i - 256 = p by omega])]
  have hbad : tk i ≠ 256 + p → (if (mtk (tk i)) = (3 : Int32) then (if (A 50 31) = nI p then (some true) else (some false)) else (some false)) = some false := by
    intro t
    by_cases z : 256 ≤ tk i ∧ tk i < 259
    · rw [if_pos (z3.mpr z), a8 z, iteEq (by omega) (by omega), if_neg (by omega)]
    · rw [if_neg (fun e => z (z3.mp e))]
  -- the E itself
  obtain ⟨D, hD⟩ : ∃ D, D = yS (yS B 50 34 0) 50 35 0 := ⟨_, rfl⟩
  have di : ∀ f, f ≠ 34 → f ≠ 35 → D 50 f = A 50 f := fun f z1 z2 => by rw [hD, yS_oi _ _ _ _ z2, yS_oi _ _ _ _ z1, bq 50 (by decide)]
  have dq : ∀ q, q ≠ 50 → D q = B q := fun q z => by rw [hD, yS_q _ _ _ z, yS_q _ _ _ z]
  have dF : FT k M D := bF.tr ⟨fun f z => by rw [hD, yS_oi _ _ _ _ (by omega), yS_oi _ _ _ _ (by omega)], fun q z1 _ _ _ => dq q z1, fun j _ => by rw [dq 56 (by decide)], fun j _ => by rw [dq 57 (by decide)]⟩
  have dU : MU D k ([], 0, out) := by
    refine ⟨⟨?_, ?_, ?_, ?_⟩, trivial, fun j hj => ?_⟩
    · rw [hD, yS_oi _ _ _ _ (by decide), yS_at]; rfl
    · rw [hD, yS_at]; rfl
    · rw [di 36 (by decide) (by decide)]; exact A36
    · rw [di 15 (by decide) (by decide)]; exact A15
    · rw [dq 56 (by decide), bq 56 (by decide), a2.2 56 (by decide)]; exact h4 j hj
  have eE : ∀ r, eR K 1000 D true true = some r → b_X8_eRead K B 50 = some r := by
    intro r hr
    unfold b_X8_eRead
    rw [if_pos hK.mo, Option.bind_some, Option.bind_some, ← hD]
    exact hr
  have run : tk i = 256 + p → ∀ n r, rn tk nv n (i + 1, true, true, [], 0, out) = .inr r → _ := fun t n r hr => q_eRun hK hk hN hX hS 1000 n (i + 1) D true true ([], 0, out) r (by omega) hr (dF.sf hS hM) (by rw [di 28 (by decide) (by decide)]; exact a3) (hN.nx hi (by omega)) dU ⟨fun c hc => (List.not_mem_nil hc).elim, rfl, by show out.1 + 0 ≤ i + 1; omega⟩
  refine ⟨fun i' out' hpt => ?_, fun j hpf => ?_⟩
  · obtain ⟨t, n, hr⟩ := hpt
    obtain ⟨M', g1, g2, g3, g4, g5, g6, g7, g8⟩ := (run t n _ hr).1 out' i' rfl
    refine ⟨M', ev true _ (hgood t) ?_, ⟨g2, g5, g6, g7⟩, g3, g4, ?_, fun j hj => ?_, dF.tr g8.ft⟩
    · rw [if_pos rfl, eE _ g1, Option.bind_some, if_pos rfl]
    · rw [g8.2.1 57 (by decide) (by decide) (by decide), dq 57 (by decide), hB, yS_at]
    · rw [g8.2.1 57 (by decide) (by decide) (by decide), dq 57 (by decide), hB, yS_oi _ _ _ _ hj, a2.2 57 (by decide)]
  · rcases hpf with ⟨t, e⟩ | ⟨t, n, hr⟩
    · refine ⟨B, ev false _ (hbad t) (if_neg Bool.false_ne_true), ?_, ?_, bF⟩
      · rw [bq 50 (by decide), e]; exact a4
      · rw [bq 50 (by decide)]; exact A15
    · obtain ⟨M', g1, g2, g3⟩ := (run t n _ hr).2 j rfl
      refine ⟨M', ev true _ (hgood t) ?_, g2, ?_, dF.tr g3.ft⟩
      · rw [if_pos rfl, eE _ g1, Option.bind_some, if_neg Bool.false_ne_true]
      · rw [g3.1 15 (by omega), di 15 (by decide) (by decide)]; exact A15
theorem q_t26 {K : yK} {M M' : yM} {p n : Nat} {g : Bool} (hK : KSh K) (hp : p < 3) (h : tPart K M (nI p) = some (g, M')) : b_X8_text_26 K 50 (n + 1) M true (nI p) = b_X8_text_26 K 50 n M' g (nI (p + 1)) := by
  unfold tPart at h
  rw [b_X8_text_26, show (3 : Int32) = nI 3 from rfl, iteLe (by omega) (by omega), if_neg (by omega), if_pos rfl, if_pos hK.mo]
  cases hn : b_X8_next K M 50 with
  | none => rw [hn] at h; exact absurd h (by intro e; cases e)
  | some A =>
    rw [hn, Option.bind_some] at h
    rw [Option.bind_some]
    rw [show (3 : Int32) = nI 3 from rfl] at h
    cases hj : (if A 50 30 = nI 3 then (if A 50 31 = nI p then (some true) else (some false)) else (some false)) with
    | none => rw [hj] at h; exact absurd h (by intro e; cases e)
    | some j6 =>
      rw [hj, Option.bind_some] at h
      rw [Option.bind_some]
      rw [hK.mr (f := 14) rfl, Option.bind_some] at h ⊢
      by_cases ga : gA K 57 ((4 : Int32) * A 50 15 + nI p) = true
      · rw [if_pos ga, Option.bind_some] at h
        rw [if_pos ga, Option.bind_some, h, Option.bind_some, incN, Option.bind_some]
      · rw [if_neg ga] at h
        exact absurd h (by intro e; cases e)
theorem q_t26_end {K : yK} {M : yM} {n p : Nat} {g : Bool} (hp : p ≤ 3) (h : p = 3 ∨ g = false) : b_X8_text_26 K 50 (n + 1) M g (nI p) = some (g, M) := by
  rw [b_X8_text_26, show (3 : Int32) = nI 3 from rfl, iteLe (by omega) (by omega)]
  by_cases z : 3 ≤ p
  · rw [if_pos z]
  · rw [if_neg z]
    rcases h with e | e
    · omega
    · subst e
      rw [if_neg Bool.false_ne_true]
theorem q_text {K : yK} {tk nv pl pos : Nat → Nat} {N k : Nat} {S : yM → Prop} {M : yM} (hK : KSh K) (hk : k < 6) (hN : TKS tk nv pl N) (hX : NXT tk nv pl pos N K S) (hS : Sfl S) (hpos : pos 0 = 0) (hM : S M) (h15 : M 50 15 = nI k) :
    (∀ o1 o2 o3, TXo tk nv o1 o2 o3 → ∃ M', b_X8_text K M 50 = some (nI k, M') ∧ MT M' k (mkX o1 o2 o3) ∧ M' 50 15 = nI (k + 1) ∧ M' 50 12 = 0 ∧ (∀ f, (f < 28 ∨ 36 < f) → f ≠ 12 → f ≠ 15 → M' 50 f = M 50 f) ∧ (∀ q, q ≠ 50 → q ≠ 56 → q ≠ 57 → q ≠ 66 → M' q = M q) ∧ (∀ j, j < 200 * k → M' 56 j = M 56 j) ∧ ∀ j, j < 4 * k → M' 57 j = M 57 j) ∧
    (∀ j, TXf tk nv j → ∃ M', b_X8_text K M 50 = some (-100 - nI (pl j), M') ∧ M' 50 15 = nI k ∧ M' 50 12 = 0 ∧ (∀ f, (f < 28 ∨ 36 < f) → f ≠ 12 → f ≠ 15 → M' 50 f = M 50 f) ∧ (∀ q, q ≠ 50 → q ≠ 56 → q ≠ 57 → q ≠ 66 → M' q = M q) ∧ (∀ j, j < 200 * k → M' 56 j = M 56 j) ∧ ∀ j, j < 4 * k → M' 57 j = M 57 j) := by
  have a57 : isAr K 57 24 := hK.ar (by decide) rfl
  have h161 := hN.1
  obtain ⟨P, hP⟩ : ∃ P, P = yS (yS M 50 28 0) 50 36 0 := ⟨_, rfl⟩
  have pF : FT k M P := ⟨fun f z => by rw [hP, yS_oi _ _ _ _ (by omega), yS_oi _ _ _ _ (by omega)], fun q z1 _ _ _ => by rw [hP, yS_q _ _ _ z1, yS_q _ _ _ z1], fun j _ => by rw [hP, yS_op _ _ _ _ (by decide), yS_op _ _ _ _ (by decide)], fun j _ => by rw [hP, yS_op _ _ _ _ (by decide), yS_op _ _ _ _ (by decide)]⟩
  have pX : MX pos k 0 out0 P := by
    refine ⟨?_, ?_, ?_, fun j hj => absurd hj (Nat.not_lt_zero _)⟩
    · rw [hP, yS_oi _ _ _ _ (by decide), yS_at, hpos]; rfl
    · rw [hP, yS_at]; rfl
    · rw [pF.1 15 (by omega)]; exact h15
  have pS := pF.sf hS hM
  have e43 : (4 : Int32) * nI k + 3 = nI (4 * k + 3) := by rw [show (4 : Int32) = nI 4 from rfl, mulN]; exact addN _ 3
  -- the end of text()
  have last : ∀ (g : Bool) (Q : yM) (r : Int32 × yM), Q 50 15 = nI k → (if g = true then (Option.bind (some (yS (yS (yS Q 57 (4 * k + 3) (Q 50 36)) 50 12 0) 50 15 ((yS (yS Q 57 (4 * k + 3) (Q 50 36)) 50 12 0) 50 15 + (1 : Int32)))) fun M16 => (some (((M16 50 15) - (1 : Int32)), M16))) else (some (((-100 : Int32) - ((yS (yS Q 57 (4 * k + 3) (Q 50 36)) 50 12 0) 50 29)), yS (yS Q 57 (4 * k + 3) (Q 50 36)) 50 12 0))) = some r → (Option.bind (some (g, Q)) fun j7 => (Option.bind (K.2.2 50 14) fun q11 => (if gA K q11 (((4 : Int32) * (j7.2 50 15)) + (3 : Int32)) = true then (Option.bind (some (yS j7.2 q11 ((((4 : Int32) * (j7.2 50 15)) + (3 : Int32))).toNatClampNeg (j7.2 50 36))) fun M13 => (Option.bind (some (yS M13 50 12 (0 : Int32))) fun M14 => (if j7.1 = true then (Option.bind (some (yS M14 50 15 ((M14 50 15) + (1 : Int32)))) fun M16 => (some (((M16 50 15) - (1 : Int32)), M16))) else (some (((-100 : Int32) - (M14 50 29)), M14))))) else none))) = some r := by
    intro g Q r hq hr
    rw [Option.bind_some, hK.mr (f := 14) rfl, Option.bind_some]
    dsimp only
    rw [if_pos (show gA K 57 ((4 : Int32) * Q 50 15 + 3) = true by rw [hq, e43]; exact gA_N a57 (by omega) (by omega)), hq, e43, nC (by omega), Option.bind_some, Option.bind_some]
    exact hr
  have tx : ∀ (j5 : Bool × yM) (r : Int32 × yM), b_X8_text_26 K 50 1000 P true 0 = some j5 → (Option.bind (if j5.1 = true then (Option.bind (b_X8_next K j5.2 50) fun r8 => (Option.bind (if (r8 50 30) = 0 then (some true) else (some false)) fun j10 => (some (j10, r8)))) else (some (j5.1, j5.2))) fun j7 => (Option.bind (K.2.2 50 14) fun q11 => (if gA K q11 (((4 : Int32) * (j7.2 50 15)) + (3 : Int32)) = true then (Option.bind (some (yS j7.2 q11 ((((4 : Int32) * (j7.2 50 15)) + (3 : Int32))).toNatClampNeg (j7.2 50 36))) fun M13 => (Option.bind (some (yS M13 50 12 (0 : Int32))) fun M14 => (if j7.1 = true then (Option.bind (some (yS M14 50 15 ((M14 50 15) + (1 : Int32)))) fun M16 => (some (((M16 50 15) - (1 : Int32)), M16))) else (some (((-100 : Int32) - (M14 50 29)), M14))))) else none))) = some r → b_X8_text K M 50 = some r := by
    intro j5 r h5 hr
    unfold b_X8_text
    rw [if_pos hK.mo, h15, show (6 : Int32) = nI 6 from rfl, iteEq (by omega) (by omega), if_neg (by omega), Option.bind_some, Option.bind_some, ← hP, h5, Option.bind_some]
    exact hr
  -- what a fault leaves
  have bad : ∀ (Q : yM) (j : Nat), FT k M Q → Q 50 15 = nI k → Q 50 29 = nI (pl j) → b_X8_text_26 K 50 1000 P true 0 = some (false, Q) → ∃ M', b_X8_text K M 50 = some (-100 - nI (pl j), M') ∧ M' 50 15 = nI k ∧ M' 50 12 = 0 ∧ (∀ f, (f < 28 ∨ 36 < f) → f ≠ 12 → f ≠ 15 → M' 50 f = M 50 f) ∧ (∀ q, q ≠ 50 → q ≠ 56 → q ≠ 57 → q ≠ 66 → M' q = M q) ∧ (∀ j, j < 200 * k → M' 56 j = M 56 j) ∧ ∀ j, j < 4 * k → M' 57 j = M 57 j := by
    intro Q j hF hq h29 h5
    refine ⟨yS (yS Q 57 (4 * k + 3) (Q 50 36)) 50 12 0, tx _ _ h5 ?_, ?_, yS_at _ _ _ _, fun f z1 z2 z3 => ?_, fun q z1 z2 z3 z4 => ?_, fun j hj => ?_, fun j hj => ?_⟩
    · dsimp only
      rw [if_neg Bool.false_ne_true]
      refine last false Q _ hq ?_
      rw [if_neg Bool.false_ne_true, yS_oi _ _ _ _ (by decide), yS_op _ _ _ _ (by decide), h29]
    · rw [yS_oi _ _ _ _ (by decide), yS_op _ _ _ _ (by decide)]; exact hq
    · rw [yS_oi _ _ _ _ z2, yS_op _ _ _ _ (by decide)]; exact hF.1 f (by omega)
    · rw [yS_q _ _ _ z1, yS_q _ _ _ z3]; exact hF.2.1 q z1 z2 z3 z4
    · rw [yS_op _ _ _ _ (by decide), yS_op _ _ _ _ (by decide)]; exact hF.2.2.1 j hj
    · rw [yS_op _ _ _ _ (by decide), yS_oi _ _ _ _ (by omega)]; exact hF.2.2.2 j hj
  have tp0 := q_tpart (p := 0) hK hk hN hX hS (by omega) pS (show 0 < N by omega) (Nat.le_refl 0) pX
  have z0 : b_X8_text_26 K 50 1000 P true 0 = b_X8_text_26 K 50 (999 + 1) P true (nI 0) := rfl
  refine ⟨fun o1 o2 o3 hT => ?_, fun j hT => ?_⟩
  · obtain ⟨i1, i2, i3, p0, p1, p2, hend⟩ := hT
    obtain ⟨A1, a1, a2, a3, a3b, a4, a5, a6⟩ := tp0.1 _ _ p0
    obtain ⟨A2, b1, b2, b3, b3b, b4, b5, b6⟩ := (q_tpart (p := 1) hK hk hN hX hS (by omega) (a6.sf hS pS) a3 a3b a2).1 _ _ p1
    obtain ⟨A3, c1, c2, c3, c3b, c4, c5, c6⟩ := (q_tpart (p := 2) hK hk hN hX hS (by omega) ((a6.tr b6).sf hS pS) b3 b3b b2).1 _ _ p2
    have f3 := ((pF.tr a6).tr b6).tr c6
    obtain ⟨A4, d1, d2, d3, d4, d5, -⟩ := hX A3 i3 (f3.sf hS hM) c2.1 c3
    obtain ⟨-, -, -, -, -, -, -, zz, -⟩ := mtk_eq (hN.2.2 i3 c3).1
    have h5 : b_X8_text_26 K 50 1000 P true 0 = some (true, A3) := by
      rw [z0, q_t26 hK (by omega) a1, show (999 : Nat) = 998 + 1 from rfl, q_t26 hK (by omega) b1, show (998 : Nat) = 997 + 1 from rfl, q_t26 hK (by omega) c1, show (997 : Nat) = 996 + 1 from rfl]
      exact q_t26_end (by omega) (.inl rfl)
    have q15 : A4 50 15 = nI k := by rw [d2.1 15 (by omega)]; exact c2.2.2.1
    have q36 : A4 50 36 = nI o3.1 := by rw [d2.1 36 (by omega)]; exact c2.2.1
    obtain ⟨R, hR⟩ : ∃ R, R = yS (yS (yS A4 57 (4 * k + 3) (nI o3.1)) 50 12 0) 50 15 (nI (k + 1)) := ⟨_, rfl⟩
    have rq : ∀ q, q ≠ 50 → q ≠ 57 → R q = A3 q := fun q z1 z2 => by rw [hR, yS_q _ _ _ z1, yS_q _ _ _ z1, yS_q _ _ _ z2, d2.2 q z1]
    have r57 : ∀ j, j ≠ 4 * k + 3 → R 57 j = A3 57 j := fun j hj => by rw [hR, yS_op _ _ _ _ (by decide), yS_op _ _ _ _ (by decide), yS_oi _ _ _ _ hj, d2.2 57 (by decide)]
    refine ⟨R, tx _ _ h5 ?_, ⟨fun p hp => ?_, fun i hi => ?_⟩, ?_, ?_, fun f z1 z2 z3 => ?_, fun q z1 z2 z3 z4 => ?_, fun j hj => ?_, fun j hj => ?_⟩
    · dsimp only
      rw [if_pos rfl, d1, Option.bind_some, d5, if_pos (zz.mpr hend), Option.bind_some]
      refine last true A4 _ q15 ?_
      rw [if_pos rfl, q36, yS_oi _ _ _ _ (by decide), yS_op _ _ _ _ (by decide), q15, incN, Option.bind_some, ← hR, hR, yS_at, show nI (k + 1) - (1 : Int32) = nI (k + 1 - 1) from subN (b := 1) (by omega)]
      rfl
    · rcases (show p = 0 ∨ p = 1 ∨ p = 2 ∨ p = 3 by omega) with rfl | rfl | rfl | rfl
      · rw [r57 _ (by omega), c5 _ (by omega), b5 _ (by omega), a4]; rfl
      · rw [r57 _ (by omega), c5 _ (by omega), b4]; rfl
      · rw [r57 _ (by omega), c4]; rfl
      · rw [hR, yS_op _ _ _ _ (by decide), yS_op _ _ _ _ (by decide), yS_at]; rfl
    · rw [rq 56 (by decide) (by decide)]
      exact c2.2.2.2 i hi
    · rw [hR, yS_at]
    · rw [hR, yS_oi _ _ _ _ (by decide), yS_at]
    · rw [hR, yS_oi _ _ _ _ z3, yS_oi _ _ _ _ z2, yS_op _ _ _ _ (by decide), d2.1 f (by omega)]; exact f3.1 f (by omega)
    · rw [rq q z1 z3]; exact f3.2.1 q z1 z2 z3 z4
    · rw [rq 56 (by decide) (by decide)]; exact f3.2.2.1 j hj
    · rw [r57 j (by omega)]; exact f3.2.2.2 j hj
  · rcases hT with h0 | ⟨i1, o1, p0, h1⟩ | ⟨i1, o1, i2, o2, p0, p1, h2⟩ | ⟨i1, o1, i2, o2, o3, p0, p1, p2, h3⟩
    · obtain ⟨A1, a1, a2, a3, a4⟩ := tp0.2 j h0
      refine bad A1 j (pF.tr a4) a3 a2 ?_
      rw [z0, q_t26 hK (by omega) a1, show (999 : Nat) = 998 + 1 from rfl]
      exact q_t26_end (by omega) (.inr rfl)
    · obtain ⟨A1, a1, a2, a3, a3b, a4, a5, a6⟩ := tp0.1 _ _ p0
      obtain ⟨A2, b1, b2, b3, b4⟩ := (q_tpart (p := 1) hK hk hN hX hS (by omega) (a6.sf hS pS) a3 a3b a2).2 j h1
      refine bad A2 j ((pF.tr a6).tr b4) b3 b2 ?_
      rw [z0, q_t26 hK (by omega) a1, show (999 : Nat) = 998 + 1 from rfl, q_t26 hK (by omega) b1, show (998 : Nat) = 997 + 1 from rfl]
      exact q_t26_end (by omega) (.inr rfl)
    · obtain ⟨A1, a1, a2, a3, a3b, a4, a5, a6⟩ := tp0.1 _ _ p0
      obtain ⟨A2, b1, b2, b3, b3b, b4, b5, b6⟩ := (q_tpart (p := 1) hK hk hN hX hS (by omega) (a6.sf hS pS) a3 a3b a2).1 _ _ p1
      obtain ⟨A3, c1, c2, c3, c4⟩ := (q_tpart (p := 2) hK hk hN hX hS (by omega) ((a6.tr b6).sf hS pS) b3 b3b b2).2 j h2
      refine bad A3 j (((pF.tr a6).tr b6).tr c4) c3 c2 ?_
      rw [z0, q_t26 hK (by omega) a1, show (999 : Nat) = 998 + 1 from rfl, q_t26 hK (by omega) b1, show (998 : Nat) = 997 + 1 from rfl, q_t26 hK (by omega) c1, show (997 : Nat) = 996 + 1 from rfl]
      exact q_t26_end (by omega) (.inr rfl)
    · obtain ⟨A1, a1, a2, a3, a3b, a4, a5, a6⟩ := tp0.1 _ _ p0
      obtain ⟨A2, b1, b2, b3, b3b, b4, b5, b6⟩ := (q_tpart (p := 1) hK hk hN hX hS (by omega) (a6.sf hS pS) a3 a3b a2).1 _ _ p1
      obtain ⟨A3, c1, c2, c3, c3b, c4, c5, c6⟩ := (q_tpart (p := 2) hK hk hN hX hS (by omega) ((a6.tr b6).sf hS pS) b3 b3b b2).1 _ _ p2
      have f3 := ((pF.tr a6).tr b6).tr c6
      obtain ⟨A4, d1, d2, d3, d4, d5, -⟩ := hX A3 j (f3.sf hS hM) c2.1 c3
      obtain ⟨-, -, -, -, -, -, -, zz, -⟩ := mtk_eq (hN.2.2 j c3).1
      have h5 : b_X8_text_26 K 50 1000 P true 0 = some (true, A3) := by
        rw [z0, q_t26 hK (by omega) a1, show (999 : Nat) = 998 + 1 from rfl, q_t26 hK (by omega) b1, show (998 : Nat) = 997 + 1 from rfl, q_t26 hK (by omega) c1, show (997 : Nat) = 996 + 1 from rfl]
        exact q_t26_end (by omega) (.inl rfl)
      have q15 : A4 50 15 = nI k := by rw [d2.1 15 (by omega)]; exact c2.2.2.1
      have f4 := f3.tr ((d2.fe (k := k)).ft)
      refine ⟨yS (yS A4 57 (4 * k + 3) (A4 50 36)) 50 12 0, tx _ _ h5 ?_, ?_, yS_at _ _ _ _, fun f z1 z2 z3 => ?_, fun q z1 z2 z3 z4 => ?_, fun j hj => ?_, fun j hj => ?_⟩
      · dsimp only
        rw [if_pos rfl, d1, Option.bind_some, d5, if_neg (fun e => h3 (zz.mp e)), Option.bind_some]
        refine last false A4 _ q15 ?_
        rw [if_neg Bool.false_ne_true, yS_oi _ _ _ _ (by decide), yS_op _ _ _ _ (by decide), d4]
      · rw [yS_oi _ _ _ _ (by decide), yS_op _ _ _ _ (by decide)]; exact q15
      · rw [yS_oi _ _ _ _ z2, yS_op _ _ _ _ (by decide)]; exact f4.1 f (by omega)
      · rw [yS_q _ _ _ z1, yS_q _ _ _ z3]; exact f4.2.1 q z1 z2 z3 z4
      · rw [yS_op _ _ _ _ (by decide), yS_op _ _ _ _ (by decide)]; exact f4.2.2.1 j hj
      · rw [yS_op _ _ _ _ (by decide), yS_oi _ _ _ _ (by omega)]; exact f4.2.2.2 j hj
