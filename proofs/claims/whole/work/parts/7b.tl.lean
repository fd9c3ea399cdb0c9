/-! a text read -/
theorem MT.fr {M M' : yM} {k l : Nat} {x : Tx} (h : MT M l x) (hx : TxW x) (hl : l < k) (h1 : ∀ j, j < 200 * k → M' 56 j = M 56 j) (h2 : ∀ j, j < 4 * k → M' 57 j = M 57 j) : MT M' l x := by
  obtain ⟨a1, a2⟩ := h
  have hx3 : x.2 3 ≤ 159 := hx.2.2.2.2.1
  refine ⟨fun p hp => ?_, fun i hi => ?_⟩
  · rw [h2 _ (by omega)]; exact a1 p hp
  · rw [h1 _ (by omega)]; exact a2 i hi
/-- the class's places with a text more -/
def K2T (K : yK) (n : Nat) : yK := yKr (yKn (yKn K (5, 0)) (0, n)) K.1 0 (K.1 + 1)
theorem K2T_k {K : yK} {n p : Nat} (hp : p < K.1) : (K2T K n).2.1 p = K.2.1 p := by
  show (if p = K.1 + 1 then _ else (if p = K.1 then _ else K.2.1 p)) = _
  rw [if_neg (by omega), if_neg (by omega)]
theorem K2T_r {K : yK} {n p f : Nat} (hp : p < K.1) : (K2T K n).2.2 p f = K.2.2 p f := by
  show (if p = K.1 ∧ f = 0 then _ else (if p = K.1 + 1 then _ else (if p = K.1 then _ else K.2.2 p f))) = _
  rw [if_neg (by omega), if_neg (by omega), if_neg (by omega)]
theorem K2T_a {K : yK} {n : Nat} : (K2T K n).2.1 K.1 = (5, 0) ∧ (K2T K n).2.1 (K.1 + 1) = (0, n) ∧ (K2T K n).2.2 K.1 0 = some (K.1 + 1) := by
  refine ⟨?_, ?_, ?_⟩
  · show (if K.1 = K.1 + 1 then _ else (if K.1 = K.1 then _ else K.2.1 K.1)) = _
    rw [if_neg (by omega), if_pos rfl]
  · show (if K.1 + 1 = K.1 + 1 then _ else _) = _
    rw [if_pos rfl]
  · show (if K.1 = K.1 ∧ 0 = 0 then _ else _) = _
    rw [if_pos ⟨rfl, rfl⟩]
theorem K2T_S {K : yK} {n : Nat} (h : KSh K) (h2 : K.1 + 2 ≤ 200) : KSh (K2T K n) := by
  obtain ⟨h1, h3, h4, h5⟩ := h
  refine ⟨by show 71 ≤ K.1 + 2; omega, h2, fun p hp => ?_, fun p f hp hp1 => ?_⟩
  · rw [K2T_k (by omega)]; exact h4 p hp
  · rw [K2T_r (by omega)]; exact h5 p f hp hp1
theorem KSh.rt {K : yK} (h : KSh K) (k q : Nat) : KSh (yKr K 1 k q) := by
  obtain ⟨h1, h3, h4, h5⟩ := h
  refine ⟨h1, h3, h4, fun p f hp hp1 => ?_⟩
  show (if p = 1 ∧ f = k then _ else K.2.2 p f) = _
  rw [if_neg (fun z => hp1 z.1)]
  exact h5 p f hp hp1
theorem a_text {K : yK} {M : yM} {b ib : Bk} {im : Bool} {tn ts : Nat} {tx : Nat → Tx} {tp so : Nat → Int32} {sz : Nat → Nat} {ce : Nat → Nat → Int32} (h : IN K M b ib im tn ts tx tp so sz ce) : ∃ r K' M1 M2, b_X7_text K M 0 = some (r, K', M1) ∧ b_X8_text K' M1 50 = some (r, M2) ∧ K'.1 < 1000000 ∧ gO K' 50 7 = true ∧ IE K' M2 := by
  have h' := h
  obtain ⟨⟨⟨hK, hK2⟩, ⟨w2a, w2b, w2c⟩, ⟨w3a, w3b, w3c⟩, ⟨w4a, w4b⟩, w5, w6⟩, ⟨⟨c1, c11⟩, c2, ⟨c31, c32, c33⟩, c4, c5, c6⟩, ⟨⟨m1, m2, m3, m4⟩, n2, ⟨n31, n32, n33⟩, n4, n5, n6⟩⟩ := h
  have h71 := hK.1
  have e6 : ∀ n : Nat, (6 : Int32) = nI 6 := fun _ => rfl
  by_cases full : tn = 6
  · refine ⟨-4, K, M, M, ?_, ?_, by omega, hK.mo, b, ib, im, tn, ts, tx, tp, so, sz, ce, h'⟩
    · unfold b_X7_text
      rw [if_pos hK.o0, c32, if_neg (nI_pos (by omega)), e6 0, iteLt (by omega) (by omega), if_neg (by omega)]
    · unfold b_X8_text
      rw [if_pos hK.mo, n32, full]
      rfl
  obtain ⟨v, hv, ev⟩ : ∃ v : Nat → Nat, VB v ∧ ∀ i, i < ts → tp i = nI (v i) := by
    refine ⟨fun i => (tp i).toNatClampNeg % 256, fun i => Nat.mod_lt _ (by decide), fun i hi => ?_⟩
    obtain ⟨j, hj, e⟩ := w4b i hi
    show tp i = nI ((tp i).toNatClampNeg % 256)
    rw [e, nC (by omega), Nat.mod_eq_of_lt hj]
  have hT : TPc v ts M := fun i hi => by rw [c4 i hi]; exact ev i hi
  obtain ⟨Ms, s1, s2, s3⟩ := p_scan hK hv w4a hT
  have hN := T_ok (v := v) w4a
  have sm : SM v ts M := ⟨n31, fun i hi => by rw [n4 i hi]; exact ev i hi, n5⟩
  obtain ⟨gr1, -⟩ := hK.g34
  rcases p_lawOf hK (by omega) hN s1 s2 s3 with ⟨o1, o2, o3, P, t1, t2, t3, t4, t5, t6, t7⟩ | ⟨j, P, t1, t2, t3, t4, t5⟩
  · obtain ⟨K1, eK1⟩ : ∃ K1, K1 = K2T K o3.1 := ⟨_, rfl⟩
    have t3 : b_X1_lawOf K M 34 49 (nI ts) = some (some K.1, K1, P) := by rw [eK1]; exact t3
    have hK1 : KSh K1 := by rw [eK1]; exact K2T_S hK (by omega)
    have k1n : K1.1 = K.1 + 2 := by rw [eK1]; rfl
    have k1k : ∀ p, p < K.1 → K1.2.1 p = K.2.1 p := fun p hp => by rw [eK1]; exact K2T_k hp
    have k1r : ∀ p f, p < K.1 → K1.2.2 p f = K.2.2 p f := fun p f hp => by rw [eK1]; exact K2T_r hp
    have k1a : K1.2.1 K.1 = (5, 0) ∧ K1.2.1 (K.1 + 1) = (0, o3.1) ∧ K1.2.2 K.1 0 = some (K.1 + 1) := by rw [eK1]; exact K2T_a
    have k1g : gO K1 K.1 2 = true := decide_eq_true ⟨by omega, by rw [k1a.1]⟩
    have k1q : gQ K1 1 1 (nI tn) = true := decide_eq_true ⟨by omega, by rw [hK1.2.2.1 1 (by decide)]; rfl, nI_pos (by omega), by rw [hK1.2.2.1 1 (by decide), nC (by omega)]; show tn < 6; omega⟩
    obtain ⟨K2, eK2⟩ : ∃ K2, K2 = yKr K1 1 tn K.1 := ⟨_, rfl⟩
    have hK2' : KSh K2 := by rw [eK2]; exact hK1.rt _ _
    have k2n : K2.1 = K.1 + 2 := by rw [eK2]; exact k1n
    have p07 : P 0 7 = nI tn := by rw [t7 0 (by omega) (by omega)]; exact c32
    obtain ⟨Q, eQ⟩ : ∃ Q, Q = yS (yS P 0 6 0) 0 7 (nI (tn + 1)) := ⟨_, rfl⟩
    have fq : ∀ q, q ≠ 0 → (q < 34 ∨ 39 < q) → q < K.1 → Q q = M q := fun q z z1 z2 => by rw [eQ, yS_q _ _ _ z, yS_q _ _ _ z]; exact t7 q z1 z2
    have qp : ∀ q, q ≠ 0 → Q q = P q := fun q z => by rw [eQ, yS_q _ _ _ z, yS_q _ _ _ z]
    have smQ : SM v ts Q := SM_fl v ts M Q sm (by rw [fq 50 (by omega) (by omega) (by omega)]) (fq 55 (by omega) (by omega) (by omega)) (fq 65 (by omega) (by omega) (by omega))
    have q15 : Q 50 15 = nI tn := by rw [fq 50 (by omega) (by omega) (by omega)]; exact n32
    obtain ⟨R, r1, r2, r3, r4, r5, r6, r7, r8⟩ := (q_text (k := tn) hK2' (by omega) hN (q_next hK2' hv w4a) (SM_fl v ts) rfl smQ q15).1 o1 o2 o3 t1
    have rq : ∀ q, q ≠ 0 → (q < 34 ∨ 39 < q) → q ≠ 50 → q ≠ 56 → q ≠ 57 → q ≠ 66 → q < K.1 → R q = M q := fun q z z1 z2 z3 z4 z5 z6 => by rw [r6 q z2 z3 z4 z5, fq q z z1 z6]
    have rf : ∀ f, (f < 28 ∨ 36 < f) → f ≠ 12 → f ≠ 15 → R 50 f = M 50 f := fun f z z1 z2 => by rw [r5 f z z1 z2, fq 50 (by omega) (by omega) (by omega)]
    obtain ⟨x, ex⟩ : ∃ x : Nat → Tx, x = fun l => if l = tn then mkX o1 o2 o3 else tx l := ⟨_, rfl⟩
    have xn : x tn = mkX o1 o2 o3 := by rw [ex]; exact if_pos rfl
    have xo : ∀ l, l < tn → x l = tx l := fun l hl => by rw [ex]; exact if_neg (by omega)
    have k1x : Kx K K2 tn := ⟨by omega, fun p hp => by rw [eK2]; exact k1k p hp, fun p f hp z => by rw [eK2]; show (if p = 1 ∧ f = tn then _ else K1.2.2 p f) = _; rw [if_neg (by omega)]; exact k1r p f hp⟩
    have xt : ∀ l, l < tn + 1 → xT K2 R l (x l) := fun l hl => by
      by_cases z : l = tn
      · subst z
        rw [xn]
        refine ⟨K.1, K.1 + 1, ?_, ?_, ?_, ⟨by omega, ?_⟩, .inr h71, .inr (by omega), ?_, ?_, fun i hi => ?_⟩
        · rw [eK2]; show (if 1 = 1 ∧ l = l then _ else _) = _; rw [if_pos ⟨rfl, rfl⟩]
        · exact decide_eq_true ⟨by omega, by rw [eK2]; show (K1.2.1 K.1).1 = 2 + 3; rw [k1a.1]⟩
        · rw [eK2]; show (if K.1 = 1 ∧ 0 = l then _ else K1.2.2 K.1 0) = _; rw [if_neg (by omega)]; exact k1a.2.2
        · rw [eK2]; exact k1a.2.1
        · rw [r6 K.1 (by omega) (by omega) (by omega) (by omega), qp _ (by omega)]; exact t4
        · rw [r6 K.1 (by omega) (by omega) (by omega) (by omega), qp _ (by omega)]; exact t5
        · rw [r6 (K.1 + 1) (by omega) (by omega) (by omega) (by omega), qp _ (by omega)]; exact t6 i hi
      · rw [xo l (by omega)]
        exact (c5 l (by omega)).ext hK k1x z (fun q z1 z2 => rq q (by omega) (by omega) (by omega) (by omega) (by omega) (by omega) z2)
    have mt : ∀ l, l < tn + 1 → MT R l (x l) := fun l hl => by
      by_cases z : l = tn
      · subst z
        rw [xn]; exact r2
      · rw [xo l (by omega)]
        exact (m4 l (by omega)).fr (w3a l (by omega)) (show l < tn by omega) (fun j hj => by rw [r7 j hj, fq 56 (by omega) (by omega) (by omega)]) (fun j hj => by rw [r8 j hj, fq 57 (by omega) (by omega) (by omega)])
    have r06 : R 0 6 = nI 0 := by rw [r6 0 (by omega) (by omega) (by omega) (by omega), eQ, yS_oi _ _ _ _ (by decide), yS_at]; rfl
    have r07 : R 0 7 = nI (tn + 1) := by rw [r6 0 (by omega) (by omega) (by omega) (by omega), eQ, yS_at]
    have r08 : R 0 8 = M 0 8 := by rw [r6 0 (by omega) (by omega) (by omega) (by omega), eQ, yS_oi _ _ _ _ (by decide), yS_oi _ _ _ _ (by decide), t7 0 (by omega) (by omega)]
    refine ⟨nI tn, K2, Q, R, ?_, r1, by omega, hK2'.mo, b, ib, im, tn + 1, 0, x, tp, so, sz, ce, ⟨⟨hK2', by omega⟩, ⟨w2a, w2b, by omega⟩, ⟨fun l hl => ?_, by omega, by omega⟩, ⟨by omega, fun i hi => absurd hi (Nat.not_lt_zero _)⟩, fun z => ⟨(w5 z).1, (w5 z).2.1, by have := (w5 z).2.2.1; omega, (w5 z).2.2.2⟩, w6⟩, ⟨⟨c1.cg (fun q z1 z2 => rq q (by omega) (by omega) (by omega) (by omega) (by omega) (by omega) (by omega)), c11.cg (fun q z1 z2 => rq q (by omega) (by omega) (by omega) (by omega) (by omega) (by omega) (by omega))⟩, fun z => ⟨(c2 z).1.cg (fun q z1 z2 => rq q (by omega) (by omega) (by omega) (by omega) (by omega) (by omega) (by omega)), (c2 z).2.cg (fun q z1 z2 => rq q (by omega) (by omega) (by omega) (by omega) (by omega) (by omega) (by omega))⟩, ⟨r06, r07, by rw [r08]; exact c33⟩, fun i hi => absurd hi (Nat.not_lt_zero _), xt, fun s hs => ?_⟩, ⟨⟨?_, ?_, ?_⟩, ?_, ?_, mt⟩, fun z => ?_, ⟨r4, r3, ?_⟩, fun i hi => absurd hi (Nat.not_lt_zero _), fun i hi => ?_, fun s hs => ?_⟩
    · unfold b_X7_text
      rw [if_pos hK.o0, c32, if_neg (nI_pos (by omega)), e6 0, iteLt (by omega) (by omega), if_pos (by omega), hK.r03, Option.bind_some, hK.r05, Option.bind_some, if_pos gr1, if_pos (by omega), c31, t3, Option.bind_some]
      show (if gO K1 0 6 = true then _ else none) = _
      rw [if_pos hK1.o0, Option.bind_some]
      dsimp only
      rw [hK1.r00, Option.bind_some, if_pos hK1.o7, hK1.b17 iB7, Option.bind_some, yS_oi _ _ _ _ (show (7 : Nat) ≠ 6 by decide), p07, if_pos k1q, if_pos k1g, nC (by omega), Option.bind_some, ← eK2, if_pos hK2'.o0, incN, Option.bind_some, ← eQ, show Q 0 7 = nI (tn + 1) by rw [eQ, yS_at], show (1 : Int32) = nI 1 from rfl, subN (b := 1) (by omega)]
      rfl
    · by_cases z : l = tn
      · subst z; rw [xn]; exact t2
      · rw [xo l (by omega)]; exact w3a l (by omega)
    · rw [rq (41 + 2 * s) (by omega) (by omega) (by omega) (by omega) (by omega) (by omega) (by omega), rq (42 + 2 * s) (by omega) (by omega) (by omega) (by omega) (by omega) (by omega) (by omega)]; exact c6 s hs
    · rw [rf 0 (by omega) (by omega) (by omega), rf 4 (by omega) (by omega) (by omega), rf 6 (by omega) (by omega) (by omega), rf 7 (by omega) (by omega) (by omega), rf 8 (by omega) (by omega) (by omega), rf 9 (by omega) (by omega) (by omega), rf 10 (by omega) (by omega) (by omega), rf 16 (by omega) (by omega) (by omega)]; exact m1.1
    · rw [rq 51 (by omega) (by omega) (by omega) (by omega) (by omega) (by omega) (by omega), rq 52 (by omega) (by omega) (by omega) (by omega) (by omega) (by omega) (by omega), rq 53 (by omega) (by omega) (by omega) (by omega) (by omega) (by omega) (by omega)]; exact m1.2.1
    · rw [rq 54 (by omega) (by omega) (by omega) (by omega) (by omega) (by omega) (by omega)]; exact m1.2.2
    · rw [rf 49 (by omega) (by omega) (by omega)]; exact m2
    · rw [rf 50 (by omega) (by omega) (by omega)]; exact m3
    · unfold IR
      rw [rf 18 (by omega) (by omega) (by omega), rf 19 (by omega) (by omega) (by omega), rf 20 (by omega) (by omega) (by omega), rq 58 (by omega) (by omega) (by omega) (by omega) (by omega) (by omega) (by omega), rq 59 (by omega) (by omega) (by omega) (by omega) (by omega) (by omega) (by omega), rq 60 (by omega) (by omega) (by omega) (by omega) (by omega) (by omega) (by omega)]
      exact n2 z
    · rw [rf 17 (by omega) (by omega) (by omega)]; exact n33
    · rw [rq 65 (by omega) (by omega) (by omega) (by omega) (by omega) (by omega) (by omega)]; exact n5 i hi
    · rw [rq 61 (by omega) (by omega) (by omega) (by omega) (by omega) (by omega) (by omega), rq 62 (by omega) (by omega) (by omega) (by omega) (by omega) (by omega) (by omega), rq 63 (by omega) (by omega) (by omega) (by omega) (by omega) (by omega) (by omega)]; exact n6 s hs
  · obtain ⟨Q, eQ⟩ : ∃ Q, Q = yS P 0 6 0 := ⟨_, rfl⟩
    have fq : ∀ q, q ≠ 0 → (q < 34 ∨ 39 < q) → Q q = M q := fun q z z1 => by rw [eQ, yS_q _ _ _ z]; exact t5 q z1
    have smQ : SM v ts Q := SM_fl v ts M Q sm (by rw [fq 50 (by omega) (by omega)]) (fq 55 (by omega) (by omega)) (fq 65 (by omega) (by omega))
    have q15 : Q 50 15 = nI tn := by rw [fq 50 (by omega) (by omega)]; exact n32
    obtain ⟨R, r1, r3, r4, r5, r6, r7, r8⟩ := (q_text (k := tn) hK (by omega) hN (q_next hK hv w4a) (SM_fl v ts) rfl smQ q15).2 j t1
    refine ⟨-100 - nI (plT v ts j), K, Q, R, ?_, r1, by omega, hK.mo, b, ib, im, tn, 0, tx, tp, so, sz, ce, h'.tp' (M1 := Q) (fun i hi => ?_) (fun q z1 z2 z3 => fq q z1 z3) ?_ (fun i hi => absurd hi (Nat.not_lt_zero _)) (fun i z => ?_) (fun q z => r6 q (by omega) (by omega) (by omega) (by omega)) (fun l hl => ?_) r4 (fun i hi => absurd hi (Nat.not_lt_zero _)) ⟨by omega, fun i hi => absurd hi (Nat.not_lt_zero _)⟩⟩
    · unfold b_X7_text
      rw [if_pos hK.o0, c32, if_neg (nI_pos (by omega)), e6 0, iteLt (by omega) (by omega), if_pos (by omega), hK.r03, Option.bind_some, hK.r05, Option.bind_some, if_pos gr1, if_pos (by omega), c31, t3, Option.bind_some]
      show (if gO K 0 6 = true then _ else none) = _
      rw [if_pos hK.o0, Option.bind_some]
      dsimp only
      rw [hK.r03, Option.bind_some, if_pos gr1, ← eQ]
      unfold b_X1_fault
      rw [if_pos gr1, Option.bind_some, show Q 34 6 = P 34 6 by rw [eQ, yS_q _ _ _ (by decide)], t4]
    · rw [eQ, yS_oi _ _ _ _ hi, t5 0 (by omega)]
    · rw [eQ, yS_at]; rfl
    · by_cases y : i = 15
      · subst y; rw [r3, q15]
      · exact r5 i (by omega) (by omega) y
    · exact (m4 l hl).fr (w3a l hl) hl (fun j hj => by rw [r7 j hj, fq 56 (by omega) (by omega)]) (fun j hj => by rw [r8 j hj, fq 57 (by omega) (by omega)])
