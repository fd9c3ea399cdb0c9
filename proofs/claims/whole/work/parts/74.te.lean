/-! a part, a text -/
def PTo (tk nv : Nat → Nat) (p i : Nat) (out : Ot) (i' : Nat) (out' : Ot) : Prop := tk i = 256 + p ∧ ∃ n, rn tk nv n (i + 1, true, true, [], 0, out) = .inr (some out', i')
def PTf (tk nv : Nat → Nat) (p i : Nat) (out : Ot) (j : Nat) : Prop := (tk i ≠ 256 + p ∧ j = i) ∨ (tk i = 256 + p ∧ ∃ n, rn tk nv n (i + 1, true, true, [], 0, out) = .inr (none, j))
theorem FK_part {K : yK} {pl : Nat → Nat} (hK : KSh K) (hO : FK pl (fun M => b_X1_readOr K M 34)) {p : Nat} (hp3 : p < 3) : FK pl (fun M => b_X1_readPart K M 34 (nI p)) := by
  intro M j hp h
  obtain ⟨g1, -⟩ := hK.g34
  obtain ⟨M1, a1, a2, a3⟩ := h.expect hK hp (w := 256 + p) (by omega)
  obtain ⟨M2, b1, b2, b3⟩ := hO M1 j hp a2
  obtain ⟨M3, c1, c2, c3⟩ := b2.expect hK hp (w := 59) (by omega)
  refine ⟨M3, ?_, c2, (a3.tr b3).tr c3⟩
  have b1 : b_X1_readOr K M1 34 = some M2 := b1
  show b_X1_readPart K M 34 (nI p) = some M3
  unfold b_X1_readPart
  rw [if_pos g1, show (256 : Int32) + nI p = nI (256 + p) from addN 256 p, a1, Option.bind_some, b1, Option.bind_some, show b_X1_expect K M2 34 59 = some M3 from c1, Option.bind_some]
theorem p_part {K : yK} {tk nv pl : Nat → Nat} {N i p : Nat} {out : Ot} {M : yM} (hK : KSh K) (hN : TKS tk nv pl N) (hp3 : p < 3) (hT : TS tk nv pl N M) (hG : GS tk M i 0 out) (hi : i < N) (hlen : out.1 ≤ i) : ∃ M', b_X1_readPart K M 34 (nI p) = some M' ∧ Fg M M' ∧ ((∃ i' out', GS tk M' i' 0 out' ∧ i < i' ∧ i' < N ∧ out'.1 + 1 ≤ i' ∧ OX out out' ∧ PTo tk nv p i out i' out') ∨ ∃ j, GF pl M' j ∧ j < N ∧ PTf tk nv p i out j) := by
  obtain ⟨g1, -⟩ := hK.g34
  obtain ⟨⟨-, -, hor⟩, hfk⟩ := CT_lv hK hN 8
  have fo : FK pl (fun M => b_X1_readOr K M 34) := (hfk (by omega)).2.2
  have hor : CT tk nv pl N (fun M => b_X1_readOr K M 34) 0 1 8 (fun _ mn => mn = true) (poOr tk nv) := hor
  have hpl := fun j hj => (hN.2.2 j hj).2.2
  obtain ⟨M1, a1, a2, a3⟩ := hG.expect hK hN hT hi (w := 256 + p) (by omega)
  unfold b_X1_readPart
  rw [if_pos g1, show (256 : Int32) + nI p = nI (256 + p) from addN 256 p, a1, Option.bind_some]
  rcases a3 with ⟨t0, a4⟩ | ⟨t0, a4⟩
  · have hi2 := hN.nx hi (show tk i ≠ 0 by omega)
    obtain ⟨M2, b1, b2, b3⟩ := hor M1 (i + 1) 0 out true [] (hT.cg a2) a4 hi2 (by omega) (by omega) (by show out.1 + 0 ≤ i + 1; omega) (Nat.le_refl 0) rfl
    have b1 : b_X1_readOr K M1 34 = some M2 := b1
    rw [b1, Option.bind_some]
    rcases b3 with ⟨i', out', n, s, c5, c6, c7, c8, c9, c10, c11, c12, c13, c14⟩ | ⟨j, n, c5, c6, c7⟩
    · have hu : unwS 1 s.2.2.2 = ([], 0, out') := c13
      have c8' : out'.1 + 0 ≤ i' := c8
      obtain ⟨M3, m1, m2, m3⟩ := c5.expect hK hN (hT.cg (a2.tr b2)) c7 (w := 59) (by decide)
      rw [show b_X1_expect K M2 34 59 = some M3 from m1, Option.bind_some]
      refine ⟨M3, rfl, (a2.tr b2).tr m2, ?_⟩
      rcases m3 with ⟨q1, q2⟩ | ⟨q1, q2⟩
      · have hs2 : stp tk nv s = .inr (some out', i' + 1) := by
          rw [stp_n c12, c11, stpN, if_pos q1, hu]
          rfl
        exact .inl ⟨i' + 1, out', q2, by omega, hN.nx c7 (by omega), by omega, c9, t0, n + 1, by rw [rn_add n _ _ c10]; exact rn_1r hs2⟩
      · have hs2 : stp tk nv s = .inr (none, i') := by
          by_cases y : tk i' = 60 ∨ tk i' = 61
          · exact c14.2 y
          · obtain ⟨z1, z2, z3, z4, z5⟩ := c14.1
            rw [stp_n c12, c11, stpN, hu, if_neg q1]
            by_cases y9 : tk i' = 41
            · rw [if_pos y9]; rfl
            · rw [if_neg y9, if_pos]
              unfold sgnT
              rw [if_neg z4, if_neg z5, if_neg (fun e => y (.inl e)), if_neg (fun e => y (.inr e)), if_neg z2, if_neg z3, if_neg z1]
        exact .inr ⟨i', q2, c7, .inr ⟨t0, n + 1, by rw [rn_add n _ _ c10]; exact rn_1r hs2⟩⟩
    · obtain ⟨M3, m1, m2, m3⟩ := c5.expect hK (hpl j c6) (w := 59) (by decide)
      rw [show b_X1_expect K M2 34 59 = some M3 from m1, Option.bind_some]
      exact ⟨M3, rfl, (a2.tr b2).tr m3, .inr ⟨j, m2, c6, .inr ⟨t0, n, c7⟩⟩⟩
  · obtain ⟨M2, b1, b2, b3⟩ := fo M1 i (hpl i hi) a4
    have b1 : b_X1_readOr K M1 34 = some M2 := b1
    obtain ⟨M3, m1, m2, m3⟩ := b2.expect hK (hpl i hi) (w := 59) (by decide)
    rw [b1, Option.bind_some, show b_X1_expect K M2 34 59 = some M3 from m1, Option.bind_some]
    exact ⟨M3, rfl, (a2.tr b3).tr m3, .inr ⟨i, m2, hi, .inl ⟨t0, rfl⟩⟩⟩
def out0 : Ot := (0, fun _ => 0)
/-- a text's parts, one behind the other -/
def TXo (tk nv : Nat → Nat) (o1 o2 o3 : Ot) : Prop := ∃ i1 i2 i3, PTo tk nv 0 0 out0 i1 o1 ∧ PTo tk nv 1 i1 o1 i2 o2 ∧ PTo tk nv 2 i2 o2 i3 o3 ∧ tk i3 = 0
def TXf (tk nv : Nat → Nat) (j : Nat) : Prop := PTf tk nv 0 0 out0 j ∨ (∃ i1 o1, PTo tk nv 0 0 out0 i1 o1 ∧ PTf tk nv 1 i1 o1 j) ∨ (∃ i1 o1 i2 o2, PTo tk nv 0 0 out0 i1 o1 ∧ PTo tk nv 1 i1 o1 i2 o2 ∧ PTf tk nv 2 i2 o2 j) ∨ ∃ i1 o1 i2 o2 o3, PTo tk nv 0 0 out0 i1 o1 ∧ PTo tk nv 1 i1 o1 i2 o2 ∧ PTo tk nv 2 i2 o2 j o3 ∧ tk j ≠ 0
def mkX (o1 o2 o3 : Ot) : Tx := (o3.2, fun p => if p = 0 then 0 else if p = 1 then o1.1 else if p = 2 then o2.1 else o3.1)
theorem mkX_W {o1 o2 o3 : Ot} (h1 : OX out0 o1) (h2 : OX o1 o2) (h3 : OX o2 o3) (hl : o3.1 ≤ 159) : TxW (mkX o1 o2 o3) := by
  obtain ⟨a1, a2, a3⟩ := h1
  obtain ⟨b1, b2, b3⟩ := h2
  obtain ⟨c1, c2, c3⟩ := h3
  refine ⟨rfl, Nat.zero_le _, b1, c1, hl, fun p hp => ?_⟩
  rcases (show p = 0 ∨ p = 1 ∨ p = 2 by omega) with rfl | rfl | rfl
  · show okR o3.2 (o1.1 - 0) 0 0
    exact okD_R _ _ _ (okD_cg _ _ _ _ (fun j z1 z2 => (c2 j (by omega)).trans (b2 j (by omega))) (a3 0))
  · show okR o3.2 (o2.1 - o1.1) o1.1 0
    exact okD_R _ _ _ (okD_cg _ _ _ _ (fun j z1 z2 => c2 j (by omega)) (b3 0))
  · show okR o3.2 (o3.1 - o2.1) o2.1 0
    exact okD_R _ _ _ (c3 0)
/-- places made are new; nothing old has changed but texts -/
def Kx (K K' : yK) (k : Nat) : Prop := K.1 ≤ K'.1 ∧ (∀ p, p < K.1 → K'.2.1 p = K.2.1 p) ∧ ∀ p f, p < K.1 → (p ≠ 1 ∨ f ≠ k) → K'.2.2 p f = K.2.2 p f
theorem xT.ext {K K' : yK} {M M' : yM} {k l : Nat} {x : Tx} (hK : KSh K) (h : xT K M l x) (g : Kx K K' k) (hl : l ≠ k) (hM : ∀ q, (q = 2 ∨ q = 3 ∨ 71 ≤ q) → q < K.1 → M' q = M q) : xT K' M' l x := by
  obtain ⟨lp, cp, h1, h2, h3, h4, h5, h6, h7, h8, h9⟩ := h
  obtain ⟨g1, g2, g3⟩ := g
  have hlp : lp < K.1 := (of_decide_eq_true h2).1
  have h71 := hK.1
  have e2 : gO K' lp 2 = true := by
    obtain ⟨z1, z2⟩ := of_decide_eq_true h2
    exact decide_eq_true ⟨by omega, by rw [g2 lp hlp]; exact z2⟩
  refine ⟨lp, cp, ?_, e2, ?_, ⟨by have := h4.1; omega, by rw [g2 cp h4.1]; exact h4.2⟩, h5, h6, ?_, ?_, fun i hi => ?_⟩
  · rw [g3 1 l (by omega) (.inr hl)]; exact h1
  · rw [g3 lp 0 hlp (.inl (by omega))]; exact h3
  · rw [hM lp (by omega) hlp]; exact h7
  · rw [hM lp (by omega) hlp]; exact h8
  · rw [hM cp (by omega) h4.1]; exact h9 i hi
theorem p_lawOf {K : yK} {tk nv pl : Nat → Nat} {N : Nat} {M Ms : yM} (hK : KSh K) (hK2 : K.1 + 2 ≤ 200) (hN : TKS tk nv pl N) {a1 : Nat} {sz : Int32} (hsc : b_X6_scan K M 35 a1 sz = some Ms) (hT : TS tk nv pl N Ms) (hF : ∀ q, q ≠ 35 → q ≠ 36 → q ≠ 37 → q ≠ 38 → Ms q = M q) :
    (∃ o1 o2 o3 M', TXo tk nv o1 o2 o3 ∧ TxW (mkX o1 o2 o3) ∧ b_X1_lawOf K M 34 a1 sz = some (some K.1, yKr (yKn (yKn K (5, 0)) (0, o3.1)) K.1 0 (K.1 + 1), M') ∧ M' K.1 1 = nI o1.1 ∧ M' K.1 2 = nI o2.1 ∧ (∀ i, i < o3.1 → M' (K.1 + 1) i = xc (o3.2 i)) ∧ ∀ q, (q < 34 ∨ 39 < q) → q < K.1 → M' q = M q) ∨ ∃ j M', TXf tk nv j ∧ j < N ∧ b_X1_lawOf K M 34 a1 sz = some (none, K, M') ∧ M' 34 6 = nI (pl j) ∧ ∀ q, (q < 34 ∨ 39 < q) → M' q = M q := by
  obtain ⟨g1, g2, g3, g4, -, -, -, a39, -, -, -⟩ := hK.g34
  obtain ⟨-, hfk⟩ := CT_lv hK hN 8
  have fo : FK pl (fun M => b_X1_readOr K M 34) := (hfk (by omega)).2.2
  have hpl := fun j hj => (hN.2.2 j hj).2.2
  have h71 := hK.1
  have h161 := hN.1
  obtain ⟨P, hP⟩ : ∃ P, P = yS (yS (yS (yS (yS Ms 34 3 0) 34 4 (ctk (tk 0))) 34 5 0) 34 6 (-1)) 34 2 0 := ⟨_, rfl⟩
  have fP : Fg Ms P := by
    rw [hP]
    exact ((((Fg.f (by decide)).tr (Fg.f (by decide))).tr (Fg.f (by decide))).tr (Fg.f (by decide))).tr (Fg.f (by decide))
  have gP : GS tk P 0 0 out0 := by
    refine ⟨⟨?_, ?_, ?_, ?_, ?_⟩, fun j hj => absurd hj (Nat.not_lt_zero _)⟩ <;> rw [hP] <;> simp [yS] <;> rfl
  have tP : TS tk nv pl N P := hT.cg fP
  -- the rest behind three parts
  have start : ∀ r, (Option.bind (b_X1_readPart K P 34 ((0 : Int32))) fun r11 => (Option.bind (some (r11 34 2)) fun v12 => (Option.bind (b_X1_readPart K r11 34 ((1 : Int32))) fun r13 => (Option.bind (some (r13 34 2)) fun v14 => (Option.bind (b_X1_readPart K r13 34 ((2 : Int32))) fun r15 => (Option.bind (if (r15 34 4) = 0 then (some r15) else (Option.bind (b_X1_fail K r15 34) fun r18 => (some r18))) fun j17 => (if 0 ≤ (j17 34 6) then (some (none, K, j17)) else (if K.1 < 1000000 then (if 34 < K.1 then (Option.bind (some K.1) fun p22 => (Option.bind (some (yKn K (5, 0))) fun K23 => (Option.bind (some (yMn K j17)) fun M24 => (if gO K23 34 1 = true then (Option.bind (K23.2.2 34 1) fun q26 => (if p22 < K23.1 then (if 34 < K23.1 then (Option.bind (b_J7_copyOf_59c91 K23 M24 q26 ((M24 34 2))) fun r27 => (if p22 < r27.2.1.1 then (if 34 < r27.2.1.1 then (Option.bind (b_X3_init r27.2.1 r27.2.2 p22 r27.1 v12 v14) fun r30 => (some ((some p22), r30.1, r30.2))) else none) else none)) else none) else none)) else none)))) else none) else none)))))))) = some r → b_X1_lawOf K M 34 a1 sz = some r := by
    intro r hr
    unfold b_X1_lawOf
    rw [if_pos g1, g2, Option.bind_some, if_pos g4, hsc, Option.bind_some, Option.bind_some, show b_X6_tokenAt K (yS Ms 34 3 0) 35 0 = some (ctk (tk 0)) from (p_tokenAt (i := 0) hK h161.2 (hT.cg (Fg.f (by decide))) (by omega)).1, Option.bind_some, Option.bind_some, Option.bind_some, Option.bind_some, Option.bind_some, ← hP]
    exact hr
  have fq : ∀ M', Fg P M' → ∀ q, (q < 34 ∨ 39 < q) → M' q = M q := fun M' h q hq => by rw [h.2 q (by omega) (by omega), fP.2 q (by omega) (by omega), hF q (by omega) (by omega) (by omega) (by omega)]
  have done : ∀ Q j, GF pl Q j → j < N → (Option.bind (if (Q 34 4) = 0 then (some Q) else (Option.bind (b_X1_fail K Q 34) fun r18 => (some r18))) fun j17 => (if 0 ≤ (j17 34 6) then (some (none, K, j17)) else none)) = (Option.bind (b_X1_fail K Q 34) fun j17 => (if 0 ≤ (j17 34 6) then (some ((none : Option Nat), K, j17)) else none)) := by
    intro Q j h hj
    rw [h.1, if_neg (by decide)]
    cases b_X1_fail K Q 34 <;> rfl
  obtain ⟨M1, p1, p2, p3⟩ := p_part (p := 0) hK hN (by omega) tP gP (by omega) (Nat.le_refl 0)
  have p1 : b_X1_readPart K P 34 0 = some M1 := p1
  rcases p3 with ⟨i1, o1, q1, q2, q3, q4, q5, q6⟩ | ⟨j, q1, q2, q3⟩
  rotate_left
  · obtain ⟨M2, b1, b2, b3⟩ := FK_part hK fo (p := 1) (by omega) M1 j (hpl j q2) q1
    obtain ⟨M3, c1, c2, c3⟩ := FK_part hK fo (p := 2) (by omega) M2 j (hpl j q2) b2
    obtain ⟨M4, d1, d2, d3⟩ := c2.fail hK (hpl j q2)
    have b1 : b_X1_readPart K M1 34 1 = some M2 := b1
    have c1 : b_X1_readPart K M2 34 2 = some M3 := c1
    refine .inr ⟨j, M4, .inl q3, q2, start _ ?_, d2.2, fq M4 (((p2.tr b3).tr c3).tr d3)⟩
    rw [p1, Option.bind_some, Option.bind_some, b1, Option.bind_some, Option.bind_some, c1, Option.bind_some, c2.1, if_neg (by decide), d1, Option.bind_some, Option.bind_some, d2.2, if_pos (ge0 (by have := hpl j q2; omega))]
  obtain ⟨M2, r1, r2, r3⟩ := p_part (p := 1) hK hN (by omega) (tP.cg p2) q1 q3 (by omega)
  have r1 : b_X1_readPart K M1 34 1 = some M2 := r1
  rcases r3 with ⟨i2, o2, s1, s2, s3, s4, s5, s6⟩ | ⟨j, s1, s2, s3⟩
  rotate_left
  · obtain ⟨M3, c1, c2, c3⟩ := FK_part hK fo (p := 2) (by omega) M2 j (hpl j s2) s1
    obtain ⟨M4, d1, d2, d3⟩ := c2.fail hK (hpl j s2)
    have c1 : b_X1_readPart K M2 34 2 = some M3 := c1
    refine .inr ⟨j, M4, .inr (.inl ⟨i1, o1, q6, s3⟩), s2, start _ ?_, d2.2, fq M4 (((p2.tr r2).tr c3).tr d3)⟩
    rw [p1, Option.bind_some, Option.bind_some, r1, Option.bind_some, Option.bind_some, c1, Option.bind_some, c2.1, if_neg (by decide), d1, Option.bind_some, Option.bind_some, d2.2, if_pos (ge0 (by have := hpl j s2; omega))]
  obtain ⟨M3, t1, t2, t3⟩ := p_part (p := 2) hK hN (by omega) ((tP.cg p2).cg r2) s1 s3 (by omega)
  have t1 : b_X1_readPart K M2 34 2 = some M3 := t1
  rcases t3 with ⟨i3, o3, u1, u2, u3, u4, u5, u6⟩ | ⟨j, u1, u2, u3⟩
  rotate_left
  · obtain ⟨M4, d1, d2, d3⟩ := u1.fail hK (hpl j u2)
    refine .inr ⟨j, M4, .inr (.inr (.inl ⟨i1, o1, i2, o2, q6, s6, u3⟩)), u2, start _ ?_, d2.2, fq M4 (((p2.tr r2).tr t2).tr d3)⟩
    rw [p1, Option.bind_some, Option.bind_some, r1, Option.bind_some, Option.bind_some, t1, Option.bind_some, u1.1, if_neg (by decide), d1, Option.bind_some, Option.bind_some, d2.2, if_pos (ge0 (by have := hpl j u2; omega))]
  have hv3 := (hN.2.2 i3 u3).1
  have f3 := (p2.tr r2).tr t2
  by_cases z : tk i3 = 0
  rotate_left
  · obtain ⟨M4, d1, d2, d3⟩ := u1.fail hK hN (tP.cg f3) u3
    refine .inr ⟨i3, M4, .inr (.inr (.inr ⟨i1, o1, i2, o2, o3, q6, s6, u6, z⟩)), u3, start _ ?_, d2.2, fq M4 (f3.tr d3)⟩
    rw [p1, Option.bind_some, Option.bind_some, r1, Option.bind_some, Option.bind_some, t1, Option.bind_some, tk_end u1, show (0 : Int32) = nI 0 from rfl, ctkE hv3 (by omega) (by omega), if_neg z, d1, Option.bind_some, Option.bind_some, d2.2, if_pos (show nI 0 ≤ nI (pl i3) from ge0 (by have := hpl i3 u3; omega))]
  -- a new text
  have hl3 : o3.1 ≤ 159 := by
    rcases Nat.lt_or_ge i3 (N - 1) with y | y
    · exact absurd z (hN.2.1.2 i3 y)
    · omega
  have e6 : M3 34 6 = -1 := u1.1.2.2.2.1
  have e2 : M3 34 2 = nI o3.1 := u1.1.2.2.2.2
  have m2 : M2 34 2 = nI o2.1 := s1.1.2.2.2.2
  have m1 : M1 34 2 = nI o1.1 := q1.1.2.2.2.2
  obtain ⟨K1, hK1⟩ : ∃ K1, K1 = yKn K (5, 0) := ⟨_, rfl⟩
  obtain ⟨K2, hK2'⟩ : ∃ K2, K2 = yKn K1 (0, o3.1) := ⟨_, rfl⟩
  have k11 : K1.1 = K.1 + 1 := by rw [hK1]; rfl
  have k21 : K2.1 = K.1 + 2 := by rw [hK2']; show K1.1 + 1 = _; rw [k11]
  have kk1 : ∀ q, q < K.1 → K1.2.1 q = K.2.1 q := fun q hq => by rw [hK1]; show (if q = K.1 then _ else _) = _; rw [if_neg (by omega)]
  have kr1 : ∀ q f, q < K.1 → K1.2.2 q f = K.2.2 q f := fun q f hq => by rw [hK1]; show (if q = K.1 then _ else _) = _; rw [if_neg (by omega)]
  have kk2 : ∀ q, q < K.1 + 1 → K2.2.1 q = K1.2.1 q := fun q hq => by rw [hK2']; show (if q = K1.1 then _ else _) = _; rw [if_neg (by omega)]
  have k1p : K1.2.1 K.1 = (5, 0) := by rw [hK1]; show (if K.1 = K.1 then _ else _) = _; rw [if_pos rfl]
  have k2p : K2.2.1 (K.1 + 1) = (0, o3.1) := by rw [hK2']; show (if K.1 + 1 = K1.1 then _ else _) = _; rw [if_pos k11.symm]
  obtain ⟨Q, hQ⟩ : ∃ Q, Q = yCp (yMn K1 (yMn K M3)) 39 0 (K.1 + 1) 0 (nI o3.1) := ⟨_, rfl⟩
  have q0 : ∀ q, q < K.1 → Q q = M3 q := fun q hq => by
    rw [hQ, cp_o _ _ _ _ (by omega)]
    funext i
    show (if q = K1.1 then 0 else (if q = K.1 then 0 else M3 q i)) = _
    rw [if_neg (by omega), if_neg (by omega)]
  have q1' : ∀ i, i < o3.1 → Q (K.1 + 1) i = xc (o3.2 i) := fun i hi => by
    rw [hQ, cp_at _ _ _ _ hi (by omega)]
    show (if 39 = K1.1 then 0 else (if 39 = K.1 then 0 else M3 39 i)) = _
    rw [if_neg (by omega), if_neg (by omega)]
    exact u1.2 i hi
  obtain ⟨R, hR⟩ : ∃ R, R = yS (yS Q K.1 1 (nI o1.1)) K.1 2 (nI o2.1) := ⟨_, rfl⟩
  refine .inl ⟨o1, o2, o3, R, ⟨i1, i2, i3, q6, s6, u6, z⟩, mkX_W q5 s5 u5 hl3, start _ ?_, ?_, ?_, fun i hi => ?_, fun q hq hq2 => ?_⟩
  · have gK1 : gI K1 39 = true := decide_eq_true ⟨by omega, by rw [kk1 39 (by omega), a39.2]⟩
    have len1 : Int32.ofNat (K1.2.1 39).2 = nI 160 := by rw [kk1 39 (by omega), a39.2]; rfl
    have gK2 : gI K2 39 = true := decide_eq_true ⟨by omega, by rw [kk2 39 (by omega), kk1 39 (by omega), a39.2]⟩
    have len2 : Int32.ofNat (K2.2.1 39).2 = nI 160 := by rw [kk2 39 (by omega), kk1 39 (by omega), a39.2]; rfl
    have hgc : gC K2 39 0 (K.1 + 1) 0 (nI o3.1) = true := by
      refine decide_eq_true ⟨⟨by omega, by rw [kk2 39 (by omega), kk1 39 (by omega), a39.2]⟩, ⟨by omega, by rw [k2p]⟩, by decide, by decide, nI_pos (by omega), ?_, ?_⟩
      · rw [nC (by omega), kk2 39 (by omega), kk1 39 (by omega), a39.2]
        show 0 + o3.1 ≤ 160
        omega
      · rw [nC (by omega), k2p]
        show 0 + o3.1 ≤ o3.1
        omega
    have ecopy : b_J7_copyOf_59c91 K1 (yMn K M3) 39 (nI o3.1) = some (K.1 + 1, K2, Q) := by
      unfold b_J7_copyOf_59c91
      rw [if_pos gK1, len1, iteEq (by omega) (by omega), if_neg (by omega), if_pos (by omega), if_pos (by omega), if_pos (nI_pos (by omega)), nC (by omega), if_pos (by omega), Option.bind_some, Option.bind_some, Option.bind_some, ← hK2', if_pos gK2, len2, iteLt (by omega) (by omega), if_pos (show o3.1 < 160 by omega), k11, if_pos hgc, Option.bind_some, ← hQ]
    have einit : b_X3_init K2 Q K.1 (K.1 + 1) (nI o1.1) (nI o2.1) = some (yKr K2 K.1 0 (K.1 + 1), R) := by
      have go : gO K2 K.1 2 = true := decide_eq_true ⟨by omega, by rw [kk2 K.1 (by omega), k1p]⟩
      have go2 : gO (yKr K2 K.1 0 (K.1 + 1)) K.1 2 = true := go
      unfold b_X3_init
      rw [if_pos go, if_pos (by omega), Option.bind_some, if_pos go2, Option.bind_some, Option.bind_some, ← hR]
    have go1 : gO K1 34 1 = true := by
      obtain ⟨z1, z2⟩ := of_decide_eq_true g1
      exact decide_eq_true ⟨by omega, by rw [kk1 34 (by omega)]; exact z2⟩
    have em : yMn K M3 34 2 = nI o3.1 := by
      show (if 34 = K.1 then 0 else M3 34 2) = _
      rw [if_neg (by omega)]
      exact e2
    rw [p1, Option.bind_some, Option.bind_some, r1, Option.bind_some, Option.bind_some, t1, Option.bind_some, tk_end u1, z, if_pos (by decide), Option.bind_some, e6, if_neg (by decide), if_pos (by omega), if_pos (by omega), Option.bind_some, Option.bind_some, Option.bind_some, ← hK1, if_pos go1, kr1 34 1 (by omega), g3, Option.bind_some, if_pos (by omega), if_pos (by omega), em, ecopy, Option.bind_some]
    dsimp only
    rw [if_pos (by omega), if_pos (by omega), m1, m2, einit, Option.bind_some, hK2', hK1]
  · rw [hR, yS_oi _ _ _ _ (by decide), yS_at]
  · rw [hR, yS_at]
  · rw [hR, yS_op _ _ _ _ (by omega), yS_op _ _ _ _ (by omega)]
    exact q1' i hi
  · rw [hR, yS_q _ _ _ (by omega), yS_q _ _ _ (by omega), q0 q hq2]
    exact fq M3 f3 q hq
