/-! texts read: tokens, told as numbers: 0 the end, 1 a NUMBER, 3 nothing known, a sign's byte, 256 .. 267 words -/
def ctk (t : Nat) : Int32 := if t = 3 then -1 else nI t
def tkV (t : Nat) : Prop := t < 4 ∧ t ≠ 2 ∨ (t = 40 ∨ t = 41 ∨ t = 42 ∨ t = 43 ∨ t = 45 ∨ t = 59 ∨ t = 60 ∨ t = 61) ∨ (256 ≤ t ∧ t < 268)
/-- a row of N tokens, the last the end -/
def TKS (tk nv pl : Nat → Nat) (N : Nat) : Prop := (1 ≤ N ∧ N ≤ 161) ∧ (tk (N - 1) = 0 ∧ ∀ i, i < N - 1 → tk i ≠ 0) ∧ ∀ i, i < N → tkV (tk i) ∧ (tk i = 1 → nv i ≤ 9999) ∧ pl i < 1000
/-- the class's tokens -/
def TS (tk nv pl : Nat → Nat) (N : Nat) (M : yM) : Prop := M 35 3 = nI N ∧ ∀ i, i < N → M 36 i = ctk (tk i) ∧ M 37 i = nI (pl i) ∧ (tk i = 1 → M 38 i = nI (nv i))
abbrev Ot : Type := Nat × (Nat → Nat)
def pu (o : Ot) (c : Nat) : Ot := (o.1 + 1, upN o.2 o.1 c)
/-- the class's grammar stands at token i, o open, this written -/
def GS (tk : Nat → Nat) (M : yM) (i o : Nat) (out : Ot) : Prop := (M 34 3 = nI i ∧ M 34 4 = ctk (tk i) ∧ M 34 5 = nI o ∧ M 34 6 = -1 ∧ M 34 2 = nI out.1) ∧ ∀ j, j < out.1 → M 39 j = xc (out.2 j)
/-- or has failed at j -/
def GF (pl : Nat → Nat) (M : yM) (j : Nat) : Prop := M 34 4 = -1 ∧ M 34 6 = nI (pl j)
def Fg (M M' : yM) : Prop := (∀ i, (i < 2 ∨ 6 < i) → M' 34 i = M 34 i) ∧ ∀ q, q ≠ 34 → q ≠ 39 → M' q = M q
theorem Fg.rf (M : yM) : Fg M M := ⟨fun _ _ => rfl, fun _ _ _ => rfl⟩
theorem Fg.tr {M M' M'' : yM} (h : Fg M M') (g : Fg M' M'') : Fg M M'' := ⟨fun i z => (g.1 i z).trans (h.1 i z), fun q z1 z2 => (g.2 q z1 z2).trans (h.2 q z1 z2)⟩
theorem Fg.f {M : yM} {i : Nat} {v : Int32} (hi : 2 ≤ i ∧ i ≤ 6) : Fg M (yS M 34 i v) := ⟨fun j z => yS_oi _ _ _ _ (by omega), fun q z1 _ => yS_q _ _ _ z1⟩
theorem Fg.c {M : yM} {i : Nat} {v : Int32} : Fg M (yS M 39 i v) := ⟨fun j z => yS_op _ _ _ _ (by decide) _, fun q _ z2 => yS_q _ _ _ z2⟩
theorem TS.cg {tk nv pl : Nat → Nat} {N : Nat} {M M' : yM} (h : TS tk nv pl N M) (g : Fg M M') : TS tk nv pl N M' := by
  unfold TS
  rw [g.2 35 (by decide) (by decide), g.2 36 (by decide) (by decide), g.2 37 (by decide) (by decide), g.2 38 (by decide) (by decide)]
  exact h
theorem KSh.g34 {K : yK} (h : KSh K) : gO K 34 1 = true ∧ K.2.2 34 0 = some 35 ∧ K.2.2 34 1 = some 39 ∧ gO K 35 5 = true ∧ K.2.2 35 0 = some 36 ∧ K.2.2 35 1 = some 37 ∧ K.2.2 35 2 = some 38 ∧ isAr K 39 160 ∧ isAr K 36 161 ∧ isAr K 37 161 ∧ isAr K 38 161 :=
  ⟨h.ob (by decide) rfl, h.rf (by decide) (by decide) rfl, h.rf (by decide) (by decide) rfl, h.ob (by decide) rfl, h.rf (by decide) (by decide) rfl, h.rf (by decide) (by decide) rfl, h.rf (by decide) (by decide) rfl, h.ar (by decide) rfl, h.ar (by decide) rfl, h.ar (by decide) rfl, h.ar (by decide) rfl⟩
theorem p_tokenAt {K : yK} {M : yM} {tk nv pl : Nat → Nat} {N i : Nat} (hK : KSh K) (hN : N ≤ 161) (hT : TS tk nv pl N M) (hi : i < N) : b_X6_tokenAt K M 35 (nI i) = some (ctk (tk i)) ∧ b_X6_placeAt K M 35 (nI i) = some (nI (pl i)) ∧ (tk i = 1 → b_X6_numberAt K M 35 (nI i) = some (nI (nv i))) := by
  obtain ⟨-, -, -, g4, g5, g6, g7, -, a36, a37, a38⟩ := hK.g34
  obtain ⟨h1, h2⟩ := hT
  obtain ⟨e1, e2, e3⟩ := h2 i hi
  refine ⟨?_, ?_, fun z => ?_⟩
  · unfold b_X6_tokenAt
    rw [if_neg (nI_pos (by omega)), if_pos g4, h1, iteLe (by omega) (by omega), if_neg (by omega), g5, Option.bind_some, if_pos (gA_N a36 (by omega) (by omega)), nC (by omega), e1]
  · unfold b_X6_placeAt
    rw [if_neg (nI_pos (by omega)), if_pos g4, h1, iteLe (by omega) (by omega), if_neg (by omega), g6, Option.bind_some, if_pos (gA_N a37 (by omega) (by omega)), nC (by omega), e2]
  · unfold b_X6_numberAt
    rw [if_neg (nI_pos (by omega)), if_pos g4, h1, iteLe (by omega) (by omega), if_neg (by omega), g7, Option.bind_some, if_pos (gA_N a38 (by omega) (by omega)), nC (by omega), e3 z]
theorem p_emit {K : yK} {M : yM} (hK : KSh K) (v : Int32) : ∃ M', b_X1_emit K M 34 v = some M' ∧ (∀ i, i ≠ 2 → M' 34 i = M 34 i) ∧ Fg M M' ∧ ∀ l, l < 160 → M 34 2 = nI l → M' = yS (yS M 39 l v) 34 2 (nI (l + 1)) := by
  obtain ⟨g1, -, g3, -, -, -, -, a39, -, -, -⟩ := hK.g34
  unfold b_X1_emit
  rw [if_pos g1]
  by_cases z : M 34 2 < 0
  · rw [if_pos z]
    refine ⟨M, rfl, fun _ _ => rfl, Fg.rf _, fun l hl e => ?_⟩
    rw [e] at z
    exact absurd z (nI_pos (by omega))
  · obtain ⟨l, hl, e⟩ := nI_of z
    rw [if_neg z, g3, Option.bind_some, if_pos (gI_N a39), len_N a39, e, iteLe (by omega) hl]
    by_cases y : 160 ≤ l
    · rw [if_pos y]
      refine ⟨M, rfl, fun _ _ => rfl, Fg.rf _, fun l' hl' e' => ?_⟩
      rw [eqN hl (by omega)] at e'
      omega
    · rw [if_neg y, if_pos (gA_N a39 (by omega) (by omega)), nC hl, Option.bind_some, yS_op _ _ _ _ (by decide), e, incN, Option.bind_some]
      refine ⟨_, rfl, fun i hi => ?_, Fg.c.tr (Fg.f (by decide)), fun l' hl' e' => ?_⟩
      · rw [yS_oi _ _ _ _ hi, yS_op _ _ _ _ (by decide)]
      · rw [eqN hl (by omega)] at e'
        rw [e']
theorem GF.emit {K : yK} {M : yM} {pl : Nat → Nat} {j : Nat} (hK : KSh K) (h : GF pl M j) (v : Int32) : ∃ M', b_X1_emit K M 34 v = some M' ∧ GF pl M' j ∧ Fg M M' := by
  obtain ⟨M', e1, e2, e3, -⟩ := p_emit (M := M) hK v
  exact ⟨M', e1, ⟨(e2 4 (by decide)).trans h.1, (e2 6 (by decide)).trans h.2⟩, e3⟩
theorem GS.emit {K : yK} {M : yM} {tk : Nat → Nat} {i o : Nat} {out : Ot} (hK : KSh K) (h : GS tk M i o out) (hl : out.1 < 160) (c : Nat) : ∃ M', b_X1_emit K M 34 (xc c) = some M' ∧ GS tk M' i o (pu out c) ∧ Fg M M' := by
  obtain ⟨M', e1, e2, e3, e4⟩ := p_emit (M := M) hK (xc c)
  obtain ⟨⟨h3, h4, h5, h6, h2⟩, hc⟩ := h
  have e := e4 _ hl h2
  refine ⟨M', e1, ⟨⟨(e2 3 (by decide)).trans h3, (e2 4 (by decide)).trans h4, (e2 5 (by decide)).trans h5, (e2 6 (by decide)).trans h6, by rw [e, yS_at]; rfl⟩, fun j hj => ?_⟩, e3⟩
  have hj' : j < out.1 + 1 := hj
  rw [e, yS_op _ _ _ _ (by decide)]
  show _ = xc (upN out.2 out.1 c j)
  by_cases z : j = out.1
  · rw [z, yS_at, upN_at]
  · rw [yS_oi _ _ _ _ z, upN_o _ _ _ z]; exact hc j (by omega)
theorem GS.fail {K : yK} {M : yM} {tk nv pl : Nat → Nat} {N i o : Nat} {out : Ot} (hK : KSh K) (hN : TKS tk nv pl N) (hT : TS tk nv pl N M) (h : GS tk M i o out) (hi : i < N) : ∃ M', b_X1_fail K M 34 = some M' ∧ GF pl M' i ∧ Fg M M' := by
  obtain ⟨g1, g2, -, g4, -⟩ := hK.g34
  obtain ⟨⟨h3, h4, h5, h6, h2⟩, hc⟩ := h
  unfold b_X1_fail
  rw [if_pos g1, h6, if_neg (by decide), g2, Option.bind_some, if_pos g4, h3, (p_tokenAt hK hN.1.2 hT hi).2.1, Option.bind_some, Option.bind_some, Option.bind_some, Option.bind_some]
  refine ⟨_, rfl, ⟨yS_at _ _ _ _, by rw [yS_oi _ _ _ _ (by decide), yS_at]⟩, (Fg.f (by decide)).tr (Fg.f (by decide))⟩
theorem GF.fail {K : yK} {M : yM} {pl : Nat → Nat} {j : Nat} (hK : KSh K) (hp : pl j < 1000) (h : GF pl M j) : ∃ M', b_X1_fail K M 34 = some M' ∧ GF pl M' j ∧ Fg M M' := by
  obtain ⟨g1, -⟩ := hK.g34
  unfold b_X1_fail
  rw [if_pos g1, h.2, if_pos (ge0 (by omega)), Option.bind_some, Option.bind_some]
  exact ⟨_, rfl, ⟨yS_at _ _ _ _, by rw [yS_oi _ _ _ _ (by decide)]; exact h.2⟩, Fg.f (by decide)⟩
theorem GS.next {K : yK} {M : yM} {tk nv pl : Nat → Nat} {N i o : Nat} {out : Ot} (hK : KSh K) (hN : TKS tk nv pl N) (hT : TS tk nv pl N M) (h : GS tk M i o out) (hi : i + 1 < N) : ∃ M', b_X1_next K M 34 = some M' ∧ GS tk M' (i + 1) o out ∧ Fg M M' := by
  obtain ⟨g1, g2, -, g4, -⟩ := hK.g34
  obtain ⟨⟨h3, h4, h5, h6, h2⟩, hc⟩ := h
  have hT' : TS tk nv pl N (yS M 34 3 (nI (i + 1))) := hT.cg (Fg.f (by decide))
  unfold b_X1_next
  rw [if_pos g1, h3, incN, Option.bind_some, g2, Option.bind_some, if_pos g4, yS_at, (p_tokenAt hK hN.1.2 hT' hi).1, Option.bind_some, Option.bind_some]
  refine ⟨_, rfl, ⟨⟨?_, yS_at _ _ _ _, ?_, ?_, ?_⟩, fun j hj => ?_⟩, (Fg.f (by decide)).tr (Fg.f (by decide))⟩
  · rw [yS_oi _ _ _ _ (by decide), yS_at]
  · rw [yS_oi _ _ _ _ (by decide), yS_oi _ _ _ _ (by decide)]; exact h5
  · rw [yS_oi _ _ _ _ (by decide), yS_oi _ _ _ _ (by decide)]; exact h6
  · rw [yS_oi _ _ _ _ (by decide), yS_oi _ _ _ _ (by decide)]; exact h2
  · rw [yS_op _ _ _ _ (by decide), yS_op _ _ _ _ (by decide)]; exact hc j hj
theorem TKS.nx {tk nv pl : Nat → Nat} {N i : Nat} (h : TKS tk nv pl N) (hi : i < N) (h0 : tk i ≠ 0) : i + 1 < N := by
  obtain ⟨⟨h1, -⟩, ⟨h2, -⟩, -⟩ := h
  rcases Nat.lt_or_ge (i + 1) N with z | z
  · exact z
  · exfalso
    apply h0
    rw [show i = N - 1 by omega]
    exact h2
theorem ctk_eq {t u : Nat} (ht : tkV t) (hu : u < 1000) (h3 : u ≠ 3) : (ctk t = nI u) = (t = u) := by
  unfold ctk
  unfold tkV at ht
  apply propext
  by_cases z : t = 3
  · rw [if_pos z]
    refine ⟨fun e => ?_, fun e => by omega⟩
    exact absurd e.symm (nI_m1 (by omega))
  · rw [if_neg z, eqN (by omega) (by omega)]
theorem GS.op {tk : Nat → Nat} {M : yM} {i o o' : Nat} {out : Ot} (h : GS tk M i o out) : GS tk (yS M 34 5 (nI o')) i o' out := by
  obtain ⟨⟨h3, h4, h5, h6, h2⟩, hc⟩ := h
  refine ⟨⟨?_, ?_, yS_at _ _ _ _, ?_, ?_⟩, fun j hj => ?_⟩
  · rw [yS_oi _ _ _ _ (by decide)]; exact h3
  · rw [yS_oi _ _ _ _ (by decide)]; exact h4
  · rw [yS_oi _ _ _ _ (by decide)]; exact h6
  · rw [yS_oi _ _ _ _ (by decide)]; exact h2
  · rw [yS_op _ _ _ _ (by decide)]; exact hc j hj
theorem GF.op {pl : Nat → Nat} {M : yM} {j : Nat} {v : Int32} (h : GF pl M j) : GF pl (yS M 34 5 v) j := ⟨by rw [yS_oi _ _ _ _ (by decide)]; exact h.1, by rw [yS_oi _ _ _ _ (by decide)]; exact h.2⟩
/-- past a (, a not or a -: one more is open, if that may be -/
theorem GS.enter {K : yK} {M : yM} {tk nv pl : Nat → Nat} {N i o : Nat} {out : Ot} (hK : KSh K) (hN : TKS tk nv pl N) (hT : TS tk nv pl N M) (h : GS tk M i o out) (hi : i < N) (h0 : tk i ≠ 0) (ho : o ≤ 5) : ∃ M', Fg M M' ∧ ((o < 5 ∧ b_X1_enter K M 34 = some (true, M') ∧ GS tk M' (i + 1) (o + 1) out) ∨ (o = 5 ∧ b_X1_enter K M 34 = some (false, M') ∧ GF pl M' i)) := by
  obtain ⟨g1, -⟩ := hK.g34
  have e5 := h.1.2.2.1
  by_cases z : o < 5
  · obtain ⟨M', n1, n2, n3⟩ := (h.op (o' := o + 1)).next hK hN (hT.cg (Fg.f (by decide))) (hN.nx hi h0)
    refine ⟨M', (Fg.f (by decide)).tr n3, .inl ⟨z, ?_, n2⟩⟩
    unfold b_X1_enter
    rw [if_pos g1, e5, if_pos (show nI o < 5 by rw [show (5 : Int32) = nI 5 from rfl, ltN (by omega) (by omega)]; exact z), incN, Option.bind_some, n1, Option.bind_some]
  · obtain ⟨M', n1, n2, n3⟩ := h.fail hK hN hT hi
    refine ⟨M', n3, .inr ⟨by omega, ?_, n2⟩⟩
    unfold b_X1_enter
    rw [if_pos g1, e5, if_neg (show ¬ nI o < 5 by rw [show (5 : Int32) = nI 5 from rfl, ltN (by omega) (by omega)]; exact z), n1, Option.bind_some]
/-! behind a fault nothing more is read -/
def FK (pl : Nat → Nat) (f : yM → Option yM) : Prop := ∀ M j, pl j < 1000 → GF pl M j → ∃ M', f M = some M' ∧ GF pl M' j ∧ Fg M M'
theorem FK_one {K : yK} {pl : Nat → Nat} (hK : KSh K) (a b : yM → Option yM) : FK pl (fun M => b_X1_readOne_F a b K M 34) := by
  intro M j hp h
  obtain ⟨g1, -⟩ := hK.g34
  obtain ⟨M', e1, e2, e3⟩ := h.fail hK hp
  refine ⟨M', ?_, e2, e3⟩
  show b_X1_readOne_F a b K M 34 = some M'
  unfold b_X1_readOne_F
  rw [if_pos g1, h.1, if_neg (by decide), if_pos (by decide), if_neg (by decide), if_neg (by decide), e1, Option.bind_some]
theorem FK_term {K : yK} {pl : Nat → Nat} {f : yM → Option yM} (hK : KSh K) (hf : FK pl f) : FK pl (fun M => b_X1_readTerm_F f K M 34) := by
  intro M j hp h
  obtain ⟨g1, -⟩ := hK.g34
  obtain ⟨M', e1, e2, e3⟩ := hf M j hp h
  refine ⟨M', ?_, e2, e3⟩
  show b_X1_readTerm_F f K M 34 = some M'
  unfold b_X1_readTerm_F
  rw [if_pos g1, e1, Option.bind_some, show (1000 : Nat) = 999 + 1 from rfl, b_X1_readTerm_6, if_neg (by decide), if_pos g1, e2.1, if_neg (by decide), Option.bind_some]
theorem FK_sum {K : yK} {pl : Nat → Nat} {f : yM → Option yM} (hK : KSh K) (hf : FK pl f) : FK pl (fun M => b_X1_readSum_F f K M 34) := by
  intro M j hp h
  obtain ⟨g1, -⟩ := hK.g34
  obtain ⟨M', e1, e2, e3⟩ := hf M j hp h
  refine ⟨M', ?_, e2, e3⟩
  show b_X1_readSum_F f K M 34 = some M'
  unfold b_X1_readSum_F
  rw [if_pos g1, e1, Option.bind_some, show (1000 : Nat) = 999 + 1 from rfl, b_X1_readSum_6, if_neg (by decide), if_pos g1, e2.1, if_neg (by decide), if_neg (by decide), Option.bind_some]
theorem FK_not {K : yK} {pl : Nat → Nat} {f : yM → Option yM} (hK : KSh K) (a : yM → Option yM) (hf : FK pl f) : FK pl (fun M => b_X1_readNot_F a f K M 34) := by
  intro M j hp h
  obtain ⟨g1, -⟩ := hK.g34
  obtain ⟨M', e1, e2, e3⟩ := hf M j hp h
  refine ⟨M', ?_, e2, e3⟩
  show b_X1_readNot_F a f K M 34 = some M'
  unfold b_X1_readNot_F
  rw [if_pos g1, h.1, if_neg (by decide), e1, Option.bind_some, e2.1, if_neg (by decide), if_neg (by decide)]
theorem FK_and {K : yK} {pl : Nat → Nat} {f : yM → Option yM} (hK : KSh K) (hf : FK pl f) : FK pl (fun M => b_X1_readAnd_F f K M 34) := by
  intro M j hp h
  obtain ⟨g1, -⟩ := hK.g34
  obtain ⟨M', e1, e2, e3⟩ := hf M j hp h
  refine ⟨M', ?_, e2, e3⟩
  show b_X1_readAnd_F f K M 34 = some M'
  unfold b_X1_readAnd_F
  rw [if_pos g1, e1, Option.bind_some, show (1000 : Nat) = 999 + 1 from rfl, b_X1_readAnd_6, if_neg (by decide), if_pos g1, e2.1, if_neg (by decide), Option.bind_some]
theorem FK_or {K : yK} {pl : Nat → Nat} {f : yM → Option yM} (hK : KSh K) (hf : FK pl f) : FK pl (fun M => b_X1_readOr_F f K M 34) := by
  intro M j hp h
  obtain ⟨g1, -⟩ := hK.g34
  obtain ⟨M', e1, e2, e3⟩ := hf M j hp h
  refine ⟨M', ?_, e2, e3⟩
  show b_X1_readOr_F f K M 34 = some M'
  unfold b_X1_readOr_F
  rw [if_pos g1, e1, Option.bind_some, show (1000 : Nat) = 999 + 1 from rfl, b_X1_readOr_6, if_neg (by decide), if_pos g1, e2.1, if_neg (by decide), Option.bind_some]
