/-! what one rule of the grammar does, on both sides -/
def GO1 (tk nv pl : Nat → Nat) (N : Nat) (rq : Nat) (post : Nat → SYs → Prop) (i o : Nat) (out : Ot) (S0 : List Nat) (s0 : SYs) (M' : yM) : Prop :=
  (∃ i' out' n s, GS tk M' i' o out' ∧ i < i' ∧ i' < N ∧ out'.1 + S0.length ≤ i' ∧ OX out out' ∧ rn tk nv n s0 = .inl s ∧ s.1 = i' ∧ s.2.1 = false ∧ unwS rq s.2.2.2 = unw rq S0 o out' ∧ post i' s) ∨ ∃ j n, GF pl M' j ∧ j < N ∧ rn tk nv n s0 = .inr (none, j)
def CT (tk nv pl : Nat → Nat) (N : Nat) (f : yM → Option yM) (rp rq d : Nat) (pre : Nat → Bool → Prop) (post : Nat → SYs → Prop) : Prop := ∀ (M : yM) (i o : Nat) (out : Ot) (mn : Bool) (S0 : List Nat), TS tk nv pl N M → GS tk M i o out → i < N → o ≤ 5 → 7 ≤ o + d → out.1 + S0.length ≤ i → tpr S0 ≤ rp → pre i mn → ∃ M', f M = some M' ∧ Fg M M' ∧ GO1 tk nv pl N rq post i o out S0 (i, true, mn, S0, o, out) M'
theorem stp_w {tk nv : Nat → Nat} (i : Nat) (mn : Bool) (st : List Nat) (o : Nat) (out : Ot) : stp tk nv (i, true, mn, st, o, out) = stpW (tk i) (nv i) i mn st o out := if_pos rfl
theorem stp_n {tk nv : Nat → Nat} {s : SYs} (h : s.2.1 = false) : stp tk nv s = stpN (tk s.1) s.1 s.2.2.1 s.2.2.2 := if_neg (by rw [h]; decide)
theorem ctk_lt {t u : Nat} (ht : tkV t) (hu : 3 < u) (hu2 : u < 1000) : (ctk t < nI u) = (t < u) := by
  unfold ctk
  unfold tkV at ht
  apply propext
  by_cases z : t = 3
  · rw [if_pos z, i_lt, i_m1, nJ (by omega)]
    omega
  · rw [if_neg z, ltN (by omega) (by omega)]
theorem ctk_le {t u : Nat} (ht : tkV t) (hu : 3 < u) (hu2 : u < 1000) : (nI u ≤ ctk t) = (u ≤ t) := by
  unfold ctk
  unfold tkV at ht
  apply propext
  by_cases z : t = 3
  · rw [if_pos z, i_le, i_m1, nJ (by omega)]
    omega
  · rw [if_neg z, leN (by omega) (by omega)]
theorem GS.expect {K : yK} {M : yM} {tk nv pl : Nat → Nat} {N i o w : Nat} {out : Ot} (hK : KSh K) (hN : TKS tk nv pl N) (hT : TS tk nv pl N M) (h : GS tk M i o out) (hi : i < N) (hw : 3 < w ∧ w < 1000) : ∃ M', b_X1_expect K M 34 (nI w) = some M' ∧ Fg M M' ∧ ((tk i = w ∧ GS tk M' (i + 1) o out) ∨ (tk i ≠ w ∧ GF pl M' i)) := by
  obtain ⟨g1, -⟩ := hK.g34
  unfold b_X1_expect
  rw [if_pos g1, h.1.2.1]
  by_cases z : tk i = w
  · obtain ⟨M', n1, n2, n3⟩ := h.next hK hN hT (hN.nx hi (by omega))
    refine ⟨M', ?_, n3, .inl ⟨z, n2⟩⟩
    rw [if_pos (by rw [ctk_eq (hN.2.2 i hi).1 hw.2 (by omega)]; exact z), n1, Option.bind_some]
  · obtain ⟨M', n1, n2, n3⟩ := h.fail hK hN hT hi
    refine ⟨M', ?_, n3, .inr ⟨z, n2⟩⟩
    rw [if_neg (by rw [ctk_eq (hN.2.2 i hi).1 hw.2 (by omega)]; exact z), n1, Option.bind_some]
theorem GF.expect {K : yK} {M : yM} {pl : Nat → Nat} {j w : Nat} (hK : KSh K) (hp : pl j < 1000) (h : GF pl M j) (hw : w < 1000) : ∃ M', b_X1_expect K M 34 (nI w) = some M' ∧ GF pl M' j ∧ Fg M M' := by
  obtain ⟨g1, -⟩ := hK.g34
  obtain ⟨M', n1, n2, n3⟩ := h.fail hK hp
  refine ⟨M', ?_, n2, n3⟩
  unfold b_X1_expect
  rw [if_pos g1, h.1, if_neg (fun e => nI_m1 (by omega) e.symm), n1, Option.bind_some]
def preO (tk : Nat → Nat) (i : Nat) (mn : Bool) : Prop := mn = true → tk i ≠ 261
def poOr (tk nv : Nat → Nat) (i : Nat) (s : SYs) : Prop := (tk i ≠ 42 ∧ tk i ≠ 43 ∧ tk i ≠ 45 ∧ tk i ≠ 259 ∧ tk i ≠ 260) ∧ (tk i = 60 ∨ tk i = 61 → stp tk nv s = .inr (none, i))
theorem tk_end {tk : Nat → Nat} {i : Nat} {o : Nat} {out : Ot} {M : yM} (h : GS tk M i o out) : M 34 4 = ctk (tk i) := h.1.2.1
theorem CT_one {K : yK} {tk nv pl : Nat → Nat} {N d : Nat} {a b : yM → Option yM} (hK : KSh K) (hN : TKS tk nv pl N) (ha : CT tk nv pl N a 0 1 d (fun _ mn => mn = true) (poOr tk nv)) (fa : FK pl a) (hb : CT tk nv pl N b 7 7 d (preO tk) (fun _ _ => True)) (fb : FK pl b) : CT tk nv pl N (fun M => b_X1_readOne_F a b K M 34) 7 7 (d + 1) (preO tk) (fun _ _ => True) := by
  intro M i o out mn S0 hT hG hi ho hod hlen _ hpre
  obtain ⟨g1, g2, -, g4, -⟩ := hK.g34
  have hv := (hN.2.2 i hi).1
  have hpl := fun j hj => (hN.2.2 j hj).2.2
  have hN161 := hN.1.2
  have e4 := tk_end hG
  show ∃ M', b_X1_readOne_F a b K M 34 = some M' ∧ _
  unfold b_X1_readOne_F
  by_cases t1 : tk i = 1
  · have hi2 := hN.nx hi (show tk i ≠ 0 by omega)
    obtain ⟨M1, m1, m2, m3⟩ := hG.emit hK (by omega) (100000 + nv i)
    obtain ⟨M2, n1, n2, n3⟩ := m2.next hK hN (hT.cg m3) (hN.nx hi (by omega))
    have ex : xc (100000 + nv i) = nI (nv i) := by unfold xc; rw [if_pos (by omega), show 100000 + nv i - 100000 = nv i by omega]
    rw [ex] at m1
    have hs : stp tk nv (i, true, mn, S0, o, out) = .inl (i + 1, false, mn, unw 7 S0 o (pu out (100000 + nv i))) := by rw [stp_w, stpW, if_pos t1]
    refine ⟨M2, ?_, m3.tr n3, .inl ⟨i + 1, pu out (100000 + nv i), 1, _, n2, by omega, hN.nx hi (by omega), by show out.1 + 1 + S0.length ≤ i + 1; omega, OX_num (fun d => dok_num ((hN.2.2 i hi).2.1 t1) d), rn_1 hs, rfl, rfl, unw_unw (Nat.le_refl 7) _ _ _, trivial⟩⟩
    rw [if_pos g1, e4, if_pos (show ctk (tk i) = 1 by rw [t1]; decide), g2, Option.bind_some, if_pos g4, hG.1.1, (p_tokenAt hK hN161 hT hi).2.2 t1, Option.bind_some, m1, Option.bind_some, n1, Option.bind_some]
  have c1 : ¬ ctk (tk i) = 1 := fun e => t1 (by rw [show (1 : Int32) = nI 1 from rfl, ctk_eq hv (by omega) (by omega)] at e; exact e)
  by_cases t2 : 262 ≤ tk i ∧ tk i < 268
  · have hi2 := hN.nx hi (show tk i ≠ 0 by omega)
    obtain ⟨M1, m1, m2, m3⟩ := hG.emit hK (by omega) (tk i - 262)
    obtain ⟨M2, n1, n2, n3⟩ := m2.next hK hN (hT.cg m3) (hN.nx hi (by omega))
    have ex : xc (tk i - 262) = -(ctk (tk i)) := by
      unfold xc ctk tkc
      rw [if_neg (by omega), if_pos (by omega), if_neg (by omega), show 262 + (tk i - 262) = tk i by omega]
    rw [ex] at m1
    have hs : stp tk nv (i, true, mn, S0, o, out) = .inl (i + 1, false, mn, unw 7 S0 o (pu out (tk i - 262))) := by rw [stp_w, stpW, if_neg t1, if_pos t2]
    refine ⟨M2, ?_, m3.tr n3, .inl ⟨i + 1, pu out (tk i - 262), 1, _, n2, by omega, hN.nx hi (by omega), by show out.1 + 1 + S0.length ≤ i + 1; omega, OX_num (fun d => dok_name (by omega) d), rn_1 hs, rfl, rfl, unw_unw (Nat.le_refl 7) _ _ _, trivial⟩⟩
    rw [if_pos g1, e4, if_neg c1, if_neg (show ¬ ctk (tk i) < 262 by rw [show (262 : Int32) = nI 262 from rfl, ctk_lt hv (by omega) (by omega)]; omega), if_neg (show ¬ (268 : Int32) ≤ ctk (tk i) by rw [show (268 : Int32) = nI 268 from rfl, ctk_le hv (by omega) (by omega)]; omega), m1, Option.bind_some, n1, Option.bind_some]
  have c2 : ctk (tk i) < 262 := by
    rw [show (262 : Int32) = nI 262 from rfl, ctk_lt hv (by omega) (by omega)]
    unfold tkV at hv
    omega
  by_cases t3 : tk i = 45
  · have c45 : ctk (tk i) = 45 := by rw [t3]; decide
    obtain ⟨M1, f1, h1⟩ := hG.enter hK hN hT hi (by omega) ho
    rcases h1 with ⟨o5, h2, h3⟩ | ⟨o5, h2, h3⟩
    · have hs : stp tk nv (i, true, mn, S0, o, out) = .inl (i + 1, true, false, 19 :: S0, o + 1, out) := by
        rw [stp_w, stpW, if_neg t1, if_neg t2, if_neg (by omega), if_pos t3, opn, if_neg (by omega)]
      obtain ⟨M2, b1, b2, b3⟩ := hb M1 (i + 1) (o + 1) out false (19 :: S0) (hT.cg f1) h3 (hN.nx hi (by omega)) (by omega) (by omega) (by show out.1 + (S0.length + 1) ≤ i + 1; omega) (show rkS 19 ≤ 7 by decide) (fun z => absurd z (by decide))
      rcases b3 with ⟨i', out', n, s, c3, c4, c5, c6, c7, c8, c9, c10, c11, -⟩ | ⟨j, n, c3, c4, c5⟩
      · have c6' : out'.1 + (S0.length + 1) ≤ i' := c6
        have e5 : M2 34 5 = nI (o + 1) := c3.1.2.2.1
        obtain ⟨M3, m1, m2, m3⟩ := (c3.op (o' := o)).emit hK (by omega) 19
        refine ⟨M3, ?_, ((f1.tr b2).tr (Fg.f (by decide))).tr m3, .inl ⟨i', pu out' 19, 1 + n, s, m2, by omega, c5, by show out'.1 + 1 + S0.length ≤ i'; omega, OX_one c7 (dok_un (.inr rfl)), by rw [rn_add 1 _ _ (rn_1 hs)]; exact c8, c9, c10, ?_, trivial⟩⟩
        · rw [if_pos g1, e4, if_neg c1, if_pos c2, if_pos c45, h2, Option.bind_some, if_pos rfl, b1, Option.bind_some, e5, show nI (o + 1) - (1 : Int32) = nI (o + 1 - 1) from subN (b := 1) (by omega), Option.bind_some, show b_X1_emit K (yS M2 34 5 (nI (o + 1 - 1))) 34 (-2) = some M3 from m1, Option.bind_some]
        · rw [c11, unw_ge (by decide), if_pos (.inr rfl)]
          rfl
      · obtain ⟨M3, m1, m2, m3⟩ := (c3.op (v := M2 34 5 - 1)).emit hK (-2)
        refine ⟨M3, ?_, ((f1.tr b2).tr (Fg.f (by decide))).tr m3, .inr ⟨j, 1 + n, m2, c4, by rw [rn_add 1 _ _ (rn_1 hs)]; exact c5⟩⟩
        rw [if_pos g1, e4, if_neg c1, if_pos c2, if_pos c45, h2, Option.bind_some, if_pos rfl, b1, Option.bind_some, Option.bind_some, m1, Option.bind_some]
    · have hs : stp tk nv (i, true, mn, S0, o, out) = .inr (none, i) := by
        rw [stp_w, stpW, if_neg t1, if_neg t2, if_neg (by omega), if_pos t3, opn, if_pos o5]
      refine ⟨M1, ?_, f1, .inr ⟨i, 1, h3, hi, rn_1r hs⟩⟩
      rw [if_pos g1, e4, if_neg c1, if_pos c2, if_pos c45, h2, Option.bind_some, if_neg Bool.false_ne_true]
  have c3 : ¬ ctk (tk i) = 45 := fun e => t3 (by rw [show (45 : Int32) = nI 45 from rfl, ctk_eq hv (by omega) (by omega)] at e; exact e)
  by_cases t4 : tk i = 40
  · have c40 : ctk (tk i) = 40 := by rw [t4]; decide
    obtain ⟨M1, f1, h1⟩ := hG.enter hK hN hT hi (by omega) ho
    rcases h1 with ⟨o5, h2, h3⟩ | ⟨o5, h2, h3⟩
    · have hs : stp tk nv (i, true, mn, S0, o, out) = .inl (i + 1, true, true, 0 :: S0, o + 1, out) := by
        rw [stp_w, stpW, if_neg t1, if_neg t2, if_neg (by omega), if_neg t3, if_pos t4, opn, if_neg (by omega)]
      obtain ⟨M2, b1, b2, b3⟩ := ha M1 (i + 1) (o + 1) out true (0 :: S0) (hT.cg f1) h3 (hN.nx hi (by omega)) (by omega) (by omega) (by show out.1 + (S0.length + 1) ≤ i + 1; omega) (show rkS 0 ≤ 0 by decide) rfl
      rcases b3 with ⟨i', out', n, s, c5, c6, c7, c8, c9, c10, c11, c12, c13, c14⟩ | ⟨j, n, c5, c6, c7⟩
      · have c8' : out'.1 + (S0.length + 1) ≤ i' := c8
        have e5 : M2 34 5 = nI (o + 1) := c5.1.2.2.1
        have hu : unwS 1 s.2.2.2 = (0 :: S0, o + 1, out') := by rw [c13]; exact unw_lt _ _ _ (show rkS 0 < 1 by decide)
        obtain ⟨M3, m1, m2, m3⟩ := (c5.op (o' := o)).expect hK hN ((hT.cg (f1.tr b2)).cg (Fg.f (by decide))) c7 (w := 41) (by decide)
        have cd : ∀ r, b_X1_expect K (yS M2 34 5 (nI o)) 34 (nI 41) = some r → (if gO K 34 1 = true then (if (M 34 4) = (1 : Int32) then (Option.bind (K.2.2 34 0) fun q33 => (if gO K q33 5 = true then (Option.bind (b_X6_numberAt K M q33 ((M 34 3))) fun r35 => (Option.bind (b_X1_emit K M 34 r35) fun r36 => (Option.bind (b_X1_next K r36 34) fun r37 => (some r37)))) else none)) else (if (M 34 4) < (262 : Int32) then (if (M 34 4) = (45 : Int32) then (Option.bind (b_X1_enter K M 34) fun r12 => (if r12.1 = true then (Option.bind (b r12.2) fun r14 => (Option.bind (some (yS r14 34 5 ((r14 34 5) - (1 : Int32)))) fun M15 => (Option.bind (b_X1_emit K M15 34 ((-2 : Int32))) fun r16 => (some r16)))) else (some r12.2))) else (if (M 34 4) = (40 : Int32) then (Option.bind (b_X1_enter K M 34) fun r7 => (if r7.1 = true then (Option.bind (a r7.2) fun r9 => (Option.bind (some (yS r9 34 5 ((r9 34 5) - (1 : Int32)))) fun M10 => (Option.bind (b_X1_expect K M10 34 ((41 : Int32))) fun r11 => (some r11)))) else (some r7.2))) else (Option.bind (b_X1_fail K M 34) fun r6 => (some r6)))) else (if (268 : Int32) ≤ (M 34 4) then (if (M 34 4) = (45 : Int32) then (Option.bind (b_X1_enter K M 34) fun r26 => (if r26.1 = true then (Option.bind (b r26.2) fun r28 => (Option.bind (some (yS r28 34 5 ((r28 34 5) - (1 : Int32)))) fun M29 => (Option.bind (b_X1_emit K M29 34 ((-2 : Int32))) fun r30 => (some r30)))) else (some r26.2))) else (if (M 34 4) = (40 : Int32) then (Option.bind (b_X1_enter K M 34) fun r21 => (if r21.1 = true then (Option.bind (a r21.2) fun r23 => (Option.bind (some (yS r23 34 5 ((r23 34 5) - (1 : Int32)))) fun M24 => (Option.bind (b_X1_expect K M24 34 ((41 : Int32))) fun r25 => (some r25)))) else (some r21.2))) else (Option.bind (b_X1_fail K M 34) fun r20 => (some r20)))) else (Option.bind (b_X1_emit K M 34 ((-(M 34 4)))) fun r31 => (Option.bind (b_X1_next K r31 34) fun r32 => (some r32)))))) else none) = some r := by
          intro r hr
          rw [if_pos g1, e4, if_neg c1, if_pos c2, if_neg c3, if_pos c40, h2, Option.bind_some, if_pos rfl, b1, Option.bind_some, e5, show nI (o + 1) - (1 : Int32) = nI (o + 1 - 1) from subN (b := 1) (by omega), Option.bind_some, show b_X1_expect K (yS M2 34 5 (nI (o + 1 - 1))) 34 41 = some r from hr, Option.bind_some]
        rcases m3 with ⟨q1, q2⟩ | ⟨q1, q2⟩
        · have hs2 : stp tk nv s = .inl (i' + 1, false, s.2.2.1, unw 7 S0 o out') := by
            rw [stp_n c12, c11, stpN, if_neg (by omega), if_pos q1, hu]
            rfl
          refine ⟨M3, cd _ m1, ((f1.tr b2).tr (Fg.f (by decide))).tr m2, .inl ⟨i' + 1, out', 1 + (n + 1), _, q2, by omega, hN.nx c7 (by omega), by omega, c9, by rw [rn_add 1 _ _ (rn_1 hs), rn_add n _ _ c10]; exact rn_1 hs2, rfl, rfl, unw_unw (Nat.le_refl 7) _ _ _, trivial⟩⟩
        · have hs2 : stp tk nv s = .inr (none, i') := by
            by_cases y : tk i' = 60 ∨ tk i' = 61
            · exact c14.2 y
            · obtain ⟨z1, z2, z3, z4, z5⟩ := c14.1
              rw [stp_n c12, c11, stpN, hu]
              by_cases y9 : tk i' = 59
              · rw [if_pos y9]; rfl
              · rw [if_neg y9, if_neg q1, if_pos]
                unfold sgnT
                rw [if_neg z4, if_neg z5, if_neg (fun e => y (.inl e)), if_neg (fun e => y (.inr e)), if_neg z2, if_neg z3, if_neg z1]
          refine ⟨M3, cd _ m1, ((f1.tr b2).tr (Fg.f (by decide))).tr m2, .inr ⟨i', 1 + (n + 1), q2, c7, by rw [rn_add 1 _ _ (rn_1 hs), rn_add n _ _ c10]; exact rn_1r hs2⟩⟩
      · obtain ⟨M3, m1, m2, m3⟩ := (c5.op (v := M2 34 5 - 1)).expect hK (hpl j c6) (w := 41) (by decide)
        refine ⟨M3, ?_, ((f1.tr b2).tr (Fg.f (by decide))).tr m3, .inr ⟨j, 1 + n, m2, c6, by rw [rn_add 1 _ _ (rn_1 hs)]; exact c7⟩⟩
        rw [if_pos g1, e4, if_neg c1, if_pos c2, if_neg c3, if_pos c40, h2, Option.bind_some, if_pos rfl, b1, Option.bind_some, Option.bind_some, show b_X1_expect K (yS M2 34 5 (M2 34 5 - 1)) 34 41 = some M3 from m1, Option.bind_some]
    · have hs : stp tk nv (i, true, mn, S0, o, out) = .inr (none, i) := by
        rw [stp_w, stpW, if_neg t1, if_neg t2, if_neg (by omega), if_neg t3, if_pos t4, opn, if_pos o5]
      refine ⟨M1, ?_, f1, .inr ⟨i, 1, h3, hi, rn_1r hs⟩⟩
      rw [if_pos g1, e4, if_neg c1, if_pos c2, if_neg c3, if_pos c40, h2, Option.bind_some, if_neg Bool.false_ne_true]
  have c4 : ¬ ctk (tk i) = 40 := fun e => t4 (by rw [show (40 : Int32) = nI 40 from rfl, ctk_eq hv (by omega) (by omega)] at e; exact e)
  obtain ⟨M1, n1, n2, n3⟩ := hG.fail hK hN hT hi
  have hs : stp tk nv (i, true, mn, S0, o, out) = .inr (none, i) := by
    rw [stp_w, stpW, if_neg t1, if_neg t2, if_neg (fun z => hpre z.2 z.1), if_neg t3, if_neg t4]
  refine ⟨M1, ?_, n3, .inr ⟨i, 1, n2, hi, rn_1r hs⟩⟩
  rw [if_pos g1, e4, if_neg c1, if_pos c2, if_neg c3, if_neg c4, n1, Option.bind_some]
