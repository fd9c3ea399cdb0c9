/-! rules with signs between -/
def LPG (tk : Nat → Nat) (K : yK) (f : yM → Option yM) (L : Nat → yM → Int32 → Option yM) (isop : Nat → Bool) : Prop := ∀ (n k : Nat) (M : yM) (t : Nat), tkV t → M 34 4 = ctk t → k < 1000 → L (n + 1) M (nI k) = if 160 ≤ k then some M else if isop t = true then (Option.bind (b_X1_next K M 34) fun r4 => Option.bind (f r4) fun r5 => Option.bind (b_X1_emit K r5 34 (xc (sgnT t))) fun r6 => L n r6 (nI (k + 1))) else some M
theorem CT_loop {K : yK} {tk nv pl : Nat → Nat} {N d rp rin r : Nat} {f : yM → Option yM} {L : Nat → yM → Int32 → Option yM} {isop : Nat → Bool} {pre : Nat → Bool → Prop} {po : Nat → SYs → Prop} (hK : KSh K) (hN : TKS tk nv pl N) (hf : CT tk nv pl N f rp rin d pre po) (ff : FK pl f) (hL : LPG tk K f L isop) (hops : ∀ t, isop t = true → (sgnT t = 11 ∨ sgnT t = 12 ∨ (14 ≤ sgnT t ∧ sgnT t ≤ 18)) ∧ rkS (sgnT t) = r ∧ t ≠ 0 ∧ t ≠ 59 ∧ t ≠ 41) (hr1 : r ≤ rp) (hr2 : r < rin) (hr4 : r ≠ 4) (hr0 : 1 ≤ r) (hpre : ∀ t, isop t = true → ∀ i, pre i (decide (sgnT t ≤ 12))) :
    ∀ (g n k : Nat) (M : yM) (i o : Nat) (out out0 : Ot) (S0 : List Nat) (s : SYs), N ≤ i + g → g < n → k ≤ i → TS tk nv pl N M → GS tk M i o out → i < N → o ≤ 5 → 7 ≤ o + d → out.1 + S0.length ≤ i → tpr S0 < r → OX out0 out → s.1 = i → s.2.1 = false → unwS r s.2.2.2 = (S0, o, out) → po i s →
    ∃ M', L n M (nI k) = some M' ∧ Fg M M' ∧ ((∃ i' out' m s', GS tk M' i' o out' ∧ i ≤ i' ∧ i' < N ∧ out'.1 + S0.length ≤ i' ∧ OX out0 out' ∧ rn tk nv m s = .inl s' ∧ s'.1 = i' ∧ s'.2.1 = false ∧ unwS r s'.2.2.2 = (S0, o, out') ∧ po i' s' ∧ isop (tk i') = false) ∨ ∃ j m, GF pl M' j ∧ j < N ∧ rn tk nv m s = .inr (none, j)) := by
  intro g
  induction g with
  | zero =>
    intro n k M i o out out0 S0 s hi
    intros
    omega
  | succ g ih =>
    intro n k M i o out out0 S0 s hi hn hk hT hG hiN ho hod hlen htp hox hs1 hs2 hs3 hpo
    obtain ⟨n, rfl⟩ : ∃ z, n = z + 1 := ⟨n - 1, by omega⟩
    have hv := (hN.2.2 i hiN).1
    have h161 := hN.1.2
    by_cases z : isop (tk i) = true
    · obtain ⟨p1, p2, p3, p4, p5⟩ := hops _ z
      have hi2 := hN.nx hiN p3
      have hst : stp tk nv s = .inl (i + 1, true, decide (sgnT (tk i) ≤ 12), sgnT (tk i) :: S0, o, out) := by
        rw [stp_n hs2, hs1, stpN, if_neg p4, if_neg p5, if_neg (by omega), if_neg (by omega), p2, hs3, btw, if_neg (by omega)]
      obtain ⟨M1, m1, m2, m3⟩ := hG.next hK hN hT hi2
      obtain ⟨M2, b1, b2, b3⟩ := hf M1 (i + 1) o out (decide (sgnT (tk i) ≤ 12)) (sgnT (tk i) :: S0) (hT.cg m3) m2 hi2 ho hod (by show out.1 + (S0.length + 1) ≤ i + 1; omega) (by show rkS (sgnT (tk i)) ≤ rp; omega) (hpre _ z _)
      rw [hL n k M (tk i) hv hG.1.2.1 (by omega), if_neg (show ¬ 160 ≤ k by omega), if_pos z, m1, Option.bind_some, b1, Option.bind_some]
      rcases b3 with ⟨i', out', m, s', c1, c2, c3, c4, c5, c6, c7, c8, c9, c10⟩ | ⟨j, m, c1, c2, c3⟩
      · have c4' : out'.1 + (S0.length + 1) ≤ i' := c4
        obtain ⟨M3, e1, e2, e3⟩ := c1.emit hK (by omega) (sgnT (tk i))
        rw [e1, Option.bind_some]
        have hu : unwS r s'.2.2.2 = (S0, o, pu out' (sgnT (tk i))) := by
          rw [← unwS_S (Nat.le_of_lt hr2), c9, unw_lt _ _ _ (show rkS (sgnT (tk i)) < rin by omega)]
          show unw r (sgnT (tk i) :: S0) o out' = _
          rw [unw_ge (by omega), if_neg (by omega), unw_lt _ _ _ htp]
        obtain ⟨M', r1, r2, r3⟩ := ih n (k + 1) M3 i' o (pu out' (sgnT (tk i))) out0 S0 s' (by omega) (by omega) (by omega) (((hT.cg m3).cg b2).cg e3) e2 c3 ho hod (by show out'.1 + 1 + S0.length ≤ i'; omega) htp (OX_two hox c5 (dok_bi p1)) c7 c8 hu c10
        refine ⟨M', r1, ((m3.tr b2).tr e3).tr r2, ?_⟩
        rcases r3 with ⟨i2, out2, m', s2, q1, q2, q3, q4, q5, q6, q7⟩ | ⟨j, m', q1, q2, q3⟩
        · exact .inl ⟨i2, out2, 1 + (m + m'), s2, q1, by omega, q3, q4, q5, by rw [rn_add 1 _ _ (rn_1 hst), rn_add m _ _ c6]; exact q6, q7⟩
        · exact .inr ⟨j, 1 + (m + m'), q1, q2, by rw [rn_add 1 _ _ (rn_1 hst), rn_add m _ _ c6]; exact q3⟩
      · have hpl := (hN.2.2 j c2).2.2
        obtain ⟨M3, e1, e2, e3⟩ := c1.emit hK (xc (sgnT (tk i)))
        rw [e1, Option.bind_some]
        -- the failed state stays
        have e4 : L n M3 (nI (k + 1)) = some M3 := by
          obtain ⟨n, rfl⟩ : ∃ z, n = z + 1 := ⟨n - 1, by omega⟩
          have nop : isop 3 = false := by
            cases h3 : isop 3
            · rfl
            · exact absurd (hops 3 h3).1 (by decide)
          rw [hL n (k + 1) M3 3 (.inl (by decide)) e2.1 (by omega), nop]
          by_cases y : 160 ≤ k + 1
          · rw [if_pos y]
          · rw [if_neg y, if_neg Bool.false_ne_true]
        exact ⟨M3, e4, (m3.tr b2).tr e3, .inr ⟨j, 1 + m, e2, c2, by rw [rn_add 1 _ _ (rn_1 hst)]; exact c3⟩⟩
    · have e : L (n + 1) M (nI k) = some M := by
        rw [hL n k M (tk i) hv hG.1.2.1 (by omega), if_neg z]
        by_cases y : 160 ≤ k
        · rw [if_pos y]
        · rw [if_neg y]
      refine ⟨M, e, Fg.rf _, .inl ⟨i, out, 0, s, hG, Nat.le_refl _, hiN, hlen, hox, rfl, hs1, hs2, hs3, hpo, by cases h : isop (tk i); rfl; exact absurd h z⟩⟩
theorem CT_row {K : yK} {tk nv pl : Nat → Nat} {N d rp rin r : Nat} {f F : yM → Option yM} {L : Nat → yM → Int32 → Option yM} {isop : Nat → Bool} {pre : Nat → Bool → Prop} {po : Nat → SYs → Prop} (hK : KSh K) (hN : TKS tk nv pl N) (hf : CT tk nv pl N f rp rin d pre po) (ff : FK pl f) (hL : LPG tk K f L isop) (hops : ∀ t, isop t = true → (sgnT t = 11 ∨ sgnT t = 12 ∨ (14 ≤ sgnT t ∧ sgnT t ≤ 18)) ∧ rkS (sgnT t) = r ∧ t ≠ 0 ∧ t ≠ 59 ∧ t ≠ 41) (hr1 : r ≤ rp) (hr2 : r < rin) (hr4 : r ≠ 4) (hr0 : 1 ≤ r) (hpre : ∀ t, isop t = true → ∀ i, pre i (decide (sgnT t ≤ 12))) (hF : ∀ M, F M = Option.bind (f M) fun r2 => Option.bind (L 1000 r2 0) fun j3 => some j3) : CT tk nv pl N F (r - 1) r d pre (fun i s => po i s ∧ isop (tk i) = false) := by
  intro M i o out mn S0 hT hG hi ho hod hlen htp hp
  have h161 := hN.1.2
  obtain ⟨M1, a1, a2, a3⟩ := hf M i o out mn S0 hT hG hi ho hod hlen (by omega) hp
  rw [hF, a1, Option.bind_some]
  rcases a3 with ⟨i', out', n, s, c1, c2, c3, c4, c5, c6, c7, c8, c9, c10⟩ | ⟨j, n, c1, c2, c3⟩
  · have hu : unwS r s.2.2.2 = (S0, o, out') := by
      rw [← unwS_S (Nat.le_of_lt hr2), c9, unw_lt _ _ _ (show tpr S0 < rin by omega)]
      exact unw_lt _ _ _ (show tpr S0 < r by omega)
    obtain ⟨M', r1, r2, r3⟩ := CT_loop hK hN hf ff hL hops hr1 hr2 hr4 hr0 hpre (N - i') 1000 0 M1 i' o out' out S0 s (by omega) (by omega) (by omega) (hT.cg a2) c1 c3 ho hod c4 (by omega) c5 c7 c8 hu c10
    have r1 : L 1000 M1 0 = some M' := r1
    rw [r1, Option.bind_some]
    refine ⟨M', rfl, a2.tr r2, ?_⟩
    rcases r3 with ⟨i2, out2, m', s2, q1, q2, q3, q4, q5, q6, q7, q8, q9, q10, q11⟩ | ⟨j, m', q1, q2, q3⟩
    · refine .inl ⟨i2, out2, n + m', s2, q1, by omega, q3, q4, q5, by rw [rn_add n _ _ c6]; exact q6, q7, q8, ?_, q10, q11⟩
      rw [q9, unw_lt _ _ _ (show tpr S0 < r by omega)]
    · exact .inr ⟨j, n + m', q1, q2, by rw [rn_add n _ _ c6]; exact q3⟩
  · have e4 : L 1000 M1 0 = some M1 := by
      have nop : isop 3 = false := by
        cases h3 : isop 3
        · rfl
        · exact absurd (hops 3 h3).1 (by decide)
      have := hL 999 0 M1 3 (.inl (by decide)) c1.1 (by omega)
      rw [nop, if_neg (by decide), if_neg Bool.false_ne_true] at this
      exact this
    rw [e4, Option.bind_some]
    exact ⟨M1, rfl, a2, .inr ⟨j, n, c1, c2, c3⟩⟩
/-! the four rows -/
theorem ctkE {t u : Nat} (ht : tkV t) (hu : u < 1000) (h3 : u ≠ 3) {α : Type} (a b : α) : (if ctk t = nI u then a else b) = if t = u then a else b := by
  by_cases z : t = u
  · rw [if_pos z, if_pos (by rw [ctk_eq ht hu h3]; exact z)]
  · rw [if_neg z, if_neg (by rw [ctk_eq ht hu h3]; exact z)]
theorem LP_term {tk : Nat → Nat} {K : yK} {f : yM → Option yM} (hK : KSh K) : LPG tk K f (b_X1_readTerm_6 f K 34) (fun t => decide (t = 42)) := by
  intro n k M t ht e hk
  obtain ⟨g1, -⟩ := hK.g34
  rw [b_X1_readTerm_6, show (160 : Int32) = nI 160 from rfl, iteLe (by omega) (by omega), if_pos g1, e, show (42 : Int32) = nI 42 from rfl, ctkE ht (by omega) (by omega)]
  by_cases y : 160 ≤ k
  · rw [if_pos y, if_pos y]
  rw [if_neg y, if_neg y]
  by_cases z : t = 42
  · subst z
    rw [if_pos rfl, ifd rfl]
    simp only [Option.bind_some, incN]
    rfl
  · rw [if_neg z, ifn z]
theorem LP_sum {tk : Nat → Nat} {K : yK} {f : yM → Option yM} (hK : KSh K) : LPG tk K f (b_X1_readSum_6 f K 34) (fun t => decide (t = 43 ∨ t = 45)) := by
  intro n k M t ht e hk
  obtain ⟨g1, -⟩ := hK.g34
  rw [b_X1_readSum_6, show (160 : Int32) = nI 160 from rfl, iteLe (by omega) (by omega), if_pos g1, e, show (43 : Int32) = nI 43 from rfl, show (45 : Int32) = nI 45 from rfl, ctkE ht (by omega) (by omega), ctkE ht (by omega) (by omega)]
  by_cases y : 160 ≤ k
  · rw [if_pos y, if_pos y]
  rw [if_neg y, if_neg y]
  by_cases z : t = 43
  · subst z
    rw [if_pos rfl, ifd (.inl rfl)]
    simp only [Option.bind_some, incN]
    rfl
  by_cases z2 : t = 45
  · subst z2
    rw [if_neg z, if_pos rfl, ifd (.inr rfl)]
    simp only [Option.bind_some, incN]
    rfl
  · rw [if_neg z, if_neg z2, ifn (fun h => h.elim z z2)]
theorem LP_and {tk : Nat → Nat} {K : yK} {f : yM → Option yM} (hK : KSh K) : LPG tk K f (b_X1_readAnd_6 f K 34) (fun t => decide (t = 260)) := by
  intro n k M t ht e hk
  obtain ⟨g1, -⟩ := hK.g34
  rw [b_X1_readAnd_6, show (160 : Int32) = nI 160 from rfl, iteLe (by omega) (by omega), if_pos g1, e, show (260 : Int32) = nI 260 from rfl, ctkE ht (by omega) (by omega)]
  by_cases y : 160 ≤ k
  · rw [if_pos y, if_pos y]
  rw [if_neg y, if_neg y]
  by_cases z : t = 260
  · subst z
    rw [if_pos rfl, ifd rfl]
    simp only [Option.bind_some, incN]
    rfl
  · rw [if_neg z, ifn z]
theorem LP_or {tk : Nat → Nat} {K : yK} {f : yM → Option yM} (hK : KSh K) : LPG tk K f (b_X1_readOr_6 f K 34) (fun t => decide (t = 259)) := by
  intro n k M t ht e hk
  obtain ⟨g1, -⟩ := hK.g34
  rw [b_X1_readOr_6, show (160 : Int32) = nI 160 from rfl, iteLe (by omega) (by omega), if_pos g1, e, show (259 : Int32) = nI 259 from rfl, ctkE ht (by omega) (by omega)]
  by_cases y : 160 ≤ k
  · rw [if_pos y, if_pos y]
  rw [if_neg y, if_neg y]
  by_cases z : t = 259
  · subst z
    rw [if_pos rfl, ifd rfl]
    simp only [Option.bind_some, incN]
    rfl
  · rw [if_neg z, ifn z]
def poT (tk : Nat → Nat) (i : Nat) (_ : SYs) : Prop := tk i ≠ 42
def poS (tk : Nat → Nat) (i : Nat) (_ : SYs) : Prop := tk i ≠ 42 ∧ tk i ≠ 43 ∧ tk i ≠ 45
def poN (tk nv : Nat → Nat) (i : Nat) (s : SYs) : Prop := (tk i ≠ 42 ∧ tk i ≠ 43 ∧ tk i ≠ 45) ∧ (tk i = 60 ∨ tk i = 61 → stp tk nv s = .inr (none, i))
theorem CT.po {tk nv pl : Nat → Nat} {N : Nat} {f : yM → Option yM} {rp rq d : Nat} {pre : Nat → Bool → Prop} {po po' : Nat → SYs → Prop} (h : CT tk nv pl N f rp rq d pre po) (hp : ∀ i s, po i s → po' i s) : CT tk nv pl N f rp rq d pre po' := by
  intro M i o out mn S0 hT hG hi ho hod hlen htp hpr
  obtain ⟨M1, a1, a2, a3⟩ := h M i o out mn S0 hT hG hi ho hod hlen htp hpr
  refine ⟨M1, a1, a2, ?_⟩
  rcases a3 with ⟨i', out', n, s, c1, c2, c3, c4, c5, c6, c7, c8, c9, c10⟩ | h
  · exact .inl ⟨i', out', n, s, c1, c2, c3, c4, c5, c6, c7, c8, c9, hp _ _ c10⟩
  · exact .inr h
theorem CT_term {K : yK} {tk nv pl : Nat → Nat} {N d : Nat} {f : yM → Option yM} (hK : KSh K) (hN : TKS tk nv pl N) (hf : CT tk nv pl N f 7 7 d (preO tk) (fun _ _ => True)) (ff : FK pl f) : CT tk nv pl N (fun M => b_X1_readTerm_F f K M 34) 5 6 d (preO tk) (poT tk) := by
  refine (CT_row (r := 6) hK hN hf ff (LP_term hK) (fun t h => ?_) (by omega) (by omega) (by omega) (by omega) (fun t h i e => ?_) (fun M => ?_)).po (fun i s h => of_decide_eq_false h.2)
  · obtain rfl := of_decide_eq_true h; decide
  · obtain rfl := of_decide_eq_true h; exact absurd e (by decide)
  · show b_X1_readTerm_F f K M 34 = _
    unfold b_X1_readTerm_F
    rw [if_pos hK.g34.1]
theorem CT_sum {K : yK} {tk nv pl : Nat → Nat} {N d : Nat} {f : yM → Option yM} (hK : KSh K) (hN : TKS tk nv pl N) (hf : CT tk nv pl N f 5 6 d (preO tk) (poT tk)) (ff : FK pl f) : CT tk nv pl N (fun M => b_X1_readSum_F f K M 34) 4 5 d (preO tk) (poS tk) := by
  refine (CT_row (r := 5) hK hN hf ff (LP_sum hK) (fun t h => ?_) (by omega) (by omega) (by omega) (by omega) (fun t h i e => ?_) (fun M => ?_)).po (fun i s h => ?_)
  · rcases of_decide_eq_true h with rfl | rfl <;> decide
  · rcases of_decide_eq_true h with rfl | rfl <;> exact absurd e (by decide)
  · show b_X1_readSum_F f K M 34 = _
    unfold b_X1_readSum_F
    rw [if_pos hK.g34.1]
  · have := of_decide_eq_false h.2
    exact ⟨h.1, fun e => this (.inl e), fun e => this (.inr e)⟩
def poA (tk nv : Nat → Nat) (i : Nat) (s : SYs) : Prop := poN tk nv i s ∧ tk i ≠ 260
theorem CT_and {K : yK} {tk nv pl : Nat → Nat} {N d : Nat} {f : yM → Option yM} (hK : KSh K) (hN : TKS tk nv pl N) (hf : CT tk nv pl N f 3 3 d (fun _ mn => mn = true) (poN tk nv)) (ff : FK pl f) : CT tk nv pl N (fun M => b_X1_readAnd_F f K M 34) 1 2 d (fun _ mn => mn = true) (poA tk nv) := by
  refine (CT_row (r := 2) hK hN hf ff (LP_and hK) (fun t h => ?_) (by omega) (by omega) (by omega) (by omega) (fun t h i => ?_) (fun M => ?_)).po (fun i s h => ⟨h.1, of_decide_eq_false h.2⟩)
  · obtain rfl := of_decide_eq_true h; decide
  · obtain rfl := of_decide_eq_true h; decide
  · show b_X1_readAnd_F f K M 34 = _
    unfold b_X1_readAnd_F
    rw [if_pos hK.g34.1]
theorem CT_or {K : yK} {tk nv pl : Nat → Nat} {N d : Nat} {f : yM → Option yM} (hK : KSh K) (hN : TKS tk nv pl N) (hf : CT tk nv pl N f 1 2 d (fun _ mn => mn = true) (poA tk nv)) (ff : FK pl f) : CT tk nv pl N (fun M => b_X1_readOr_F f K M 34) 0 1 d (fun _ mn => mn = true) (poOr tk nv) := by
  refine (CT_row (r := 1) hK hN hf ff (LP_or hK) (fun t h => ?_) (by omega) (by omega) (by omega) (by omega) (fun t h i => ?_) (fun M => ?_)).po (fun i s h => ?_)
  · obtain rfl := of_decide_eq_true h; decide
  · obtain rfl := of_decide_eq_true h; decide
  · show b_X1_readOr_F f K M 34 = _
    unfold b_X1_readOr_F
    rw [if_pos hK.g34.1]
  · obtain ⟨⟨⟨⟨h1, h2, h3⟩, h4⟩, h5⟩, h6⟩ := h
    exact ⟨⟨h1, h2, h3, of_decide_eq_false h6, h5⟩, h4⟩
theorem CT_not {K : yK} {tk nv pl : Nat → Nat} {N d : Nat} {a f : yM → Option yM} (hK : KSh K) (hN : TKS tk nv pl N) (ha : CT tk nv pl N a 3 3 d (fun _ mn => mn = true) (poN tk nv)) (fa : FK pl a) (hf : CT tk nv pl N f 4 5 (d + 1) (preO tk) (poS tk)) (ff : FK pl f) : CT tk nv pl N (fun M => b_X1_readNot_F a f K M 34) 3 3 (d + 1) (fun _ mn => mn = true) (poN tk nv) := by
  intro M i o out mn S0 hT hG hi ho hod hlen htp hmn
  obtain ⟨g1, -⟩ := hK.g34
  have hmn : mn = true := hmn
  subst hmn
  have hv := (hN.2.2 i hi).1
  have h161 := hN.1.2
  have e4 := tk_end hG
  show ∃ M', b_X1_readNot_F a f K M 34 = some M' ∧ _
  unfold b_X1_readNot_F
  rw [if_pos g1, e4, show (261 : Int32) = nI 261 from rfl, ctkE hv (by omega) (by omega)]
  by_cases t1 : tk i = 261
  · rw [if_pos t1]
    obtain ⟨M1, f1, h1⟩ := hG.enter hK hN hT hi (by omega) ho
    rcases h1 with ⟨o5, h2, h3⟩ | ⟨o5, h2, h3⟩
    · have hs : stp tk nv (i, true, true, S0, o, out) = .inl (i + 1, true, true, 13 :: S0, o + 1, out) := by
        rw [stp_w, stpW, if_neg (by omega), if_neg (by omega), if_pos ⟨t1, rfl⟩, opn, if_neg (by omega)]
      obtain ⟨M2, b1, b2, b3⟩ := ha M1 (i + 1) (o + 1) out true (13 :: S0) (hT.cg f1) h3 (hN.nx hi (by omega)) (by omega) (by omega) (by show out.1 + (S0.length + 1) ≤ i + 1; omega) (show rkS 13 ≤ 3 by decide) rfl
      rw [h2, Option.bind_some]
      dsimp only
      rw [if_pos rfl, b1, Option.bind_some]
      rcases b3 with ⟨i', out', n, s, c3, c4, c5, c6, c7, c8, c9, c10, c11, c12⟩ | ⟨j, n, c3, c4, c5⟩
      · have c6' : out'.1 + (S0.length + 1) ≤ i' := c6
        have e5 : M2 34 5 = nI (o + 1) := c3.1.2.2.1
        obtain ⟨M3, m1, m2, m3⟩ := (c3.op (o' := o)).emit hK (by omega) 13
        rw [e5, show nI (o + 1) - (1 : Int32) = nI (o + 1 - 1) from subN (b := 1) (by omega), Option.bind_some, show b_X1_emit K (yS M2 34 5 (nI (o + 1 - 1))) 34 (-(nI 261)) = some M3 from m1, Option.bind_some]
        refine ⟨M3, rfl, ((f1.tr b2).tr (Fg.f (by decide))).tr m3, .inl ⟨i', pu out' 13, 1 + n, s, m2, by omega, c5, by show out'.1 + 1 + S0.length ≤ i'; omega, OX_one c7 (dok_un (.inl rfl)), by rw [rn_add 1 _ _ (rn_1 hs)]; exact c8, c9, c10, ?_, c12⟩⟩
        rw [c11, unw_ge (by decide), if_pos (.inl rfl)]
        rfl
      · obtain ⟨M3, m1, m2, m3⟩ := (c3.op (v := M2 34 5 - 1)).emit hK (-(nI 261))
        rw [Option.bind_some, show b_X1_emit K (yS M2 34 5 (M2 34 5 - 1)) 34 (-(nI 261)) = some M3 from m1, Option.bind_some]
        exact ⟨M3, rfl, ((f1.tr b2).tr (Fg.f (by decide))).tr m3, .inr ⟨j, 1 + n, m2, c4, by rw [rn_add 1 _ _ (rn_1 hs)]; exact c5⟩⟩
    · have hs : stp tk nv (i, true, true, S0, o, out) = .inr (none, i) := by
        rw [stp_w, stpW, if_neg (by omega), if_neg (by omega), if_pos ⟨t1, rfl⟩, opn, if_pos o5]
      rw [h2, Option.bind_some]
      dsimp only
      rw [if_neg Bool.false_ne_true]
      exact ⟨M1, rfl, f1, .inr ⟨i, 1, h3, hi, rn_1r hs⟩⟩
  rw [if_neg t1]
  obtain ⟨M1, a1, a2, a3⟩ := hf M i o out true S0 hT hG hi ho hod hlen (by omega) (fun _ => t1)
  rw [a1, Option.bind_some]
  rcases a3 with ⟨i', out', n, s, c1, c2, c3, c4, c5, c6, c7, c8, c9, c10⟩ | ⟨j, n, c1, c2, c3⟩
  · have hv' := (hN.2.2 i' c3).1
    have e5 := tk_end c1
    have hu : unwS 5 s.2.2.2 = (S0, o, out') := by rw [c9, unw_lt _ _ _ (show tpr S0 < 5 by omega)]
    rw [e5, show (60 : Int32) = nI 60 from rfl, show (61 : Int32) = nI 61 from rfl, ctkE hv' (by omega) (by omega), ctkE hv' (by omega) (by omega)]
    -- what stands behind a comparison
    have cmp : (tk i' = 60 ∨ tk i' = 61) → ∃ M', (Option.bind (some (ctk (tk i'))) fun v5 => (Option.bind (b_X1_next K M1 34) fun r6 => (Option.bind (f r6) fun r7 => (Option.bind (b_X1_emit K r7 34 (-v5)) fun r8 => (some r8))))) = some M' ∧ Fg M M' ∧ GO1 tk nv pl N 3 (poN tk nv) i o out S0 (i, true, true, S0, o, out) M' := by
      intro hc
      have h2 := hN.nx c3 (by omega)
      have hsg : sgnT (tk i') = 14 ∨ sgnT (tk i') = 15 := by
        rcases hc with e | e
        · rw [e]; exact .inl rfl
        · rw [e]; exact .inr rfl
      have hrk : rkS (sgnT (tk i')) = 4 := by rcases hsg with e | e <;> rw [e] <;> rfl
      have hxc : xc (sgnT (tk i')) = -(ctk (tk i')) := by
        rcases hc with e | e <;> rw [e] <;> rfl
      have hst : stp tk nv s = .inl (i' + 1, true, decide (sgnT (tk i') ≤ 12), sgnT (tk i') :: S0, o, out') := by
        rw [stp_n c8, c7, stpN, if_neg (by omega), if_neg (by omega), if_neg (by omega), if_pos hrk, hu, btw, if_neg (fun z => by have : tpr S0 = 4 := z.2; omega)]
      obtain ⟨M2, m1, m2, m3⟩ := c1.next hK hN (hT.cg a2) h2
      obtain ⟨M3, b1, b2, b3⟩ := hf M2 (i' + 1) o out' (decide (sgnT (tk i') ≤ 12)) (sgnT (tk i') :: S0) ((hT.cg a2).cg m3) m2 h2 ho hod (by show out'.1 + (S0.length + 1) ≤ i' + 1; omega) (by show rkS (sgnT (tk i')) ≤ 4; omega) (fun z => by have := of_decide_eq_true z; omega)
      rw [Option.bind_some, m1, Option.bind_some, b1, Option.bind_some, ← hxc]
      rcases b3 with ⟨i2, out2, n2, s2, d1, d2, d3, d4, d5, d6, d7, d8, d9, d10⟩ | ⟨j, n2, d1, d2, d3⟩
      · have d4' : out2.1 + (S0.length + 1) ≤ i2 := d4
        obtain ⟨M4, p1, p2, p3⟩ := d1.emit hK (by omega) (sgnT (tk i'))
        rw [p1, Option.bind_some]
        have hu2 : unwS 5 s2.2.2.2 = (sgnT (tk i') :: S0, o, out2) := by rw [d9, unw_lt _ _ _ (show rkS (sgnT (tk i')) < 5 by omega)]
        refine ⟨M4, rfl, ((a2.tr m3).tr b2).tr p3, .inl ⟨i2, pu out2 (sgnT (tk i')), n + (1 + n2), s2, p2, by omega, d3, by show out2.1 + 1 + S0.length ≤ i2; omega, OX_two c5 d5 (dok_bi (by omega)), by rw [rn_add n _ _ c6, rn_add 1 _ _ (rn_1 hst)]; exact d6, d7, d8, ?_, d10, fun y => ?_⟩⟩
        · rw [← unwS_S (show 3 ≤ 5 by omega), hu2]
          show unw 3 (sgnT (tk i') :: S0) o out2 = _
          rw [unw_ge (by omega), if_neg (by omega)]
        · have hsg2 : rkS (sgnT (tk i2)) = 4 := by rcases y with e | e <;> rw [e] <;> rfl
          have hs99 : sgnT (tk i2) ≠ 99 := by rcases y with e | e <;> rw [e] <;> decide
          rw [stp_n d8, d7, stpN, if_neg (by omega), if_neg (by omega), if_neg hs99, if_pos hsg2, hu2, btw, if_pos ⟨hsg2, hrk⟩]
      · obtain ⟨M4, p1, p2, p3⟩ := d1.emit hK (xc (sgnT (tk i')))
        rw [p1, Option.bind_some]
        exact ⟨M4, rfl, ((a2.tr m3).tr b2).tr p3, .inr ⟨j, n + (1 + n2), p2, d2, by rw [rn_add n _ _ c6, rn_add 1 _ _ (rn_1 hst)]; exact d3⟩⟩
    by_cases z1 : tk i' = 60
    · rw [if_pos z1]
      exact cmp (.inl z1)
    by_cases z2 : tk i' = 61
    · rw [if_neg z1, if_pos z2]
      exact cmp (.inr z2)
    rw [if_neg z1, if_neg z2]
    refine ⟨M1, rfl, a2, .inl ⟨i', out', n, s, c1, c2, c3, c4, c5, c6, c7, c8, ?_, c10, fun y => absurd y (fun y => y.elim z1 z2)⟩⟩
    rw [← unwS_S (show 3 ≤ 5 by omega), c9]
    exact unw_unw (by omega) _ _ _
  · rw [c1.1, if_neg (by decide), if_neg (by decide)]
    exact ⟨M1, rfl, a2, .inr ⟨j, n, c1, c2, c3⟩⟩
/-- the levels -/
theorem CT_lv {K : yK} {tk nv pl : Nat → Nat} {N : Nat} (hK : KSh K) (hN : TKS tk nv pl N) : ∀ d, (CT tk nv pl N (gLv K 34 d).1 3 3 d (fun _ mn => mn = true) (poN tk nv) ∧ CT tk nv pl N (gLv K 34 d).2.1 7 7 d (preO tk) (fun _ _ => True) ∧ CT tk nv pl N (gLv K 34 d).2.2 0 1 d (fun _ mn => mn = true) (poOr tk nv)) ∧ (1 ≤ d → FK pl (gLv K 34 d).1 ∧ FK pl (gLv K 34 d).2.1 ∧ FK pl (gLv K 34 d).2.2)
  | 0 => ⟨⟨fun M i o out mn S0 _ _ _ ho hod => by omega, fun M i o out mn S0 _ _ _ ho hod => by omega, fun M i o out mn S0 _ _ _ ho hod => by omega⟩, fun h => by omega⟩
  | d + 1 => by
    obtain ⟨⟨h1, h2, h3⟩, h4⟩ := CT_lv hK hN d
    have f1 : FK pl (fun M => b_X1_readOne_F (gLv K 34 d).2.2 (gLv K 34 d).2.1 K M 34) := FK_one hK _ _
    have f2 := FK_term hK f1
    have f3 := FK_sum hK f2
    have f4 : FK pl (gLv K 34 (d + 1)).1 := FK_not hK (gLv K 34 d).1 f3
    have f5 := FK_and hK f4
    have f6 : FK pl (gLv K 34 (d + 1)).2.2 := FK_or hK f5
    have one : CT tk nv pl N (fun M => b_X1_readOne_F (gLv K 34 d).2.2 (gLv K 34 d).2.1 K M 34) 7 7 (d + 1) (preO tk) (fun _ _ => True) := by
      rcases Nat.eq_zero_or_pos d with z | z
      · subst z
        intro M i o out mn S0 _ _ _ ho hod
        omega
      · exact CT_one hK hN h3 (h4 z).2.2 h2 (h4 z).2.1
    have term := CT_term hK hN one f1
    have sum := CT_sum hK hN term f2
    have nt : CT tk nv pl N (gLv K 34 (d + 1)).1 3 3 (d + 1) (fun _ mn => mn = true) (poN tk nv) := by
      rcases Nat.eq_zero_or_pos d with z | z
      · subst z
        intro M i o out mn S0 _ _ _ ho hod
        omega
      · exact CT_not hK hN h1 (h4 z).1 sum f3
    have an := CT_and hK hN nt f4
    have orr : CT tk nv pl N (gLv K 34 (d + 1)).2.2 0 1 (d + 1) (fun _ mn => mn = true) (poOr tk nv) := CT_or hK hN an f5
    exact ⟨⟨nt, one, orr⟩, fun _ => ⟨f4, f1, f6⟩⟩
