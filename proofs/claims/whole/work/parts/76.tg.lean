/-! the reference reads an E -/
def mtk (t : Nat) : Int32 := if t = 3 then -1 else if 256 ≤ t ∧ t < 259 then 3 else if 262 ≤ t ∧ t < 268 then 2 else if t = 259 then 4 else if t = 260 then 5 else if t = 261 then 6 else nI t
/-- what one looks at next: at 28, begun 29, token 30, value 31 -/
def Fn (M M' : yM) : Prop := (∀ f, (f < 28 ∨ 31 < f) → M' 50 f = M 50 f) ∧ ∀ q, q ≠ 50 → M' q = M q
def NXT (tk nv pl pos : Nat → Nat) (N : Nat) (K : yK) (S : yM → Prop) : Prop := ∀ (M : yM) (i : Nat), S M → M 50 28 = nI (pos i) → i < N → ∃ M', b_X8_next K M 50 = some M' ∧ Fn M M' ∧ M' 50 28 = nI (pos (i + 1)) ∧ M' 50 29 = nI (pl i) ∧ M' 50 30 = mtk (tk i) ∧ (tk i = 1 → M' 50 31 = nI (nv i)) ∧ (262 ≤ tk i ∧ tk i < 268 → M' 50 31 = nI (tk i - 262)) ∧ (256 ≤ tk i ∧ tk i < 259 → M' 50 31 = nI (tk i - 256))
/-- S feels only the tape and the words -/
def Sfl (S : yM → Prop) : Prop := ∀ M M' : yM, S M → M' 50 12 = M 50 12 → M' 55 = M 55 → M' 65 = M 65 → S M'
theorem Fn.mu {M M' : yM} {k : Nat} {u : St} (h : Fn M M') (hU : MU M k u) : MU M' k u := by
  obtain ⟨h1, h2, h3⟩ := hU
  unfold MU
  rw [h.1 34 (by omega), h.1 35 (by omega), h.1 36 (by omega), h.1 15 (by omega), h.2 56 (by decide)]
  exact ⟨h1, h2.cg (fun j _ => by rw [h.2 66 (by decide)]), h3⟩
theorem Fn.sf {M M' : yM} {S : yM → Prop} (h : Fn M M') (hS : Sfl S) (hM : S M) : S M' := hS M M' hM (h.1 12 (by omega)) (h.2 55 (by decide)) (h.2 65 (by decide))
theorem FU.sf {k : Nat} {M M' : yM} {S : yM → Prop} (h : FU k M M') (hS : Sfl S) (hM : S M) : S M' := hS M M' hM (h.1 12 (by decide) (by decide) (by decide)) (h.2.1 55 (by decide) (by decide) (by decide)) (h.2.1 65 (by decide) (by decide) (by decide))
/-- all that reading changes -/
def FE (k : Nat) (M M' : yM) : Prop := (∀ f, (f < 28 ∨ f = 32 ∨ f = 33 ∨ 36 < f) → M' 50 f = M 50 f) ∧ (∀ q, q ≠ 50 → q ≠ 56 → q ≠ 66 → M' q = M q) ∧ ∀ j, j < 200 * k → M' 56 j = M 56 j
theorem FE.rf (k : Nat) (M : yM) : FE k M M := ⟨fun _ _ => rfl, fun _ _ _ _ => rfl, fun _ _ => rfl⟩
theorem FE.tr {k : Nat} {M M' M'' : yM} (h : FE k M M') (g : FE k M' M'') : FE k M M'' := ⟨fun f z => (g.1 f z).trans (h.1 f z), fun q z1 z2 z3 => (g.2.1 q z1 z2 z3).trans (h.2.1 q z1 z2 z3), fun j hj => (g.2.2 j hj).trans (h.2.2 j hj)⟩
theorem FU.fe {k : Nat} {M M' : yM} (h : FU k M M') : FE k M M' := ⟨fun f z => h.1 f (by omega) (by omega) (by omega), h.2.1, h.2.2⟩
theorem Fn.fe {k : Nat} {M M' : yM} (h : Fn M M') : FE k M M' := ⟨fun f z => h.1 f (by omega), fun q z1 _ _ => h.2 q z1, fun j _ => by rw [h.2 56 (by decide)]⟩
theorem FE.sf {k : Nat} {M M' : yM} {S : yM → Prop} (h : FE k M M') (hS : Sfl S) (hM : S M) : S M' := hS M M' hM (h.1 12 (by omega)) (h.2.1 55 (by decide) (by decide) (by decide)) (h.2.1 65 (by decide) (by decide) (by decide))
theorem mtk_eq {t : Nat} (ht : tkV t) : (mtk t = 1 ↔ t = 1) ∧ (mtk t = 2 ↔ 262 ≤ t ∧ t < 268) ∧ (mtk t = 6 ↔ t = 261) ∧ (mtk t = 45 ↔ t = 45) ∧ (mtk t = 40 ↔ t = 40) ∧ (mtk t = 59 ↔ t = 59) ∧ (mtk t = 41 ↔ t = 41) ∧ (mtk t = 0 ↔ t = 0) ∧ (mtk t = 3 ↔ 256 ≤ t ∧ t < 259) := by
  rcases (show t = 0 ∨ t = 1 ∨ t = 3 ∨ t = 40 ∨ t = 41 ∨ t = 42 ∨ t = 43 ∨ t = 45 ∨ t = 59 ∨ t = 60 ∨ t = 61 ∨ t = 256 ∨ t = 257 ∨ t = 258 ∨ t = 259 ∨ t = 260 ∨ t = 261 ∨ t = 262 ∨ t = 263 ∨ t = 264 ∨ t = 265 ∨ t = 266 ∨ t = 267 by unfold tkV at ht; omega) with rfl | rfl | rfl | rfl | rfl | rfl | rfl | rfl | rfl | rfl | rfl | rfl | rfl | rfl | rfl | rfl | rfl | rfl | rfl | rfl | rfl | rfl | rfl <;> decide
theorem q_signOf {K : yK} {M : yM} {t : Nat} (hK : KSh K) (ht : tkV t) (h : M 50 30 = mtk t) : b_X8_signOf K M 50 = some (if sgnT t = 99 then -1 else nI (sgnT t)) := by
  unfold b_X8_signOf
  rw [if_pos hK.mo, h]
  rcases (show t = 0 ∨ t = 1 ∨ t = 3 ∨ t = 40 ∨ t = 41 ∨ t = 42 ∨ t = 43 ∨ t = 45 ∨ t = 59 ∨ t = 60 ∨ t = 61 ∨ t = 256 ∨ t = 257 ∨ t = 258 ∨ t = 259 ∨ t = 260 ∨ t = 261 ∨ t = 262 ∨ t = 263 ∨ t = 264 ∨ t = 265 ∨ t = 266 ∨ t = 267 by unfold tkV at ht; omega) with rfl | rfl | rfl | rfl | rfl | rfl | rfl | rfl | rfl | rfl | rfl | rfl | rfl | rfl | rfl | rfl | rfl | rfl | rfl | rfl | rfl | rfl | rfl <;> rfl
theorem sgn_V {t : Nat} (h : sgnT t ≠ 99) : (11 ≤ sgnT t ∧ sgnT t ≤ 12) ∨ (14 ≤ sgnT t ∧ sgnT t ≤ 18) := by
  by_cases h1 : t = 259
  · subst h1; exact .inl (by decide)
  by_cases h2 : t = 260
  · subst h2; exact .inl (by decide)
  by_cases h3 : t = 60
  · subst h3; exact .inr (by decide)
  by_cases h4 : t = 61
  · subst h4; exact .inr (by decide)
  by_cases h5 : t = 43
  · subst h5; exact .inr (by decide)
  by_cases h6 : t = 45
  · subst h6; exact .inr (by decide)
  by_cases h7 : t = 42
  · subst h7; exact .inr (by decide)
  exfalso
  apply h
  unfold sgnT
  rw [if_neg h1, if_neg h2, if_neg h3, if_neg h4, if_neg h5, if_neg h6, if_neg h7]
theorem q_opensOne {K : yK} {M : yM} {k i : Nat} {st : List Nat} {op : Nat} {out : Ot} (hK : KSh K) (h : MU M k (st, op, out)) (hl : st.length < 200) (ho : op < 1000) (c : Nat) : (op = 5 ∧ b_X8_opensOne K M 50 (nI c) = some (false, M)) ∨ (op ≠ 5 ∧ ∃ M', b_X8_opensOne K M 50 (nI c) = some (true, M') ∧ MU M' k (c :: st, op + 1, out) ∧ FU k M M') := by
  have h2 : M 50 35 = nI op := h.1.2.1
  unfold b_X8_opensOne
  rw [if_pos hK.mo, h2, show (5 : Int32) = nI 5 from rfl, iteEq (by omega) (by omega)]
  by_cases z : op = 5
  · exact .inl ⟨z, by rw [if_pos z]⟩
  · rw [if_neg z, incN, Option.bind_some]
    have hU : MU (yS M 50 35 (nI (op + 1))) k (st, op + 1, out) := by
      refine ⟨⟨?_, yS_at _ _ _ _, ?_, ?_⟩, ?_, fun j hj => ?_⟩
      · rw [yS_oi _ _ _ _ (by decide)]; exact h.1.1
      · rw [yS_oi _ _ _ _ (by decide)]; exact h.1.2.2.1
      · rw [yS_oi _ _ _ _ (by decide)]; exact h.1.2.2.2
      · exact h.2.1.cg (fun j hj => by rw [yS_op _ _ _ _ (by decide)])
      · rw [yS_op _ _ _ _ (by decide)]; exact h.2.2 j hj
    obtain ⟨M', e1, e2, e3⟩ := q_holds hK hU hl c
    refine .inr ⟨z, M', by rw [e1, Option.bind_some], e2, ?_⟩
    refine FU.tr ⟨fun f z1 z2 z3 => yS_oi _ _ _ _ z2, fun q z1 z2 z3 => yS_q _ _ _ z1, fun j hj => yS_op _ _ _ _ (by decide) _⟩ e3
theorem sgV_lt {c : Nat} (h : sgV c) : c < 20 ∧ rkS c ≤ 7 ∧ (rkS c < 1 → c = 0) := by
  rcases (show c = 0 ∨ c = 11 ∨ c = 12 ∨ c = 13 ∨ c = 14 ∨ c = 15 ∨ c = 16 ∨ c = 17 ∨ c = 18 ∨ c = 19 by unfold sgV at h; omega) with rfl | rfl | rfl | rfl | rfl | rfl | rfl | rfl | rfl | rfl <;> decide
theorem q_between {K : yK} {A : yM} {k i s : Nat} {u : St} (hK : KSh K) (hk : k < 6) (hi : i ≤ 161) (hs : (11 ≤ s ∧ s ≤ 12) ∨ (14 ≤ s ∧ s ≤ 18)) (hU : MU A k u) (hV : SV u i) : ∃ B, FU k A B ∧ ((rkS s = 4 ∧ tpr (unwS (if rkS s = 4 then 5 else rkS s) u).1 = 4 ∧ b_X8_between K A 50 (nI s) = some (false, B)) ∨ (¬ (rkS s = 4 ∧ tpr (unwS (if rkS s = 4 then 5 else rkS s) u).1 = 4) ∧ b_X8_between K A 50 (nI s) = some (true, B) ∧ MU B k (s :: (unwS (if rkS s = 4 then 5 else rkS s) u).1, (unwS (if rkS s = 4 then 5 else rkS s) u).2.1, (unwS (if rkS s = 4 then 5 else rkS s) u).2.2) ∧ SV (s :: (unwS (if rkS s = 4 then 5 else rkS s) u).1, (unwS (if rkS s = 4 then 5 else rkS s) u).2.1, (unwS (if rkS s = 4 then 5 else rkS s) u).2.2) (i + 1))) := by
  have hsv : sgV s := .inr (by omega)
  have hrs : 1 ≤ rkS s ∧ rkS s ≤ 7 ∧ opc s = 0 := by
    rcases (show s = 11 ∨ s = 12 ∨ s = 14 ∨ s = 15 ∨ s = 16 ∨ s = 17 ∨ s = 18 by omega) with rfl | rfl | rfl | rfl | rfl | rfl | rfl <;> decide
  obtain ⟨r, hr⟩ : ∃ r, r = (if rkS s = 4 then 5 else rkS s) := ⟨_, rfl⟩
  have hr17 : 1 ≤ r ∧ r ≤ 7 := by rw [hr]; split <;> omega
  rw [← hr]
  obtain ⟨B, q1, q2, q3⟩ := q_unw (r := r) hK hk hr17.1 hr17.2 hi hV hU
  have svB : SV (unwS r u) i := by obtain ⟨st, op, out⟩ := u; exact unw_SV hr17.1 st op out hV
  obtain ⟨⟨u1, u2, u3⟩, hu⟩ : ∃ v, v = unwS r u := ⟨_, rfl⟩
  rw [← hu] at q2 svB ⊢
  obtain ⟨w1, w2, w3⟩ := id svB
  have w3 : u3.1 + u1.length ≤ i := w3
  obtain ⟨C, c1, c2, c3⟩ := q_holds hK q2 (by omega) s
  have svC : SV (s :: u1, u2, u3) (i + 1) := ⟨fun d hd => (List.mem_cons.mp hd).elim (fun e => by rw [e]; exact hsv) (w1 d), by show u2 = cnt u1 + opc s; rw [hrs.2.2]; exact w2, by show u3.1 + (u1.length + 1) ≤ i + 1; omega⟩
  have hb : ∀ R, (if nI (rkS s) = (4 : Int32) then (if (B 50 34) ≤ 0 then (Option.bind (b_X8_holds K B 50 (nI s)) fun r11 => (some (true, r11))) else (Option.bind (K.2.2 50 33) fun q12 => (if gA K q12 ((B 50 34) - (1 : Int32)) = true then (Option.bind (b_X8_rank K B ((B q12 (((B 50 34) - (1 : Int32))).toNatClampNeg))) fun r14 => (if r14 = (4 : Int32) then (some (false, B)) else (Option.bind (b_X8_holds K B 50 (nI s)) fun r16 => (some (true, r16))))) else none))) else (Option.bind (b_X8_holds K B 50 (nI s)) fun r9 => (some (true, r9)))) = some R → b_X8_between K A 50 (nI s) = some R := by
    intro R hR
    have ej : (if nI (rkS s) = (4 : Int32) then (some (5 : Int32)) else (Option.bind (b_X8_rank K A (nI s)) fun r4 => (some r4))) = some (nI r) := by
      rw [q_rank hsv, Option.bind_some, show (4 : Int32) = nI 4 from rfl, iteEq (by omega) (by omega), hr]
      by_cases z : rkS s = 4
      · rw [if_pos z, if_pos z]; rfl
      · rw [if_neg z, if_neg z]
    unfold b_X8_between
    rw [q_rank hsv, Option.bind_some]
    rw [q_rank hsv] at ej
    rw [ej, Option.bind_some, if_pos hK.mo, q1, Option.bind_some, q_rank hsv, Option.bind_some]
    exact hR
  have b34 : B 50 34 = nI u1.length := q2.1.1
  by_cases z4 : rkS s = 4
  · have z5 : nI (rkS s) = (4 : Int32) := by rw [z4]; rfl
    cases u1 with
    | nil =>
      refine ⟨C, q3.tr c3, .inr ⟨fun y => ?_, hb _ ?_, c2, svC⟩⟩
      · have y2 : (0 : Nat) = 4 := y.2
        omega
      · have b34 : B 50 34 = nI 0 := b34
        rw [if_pos z5, b34, if_pos (by decide), c1, Option.bind_some]
    | cons d r2 =>
      have b34 : B 50 34 = nI (r2.length + 1) := b34
      have w3' : u3.1 + (r2.length + 1) ≤ i := w3
      have hd := w1 d (List.mem_cons_self ..)
      have e66 : B 66 r2.length = nI d := q2.2.1.1
      have e1 : nI (r2.length + 1) - (1 : Int32) = nI r2.length := subN (b := 1) (by omega)
      have hd20 := sgV_lt hd
      by_cases y : rkS d = 4
      · refine ⟨B, q3, .inl ⟨z4, y, hb _ ?_⟩⟩
        rw [if_pos z5, b34, show (0 : Int32) = nI 0 from rfl, iteLe (by omega) (by omega), if_neg (by omega), hK.m66.1, Option.bind_some, e1, if_pos (gA_N hK.m66.2.1 (by omega) (by omega)), nC (by omega), e66, q_rank hd, Option.bind_some, if_pos (show nI (rkS d) = (4 : Int32) by rw [y]; rfl)]
      · refine ⟨C, q3.tr c3, .inr ⟨fun q => y q.2, hb _ ?_, c2, svC⟩⟩
        rw [if_pos z5, b34, show (0 : Int32) = nI 0 from rfl, iteLe (by omega) (by omega), if_neg (by omega), hK.m66.1, Option.bind_some, e1, if_pos (gA_N hK.m66.2.1 (by omega) (by omega)), nC (by omega), e66, q_rank hd, Option.bind_some, if_neg (show ¬ nI (rkS d) = (4 : Int32) by rw [show (4 : Int32) = nI 4 from rfl, eqN (by omega) (by omega)]; exact y), c1, Option.bind_some]
  · refine ⟨C, q3.tr c3, .inr ⟨fun q => z4 q.1, hb _ ?_, c2, svC⟩⟩
    rw [if_neg (show ¬ nI (rkS s) = (4 : Int32) by rw [show (4 : Int32) = nI 4 from rfl, eqN (by omega) (by omega)]; exact z4), c1, Option.bind_some]
/-- E: one step of reading, and the end -/
def eR (K : yK) (n : Nat) (M : yM) (w mn : Bool) : Option (Bool × yM) := Option.bind (b_X8_eRead_14 K 50 n M w mn) fun x9 => Sum.elim (fun j4 => (Option.bind (b_X8_unwinds K j4 50 ((1 : Int32))) fun r5 => (if (r5 50 34) = 0 then (some (true, r5)) else (some (false, r5))))) (fun r9 => (some r9)) x9
theorem q_eStep {K : yK} {tk nv pl pos : Nat → Nat} {N k n i : Nat} {S : yM → Prop} {M : yM} {w mn : Bool} {u : St} (hK : KSh K) (hk : k < 6) (hN : TKS tk nv pl N) (hX : NXT tk nv pl pos N K S) (hS : Sfl S) (hM : S M) (hat : M 50 28 = nI (pos i)) (hi : i < N) (hU : MU M k u) (hV : SV u i) :
    (∃ s', stp tk nv (i, w, mn, u) = .inl s' ∧ ∃ M', eR K (n + 1) M w mn = eR K n M' s'.2.1 s'.2.2.1 ∧ s'.1 = i + 1 ∧ i + 1 < N ∧ M' 50 28 = nI (pos (i + 1)) ∧ MU M' k s'.2.2.2 ∧ SV s'.2.2.2 (i + 1) ∧ FE k M M') ∨
    (∃ out', stp tk nv (i, w, mn, u) = .inr (some out', i + 1) ∧ i + 1 < N ∧ out'.1 ≤ i + 1 ∧ ∃ M', eR K (n + 1) M w mn = some (true, M') ∧ M' 50 28 = nI (pos (i + 1)) ∧ M' 50 36 = nI out'.1 ∧ M' 50 15 = nI k ∧ (∀ j, j < out'.1 → M' 56 (200 * k + j) = nI (out'.2 j)) ∧ FE k M M') ∨
    (stp tk nv (i, w, mn, u) = .inr (none, i) ∧ ∃ M', eR K (n + 1) M w mn = some (false, M') ∧ M' 50 29 = nI (pl i) ∧ FE k M M') := by
  obtain ⟨st, op, out⟩ := u
  have hv := (hN.2.2 i hi).1
  have h161 := hN.1.2
  obtain ⟨v1, v2, v3⟩ := id hV
  have v2 : op = cnt st := v2
  have v3 : out.1 + st.length ≤ i := v3
  have cle : ∀ l : List Nat, cnt l ≤ l.length := by
    intro l
    induction l with
    | nil => exact Nat.le_refl _
    | cons c l ih => show cnt l + opc c ≤ l.length + 1; unfold opc; split <;> omega
  have hop : op ≤ 160 := by have := cle st; omega
  obtain ⟨A, a1, a2, a3, a4, a5, a6, a7, a8⟩ := hX M i hM hat hi
  have aU : MU A k (st, op, out) := a2.mu hU
  obtain ⟨z1, z2, z6, z45, z40, z59, z41, -, -⟩ := mtk_eq hv
  have hfe : FE k M A := a2.fe
  unfold eR
  rw [b_X8_eRead_14, if_pos hK.mo, a1, Option.bind_some, a5]
  cases w with
  | true =>
    rw [if_pos rfl]
    have hst : stp tk nv (i, true, mn, st, op, out) = stpW (tk i) (nv i) i mn st op out := stp_w _ _ _ _ _
    -- what is put
    have putc : ∀ c, tk i ≠ 0 → stpW (tk i) (nv i) i mn st op out = .inl (i + 1, false, mn, unw 7 st op (pu out c)) → ∃ M1 M2, b_X8_puts K A 50 (nI c) = some M1 ∧ b_X8_unwinds K M1 50 7 = some M2 ∧ i + 1 < N ∧ M2 50 28 = nI (pos (i + 1)) ∧ MU M2 k (unw 7 st op (pu out c)) ∧ SV (unw 7 st op (pu out c)) (i + 1) ∧ FE k M M2 := by
      intro c t0 _
      have hi2 := hN.nx hi t0
      obtain ⟨M1, p1, p2, p3⟩ := q_puts hK hk aU (by omega) c
      have sv : SV (st, op, pu out c) (i + 1) := ⟨v1, v2, by show out.1 + 1 + st.length ≤ i + 1; omega⟩
      obtain ⟨M2, q1, q2, q3⟩ := q_unw (r := 7) hK hk (by omega) (by omega) (by omega) sv p2
      exact ⟨M1, M2, p1, q1, hi2, by rw [q3.1 28 (by decide) (by decide) (by decide), p3.1 28 (by decide) (by decide) (by decide)]; exact a3, q2, unw_SV (by omega) _ _ _ sv, (hfe.tr p3.fe).tr q3.fe⟩
    by_cases t1 : tk i = 1
    · have e1 : mtk (tk i) = 1 := z1.mpr t1
      have hs : stpW (tk i) (nv i) i mn st op out = .inl (i + 1, false, mn, unw 7 st op (pu out (100000 + nv i))) := by rw [stpW, if_pos t1]
      obtain ⟨M1, M2, p1, p2, p3, p4, p5, p6, p7⟩ := putc (100000 + nv i) (by omega) hs
      refine .inl ⟨_, hst.trans hs, M2, ?_, rfl, p3, p4, p5, p6, p7⟩
      rw [if_pos e1, if_pos e1, Option.bind_some, a6 t1, show (100000 : Int32) + nI (nv i) = nI (100000 + nv i) from addN 100000 (nv i), p1, Option.bind_some, p2, Option.bind_some]
    have n1 : ¬ mtk (tk i) = 1 := fun e => t1 (z1.mp e)
    rw [if_neg n1]
    by_cases t2 : 262 ≤ tk i ∧ tk i < 268
    · have e2 : mtk (tk i) = 2 := z2.mpr t2
      have hs : stpW (tk i) (nv i) i mn st op out = .inl (i + 1, false, mn, unw 7 st op (pu out (tk i - 262))) := by rw [stpW, if_neg t1, if_pos t2]
      obtain ⟨M1, M2, p1, p2, p3, p4, p5, p6, p7⟩ := putc (tk i - 262) (by omega) hs
      refine .inl ⟨_, hst.trans hs, M2, ?_, rfl, p3, p4, p5, p6, p7⟩
      rw [if_pos e2, if_neg n1, Option.bind_some, a7 t2, p1, Option.bind_some, p2, Option.bind_some]
    have n2 : ¬ mtk (tk i) = 2 := fun e => t2 (z2.mp e)
    rw [if_neg n2]
    -- what opens
    have open1 : ∀ (c : Nat) (mn' : Bool), sgV c → opc c = 1 → tk i ≠ 0 → stpW (tk i) (nv i) i mn st op out = opn i op mn' c st out →
        (op = 5 ∧ b_X8_opensOne K A 50 (nI c) = some (false, A) ∧ stp tk nv (i, true, mn, st, op, out) = .inr (none, i)) ∨ (∃ M', b_X8_opensOne K A 50 (nI c) = some (true, M') ∧ stp tk nv (i, true, mn, st, op, out) = .inl (i + 1, true, mn', c :: st, op + 1, out) ∧ i + 1 < N ∧ M' 50 28 = nI (pos (i + 1)) ∧ MU M' k (c :: st, op + 1, out) ∧ SV (c :: st, op + 1, out) (i + 1) ∧ FE k M M') := by
      intro c mn' hc hc1 t0 hs
      rcases q_opensOne (i := i) hK aU (by omega) (by omega) c with ⟨o5, e⟩ | ⟨o5, M', e1, e2, e3⟩
      · exact .inl ⟨o5, e, by rw [hst, hs, opn, if_pos o5]⟩
      · refine .inr ⟨M', e1, by rw [hst, hs, opn, if_neg o5], hN.nx hi t0, by rw [e3.1 28 (by decide) (by decide) (by decide)]; exact a3, e2, ⟨fun d hd => ?_, ?_, by show out.1 + (st.length + 1) ≤ i + 1; omega⟩, hfe.tr e3.fe⟩
        · rcases List.mem_cons.mp hd with e | e
          · rw [e]; exact hc
          · exact v1 d e
        · show op + 1 = cnt st + opc c
          rw [hc1, v2]
    have rest : (tk i ≠ 261 ∨ mn = false) → ((∃ s', stp tk nv (i, true, mn, st, op, out) = .inl s' ∧ ∃ M', (Option.bind (if (mtk (tk i)) = (45 : Int32) then (Option.bind (b_X8_opensOne K A 50 ((19 : Int32))) fun r35 => (if r35.1 = true then (b_X8_eRead_14 K 50 n r35.2 true false) else (some (.inr (false, r35.2))))) else (if (mtk (tk i)) = (40 : Int32) then (Option.bind (b_X8_opensOne K A 50 ((0 : Int32))) fun r33 => (if r33.1 = true then (b_X8_eRead_14 K 50 n r33.2 true true) else (some (.inr (false, r33.2))))) else (some (.inr (false, A))))) fun x9 => Sum.elim (fun j4 => (Option.bind (b_X8_unwinds K j4 50 ((1 : Int32))) fun r5 => (if (r5 50 34) = 0 then (some (true, r5)) else (some (false, r5))))) (fun r9 => (some r9)) x9) = eR K n M' s'.2.1 s'.2.2.1 ∧ s'.1 = i + 1 ∧ i + 1 < N ∧ M' 50 28 = nI (pos (i + 1)) ∧ MU M' k s'.2.2.2 ∧ SV s'.2.2.2 (i + 1) ∧ FE k M M') ∨ (stp tk nv (i, true, mn, st, op, out) = .inr (none, i) ∧ ∃ M', (Option.bind (if (mtk (tk i)) = (45 : Int32) then (Option.bind (b_X8_opensOne K A 50 ((19 : Int32))) fun r35 => (if r35.1 = true then (b_X8_eRead_14 K 50 n r35.2 true false) else (some (.inr (false, r35.2))))) else (if (mtk (tk i)) = (40 : Int32) then (Option.bind (b_X8_opensOne K A 50 ((0 : Int32))) fun r33 => (if r33.1 = true then (b_X8_eRead_14 K 50 n r33.2 true true) else (some (.inr (false, r33.2))))) else (some (.inr (false, A))))) fun x9 => Sum.elim (fun j4 => (Option.bind (b_X8_unwinds K j4 50 ((1 : Int32))) fun r5 => (if (r5 50 34) = 0 then (some (true, r5)) else (some (false, r5))))) (fun r9 => (some r9)) x9) = some (false, M') ∧ M' 50 29 = nI (pl i) ∧ FE k M M')) := by
      intro hnot
      have hx : ¬ (tk i = 261 ∧ mn = true) := fun e => hnot.elim (fun z => z e.1) (fun z => by rw [z] at e; exact absurd e.2 (by decide))
      by_cases t3 : tk i = 45
      · have hs : stpW (tk i) (nv i) i mn st op out = opn i op false 19 st out := by rw [stpW, if_neg t1, if_neg t2, if_neg hx, if_pos t3]
        rw [if_pos (z45.mpr t3)]
        rcases open1 19 false (.inr (by decide)) rfl (by omega) hs with ⟨-, e1, e2⟩ | ⟨M', e1, e2, e3⟩
        · refine .inr ⟨e2, A, ?_, a4, hfe⟩
          rw [show b_X8_opensOne K A 50 19 = _ from e1, Option.bind_some]
          dsimp only
          rw [if_neg Bool.false_ne_true, Option.bind_some]
          rfl
        · refine .inl ⟨_, e2, M', ?_, rfl, e3⟩
          rw [show b_X8_opensOne K A 50 19 = _ from e1, Option.bind_some]
          dsimp only
          rw [if_pos rfl]
          rfl
      have n3 : ¬ mtk (tk i) = 45 := fun e => t3 (z45.mp e)
      rw [if_neg n3]
      by_cases t4 : tk i = 40
      · have hs : stpW (tk i) (nv i) i mn st op out = opn i op true 0 st out := by rw [stpW, if_neg t1, if_neg t2, if_neg hx, if_neg t3, if_pos t4]
        rw [if_pos (z40.mpr t4)]
        rcases open1 0 true (.inl rfl) rfl (by omega) hs with ⟨-, e1, e2⟩ | ⟨M', e1, e2, e3⟩
        · refine .inr ⟨e2, A, ?_, a4, hfe⟩
          rw [show b_X8_opensOne K A 50 0 = _ from e1, Option.bind_some]
          dsimp only
          rw [if_neg Bool.false_ne_true, Option.bind_some]
          rfl
        · refine .inl ⟨_, e2, M', ?_, rfl, e3⟩
          rw [show b_X8_opensOne K A 50 0 = _ from e1, Option.bind_some]
          dsimp only
          rw [if_pos rfl]
          rfl
      have n4 : ¬ mtk (tk i) = 40 := fun e => t4 (z40.mp e)
      rw [if_neg n4]
      refine .inr ⟨by rw [hst, stpW, if_neg t1, if_neg t2, if_neg hx, if_neg t3, if_neg t4], A, ?_, a4, hfe⟩
      rw [Option.bind_some]
      rfl
    by_cases t6 : tk i = 261
    · rw [if_pos (z6.mpr t6)]
      cases mn with
      | true =>
        rw [if_pos rfl]
        have hs : stpW (tk i) (nv i) i true st op out = opn i op true 13 st out := by rw [stpW, if_neg t1, if_neg t2, if_pos ⟨t6, rfl⟩]
        rcases open1 13 true (.inr (by decide)) rfl (by omega) hs with ⟨-, e1, e2⟩ | ⟨M', e1, e2, e3⟩
        · refine .inr (.inr ⟨e2, A, ?_, a4, hfe⟩)
          rw [show b_X8_opensOne K A 50 13 = _ from e1, Option.bind_some]
          dsimp only
          rw [if_neg Bool.false_ne_true, Option.bind_some]
          rfl
        · refine .inl ⟨_, e2, M', ?_, rfl, e3⟩
          rw [show b_X8_opensOne K A 50 13 = _ from e1, Option.bind_some]
          dsimp only
          rw [if_pos rfl]
      | false =>
        rw [if_neg Bool.false_ne_true]
        rcases rest (.inr rfl) with h | ⟨h1, M', h2, h3, h4⟩
        · exact .inl h
        · exact .inr (.inr ⟨h1, M', h2, h3, h4⟩)
    · rw [if_neg (fun e => t6 (z6.mp e))]
      rcases rest (.inl t6) with h | ⟨h1, M', h2, h3, h4⟩
      · exact .inl h
      · exact .inr (.inr ⟨h1, M', h2, h3, h4⟩)
  | false =>
    rw [if_neg Bool.false_ne_true]
    have hst : stp tk nv (i, false, mn, st, op, out) = stpN (tk i) i mn (st, op, out) := stp_n rfl
    by_cases t1 : tk i = 59
    · have hi2 := hN.nx hi (by omega)
      obtain ⟨B, q1, q2, q3⟩ := q_unw (r := 1) hK hk (by omega) (by omega) (show i ≤ 161 by omega) hV aU
      have bfe := hfe.tr q3.fe
      have b29 : B 50 29 = nI (pl i) := by rw [q3.1 29 (by decide) (by decide) (by decide)]; exact a4
      have b28 : B 50 28 = nI (pos (i + 1)) := by rw [q3.1 28 (by decide) (by decide) (by decide)]; exact a3
      have hs : stp tk nv (i, false, mn, st, op, out) = fin i (unwS 1 (st, op, out)) := by rw [hst, stpN, if_pos t1]
      rw [if_pos (z59.mpr t1), Option.bind_some]
      simp only [Sum.elim_inl]
      rw [show b_X8_unwinds K A 50 1 = some B from q1, Option.bind_some]
      have svB : SV (unwS 1 (st, op, out)) i := unw_SV (by omega) st op out hV
      obtain ⟨⟨u1, u2, u3⟩, hu⟩ : ∃ v, v = unwS 1 (st, op, out) := ⟨_, rfl⟩
      rw [← hu] at q2 hs svB
      cases u1 with
      | nil =>
        have b34 : B 50 34 = nI 0 := q2.1.1
        rw [b34, if_pos (show nI 0 = 0 from rfl)]
        exact .inr (.inl ⟨u3, hs, hi2, Nat.le_succ_of_le svB.2.2, B, rfl, b28, q2.1.2.2.1, q2.1.2.2.2, q2.2.2, bfe⟩)
      | cons d r2 =>
        have b34 : B 50 34 = nI (r2.length + 1) := q2.1.1
        have w3 : u3.1 + (r2.length + 1) ≤ i := svB.2.2
        rw [b34, show (0 : Int32) = nI 0 from rfl, iteEq (by omega) (by omega), if_neg (by omega)]
        exact .inr (.inr ⟨hs, B, rfl, b29, bfe⟩)
    have n1 : ¬ mtk (tk i) = 59 := fun e => t1 (z59.mp e)
    rw [if_neg n1]
    by_cases t2 : tk i = 41
    · have hi2 := hN.nx hi (by omega)
      obtain ⟨B, q1, q2, q3⟩ := q_unw (r := 1) hK hk (by omega) (by omega) (show i ≤ 161 by omega) hV aU
      have bfe := hfe.tr q3.fe
      have b29 : B 50 29 = nI (pl i) := by rw [q3.1 29 (by decide) (by decide) (by decide)]; exact a4
      have b28 : B 50 28 = nI (pos (i + 1)) := by rw [q3.1 28 (by decide) (by decide) (by decide)]; exact a3
      have hs : stp tk nv (i, false, mn, st, op, out) = clo i mn (unwS 1 (st, op, out)) := by rw [hst, stpN, if_neg t1, if_pos t2]
      have tp := unw_top (r := 1) (by omega) st op out
      have tp : tpr (unwS 1 (st, op, out)).1 < 1 := tp
      rw [if_pos (z41.mpr t2), show b_X8_unwinds K A 50 1 = some B from q1, Option.bind_some]
      have svB : SV (unwS 1 (st, op, out)) i := unw_SV (by omega) st op out hV
      obtain ⟨⟨u1, u2, u3⟩, hu⟩ : ∃ v, v = unwS 1 (st, op, out) := ⟨_, rfl⟩
      rw [← hu] at q2 hs svB tp
      cases u1 with
      | nil =>
        have b34 : B 50 34 = nI 0 := q2.1.1
        rw [b34, if_pos (show nI 0 = 0 from rfl), Option.bind_some]
        exact .inr (.inr ⟨hs, B, rfl, b29, bfe⟩)
      | cons d r2 =>
        obtain ⟨w1, w2, w3⟩ := svB
        have w2 : u2 = cnt r2 + opc d := w2
        have w3 : u3.1 + (r2.length + 1) ≤ i := w3
        obtain rfl : d = 0 := (sgV_lt (w1 d (List.mem_cons_self ..))).2.2 tp
        have w2 : u2 = cnt r2 + 1 := w2
        have b34 : B 50 34 = nI (r2.length + 1) := q2.1.1
        have b35 : B 50 35 = nI u2 := q2.1.2.1
        obtain ⟨D, hD⟩ : ∃ D, D = yS (yS B 50 34 (nI r2.length)) 50 35 (nI (u2 - 1)) := ⟨_, rfl⟩
        have dU : MU D k (r2, u2 - 1, u3) := by
          refine ⟨⟨?_, ?_, ?_, ?_⟩, ?_, fun j hj => ?_⟩
          · rw [hD, yS_oi _ _ _ _ (by decide), yS_at]
          · rw [hD, yS_at]
          · rw [hD, yS_oi _ _ _ _ (by decide), yS_oi _ _ _ _ (by decide)]; exact q2.1.2.2.1
          · rw [hD, yS_oi _ _ _ _ (by decide), yS_oi _ _ _ _ (by decide)]; exact q2.1.2.2.2
          · exact q2.2.1.2.cg (fun j hj => by rw [hD, yS_op _ _ _ _ (by decide), yS_op _ _ _ _ (by decide)])
          · rw [hD, yS_op _ _ _ _ (by decide), yS_op _ _ _ _ (by decide)]; exact q2.2.2 j hj
        have dF : FU k B D := ⟨fun f z1 z2 z3 => by rw [hD, yS_oi _ _ _ _ z2, yS_oi _ _ _ _ z1], fun q z1 z2 z3 => by rw [hD, yS_q _ _ _ z1, yS_q _ _ _ z1], fun j hj => by rw [hD, yS_op _ _ _ _ (by decide), yS_op _ _ _ _ (by decide)]⟩
        have svD : SV (r2, u2 - 1, u3) i := ⟨fun c hc => w1 c (List.mem_cons_of_mem _ hc), by show u2 - 1 = cnt r2; omega, by show u3.1 + r2.length ≤ i; omega⟩
        obtain ⟨E, e1, e2, e3⟩ := q_unw (r := 7) hK hk (by omega) (by omega) (show i ≤ 161 by omega) svD dU
        have efe := (bfe.tr dF.fe).tr e3.fe
        have svE : SV (unwS 7 (r2, u2 - 1, u3)) (i + 1) := by
          obtain ⟨y1, y2, y3⟩ := unw_SV (r := 7) (i := i) (by omega) r2 (u2 - 1) u3 svD
          exact ⟨y1, y2, Nat.le_succ_of_le y3⟩
        have cl2 := cle r2
        rw [b34, show (0 : Int32) = nI 0 from rfl, iteEq (by omega) (by omega), if_neg (by omega), show nI (r2.length + 1) - (1 : Int32) = nI (r2.length + 1 - 1) from subN (b := 1) (by omega), Option.bind_some, yS_oi _ _ _ _ (by decide), b35, show nI u2 - (1 : Int32) = nI (u2 - 1) from subN (b := 1) (by omega), Option.bind_some, show r2.length + 1 - 1 = r2.length by omega, ← hD, show b_X8_unwinds K D 50 7 = some E from e1, Option.bind_some]
        exact .inl ⟨_, hs, E, rfl, rfl, hi2, by rw [e3.1 28 (by decide) (by decide) (by decide), dF.1 28 (by decide) (by decide) (by decide)]; exact b28, e2, svE, efe⟩
    have n2 : ¬ mtk (tk i) = 41 := fun e => t2 (z41.mp e)
    rw [if_neg n2, q_signOf hK hv a5, Option.bind_some]
    by_cases t3 : sgnT (tk i) = 99
    · rw [if_pos t3, if_pos rfl, Option.bind_some]
      refine .inr (.inr ⟨by rw [hst, stpN, if_neg t1, if_neg t2, if_pos t3], A, rfl, a4, hfe⟩)
    have hsg := sgn_V t3
    have t0 : tk i ≠ 0 := fun e => t3 (by rw [e]; rfl)
    have hi2 := hN.nx hi t0
    obtain ⟨B, b1, b2⟩ := q_between hK hk (show i ≤ 161 by omega) hsg aU hV
    have bfe := hfe.tr b1.fe
    rw [if_neg t3, if_neg (nI_m1 (by omega))]
    have hs : stp tk nv (i, false, mn, st, op, out) = btw i (sgnT (tk i)) (unwS (if rkS (sgnT (tk i)) = 4 then 5 else rkS (sgnT (tk i))) (st, op, out)) := by rw [hst, stpN, if_neg t1, if_neg t2, if_neg t3]
    rcases b2 with ⟨c1, c2, c3⟩ | ⟨c1, c2, c3, c4⟩
    · rw [c3, Option.bind_some]
      dsimp only
      rw [if_neg Bool.false_ne_true, Option.bind_some]
      exact .inr (.inr ⟨by rw [hs, btw, if_pos ⟨c1, c2⟩], B, rfl, by rw [b1.1 29 (by decide) (by decide) (by decide)]; exact a4, bfe⟩)
    · have ej : (if (12 : Int32) < nI (sgnT (tk i)) then (some false) else (some true)) = some (decide (sgnT (tk i) ≤ 12)) := by
        rw [show (12 : Int32) = nI 12 from rfl, iteLt (by omega) (by omega)]
        by_cases z : 12 < sgnT (tk i)
        · rw [if_pos z, decide_eq_false (by omega)]
        · rw [if_neg z, decide_eq_true (by omega)]
      rw [c2, Option.bind_some]
      dsimp only
      rw [if_pos rfl, ej, Option.bind_some]
      exact .inl ⟨_, by rw [hs, btw, if_neg c1], B, rfl, rfl, hi2, by rw [b1.1 28 (by decide) (by decide) (by decide)]; exact a3, c3, c4, bfe⟩
