/-! the reference reads: its stack of signs, its codes -/
def HS (M : yM) : List Nat → Prop
  | [] => True
  | c :: st => M 66 st.length = nI c ∧ HS M st
theorem HS.cg {M M' : yM} : ∀ {st : List Nat}, HS M st → (∀ j, j < st.length → M' 66 j = M 66 j) → HS M' st
  | [], _, _ => trivial
  | _ :: st, h, g => ⟨(g st.length (Nat.lt_succ_self _)).trans h.1, h.2.cg (fun j hj => g j (Nat.lt_succ_of_lt hj))⟩
def MU (M : yM) (k : Nat) (u : St) : Prop := (M 50 34 = nI u.1.length ∧ M 50 35 = nI u.2.1 ∧ M 50 36 = nI u.2.2.1 ∧ M 50 15 = nI k) ∧ HS M u.1 ∧ ∀ j, j < u.2.2.1 → M 56 (200 * k + j) = nI (u.2.2.2 j)
def FU (k : Nat) (M M' : yM) : Prop := (∀ f, f ≠ 34 → f ≠ 35 → f ≠ 36 → M' 50 f = M 50 f) ∧ (∀ q, q ≠ 50 → q ≠ 56 → q ≠ 66 → M' q = M q) ∧ ∀ j, j < 200 * k → M' 56 j = M 56 j
theorem FU.rf (k : Nat) (M : yM) : FU k M M := ⟨fun _ _ _ _ => rfl, fun _ _ _ _ => rfl, fun _ _ => rfl⟩
theorem FU.tr {k : Nat} {M M' M'' : yM} (h : FU k M M') (g : FU k M' M'') : FU k M M'' := ⟨fun f z1 z2 z3 => (g.1 f z1 z2 z3).trans (h.1 f z1 z2 z3), fun q z1 z2 z3 => (g.2.1 q z1 z2 z3).trans (h.2.1 q z1 z2 z3), fun j hj => (g.2.2 j hj).trans (h.2.2 j hj)⟩
def sgV (c : Nat) : Prop := c = 0 ∨ (11 ≤ c ∧ c ≤ 19)
def opc (c : Nat) : Nat := if c = 0 ∨ c = 13 ∨ c = 19 then 1 else 0
def cnt : List Nat → Nat
  | [] => 0
  | c :: st => cnt st + opc c
def SV (u : St) (i : Nat) : Prop := (∀ c, c ∈ u.1 → sgV c) ∧ u.2.1 = cnt u.1 ∧ u.2.2.1 + u.1.length ≤ i
theorem q_rank {K : yK} {M : yM} {c : Nat} (h : sgV c) : b_X8_rank K M (nI c) = some (nI (rkS c)) := by
  rcases (show c = 0 ∨ c = 11 ∨ c = 12 ∨ c = 13 ∨ c = 14 ∨ c = 15 ∨ c = 16 ∨ c = 17 ∨ c = 18 ∨ c = 19 by unfold sgV at h; omega) with rfl | rfl | rfl | rfl | rfl | rfl | rfl | rfl | rfl | rfl <;> rfl
theorem KSh.m66 {K : yK} (h : KSh K) : K.2.2 50 33 = some 66 ∧ isAr K 66 200 ∧ K.2.2 50 13 = some 56 ∧ isAr K 56 1200 := ⟨h.mr rfl, h.ar (by decide) rfl, h.mr rfl, h.ar (by decide) rfl⟩
theorem q_puts {K : yK} {M : yM} {k : Nat} {st : List Nat} {op : Nat} {out : Ot} (hK : KSh K) (hk : k < 6) (h : MU M k (st, op, out)) (hl : out.1 < 200) (c : Nat) : ∃ M', b_X8_puts K M 50 (nI c) = some M' ∧ MU M' k (st, op, pu out c) ∧ FU k M M' := by
  obtain ⟨-, -, g3, g4⟩ := hK.m66
  obtain ⟨⟨h1, h2, h3, h4⟩, h5, h6⟩ := h
  have h1 : M 50 34 = nI st.length := h1
  have h2 : M 50 35 = nI op := h2
  have h3 : M 50 36 = nI out.1 := h3
  unfold b_X8_puts
  rw [if_pos hK.mo, g3, Option.bind_some, h4, h3, show (200 : Int32) * nI k + nI out.1 = nI (200 * k + out.1) by rw [show (200 : Int32) = nI 200 from rfl, mulN, addN], if_pos (gA_N g4 (by omega) (by omega)), nC (by omega), Option.bind_some, yS_op _ _ _ _ (by decide), h3, incN, Option.bind_some]
  refine ⟨_, rfl, ⟨⟨?_, ?_, yS_at _ _ _ _, ?_⟩, ?_, fun j hj => ?_⟩, fun f z1 z2 z3 => ?_, fun q z1 z2 z3 => ?_, fun j hj => ?_⟩
  · rw [yS_oi _ _ _ _ (by decide), yS_op _ _ _ _ (by decide)]; exact h1
  · rw [yS_oi _ _ _ _ (by decide), yS_op _ _ _ _ (by decide)]; exact h2
  · rw [yS_oi _ _ _ _ (by decide), yS_op _ _ _ _ (by decide)]; exact h4
  · exact h5.cg (fun j hj => by rw [yS_op _ _ _ _ (by decide), yS_op _ _ _ _ (by decide)])
  · have hj' : j < out.1 + 1 := hj
    rw [yS_op _ _ _ _ (by decide)]
    show _ = nI (upN out.2 out.1 c j)
    by_cases z : j = out.1
    · rw [z, yS_at, upN_at]
    · rw [yS_oi _ _ _ _ (by omega), upN_o _ _ _ z]; exact h6 j (by show j < out.1; omega)
  · rw [yS_oi _ _ _ _ z3, yS_op _ _ _ _ (by decide)]
  · rw [yS_q _ _ _ z1, yS_q _ _ _ z2]
  · rw [yS_op _ _ _ _ (by decide), yS_oi _ _ _ _ (by omega)]
theorem q_holds {K : yK} {M : yM} {k : Nat} {st : List Nat} {op : Nat} {out : Ot} (hK : KSh K) (h : MU M k (st, op, out)) (hl : st.length < 200) (c : Nat) : ∃ M', b_X8_holds K M 50 (nI c) = some M' ∧ MU M' k (c :: st, op, out) ∧ FU k M M' := by
  obtain ⟨g1, g2, -, -⟩ := hK.m66
  obtain ⟨⟨h1, h2, h3, h4⟩, h5, h6⟩ := h
  have h1 : M 50 34 = nI st.length := h1
  unfold b_X8_holds
  rw [if_pos hK.mo, g1, Option.bind_some, h1, if_pos (gA_N g2 (by omega) (by omega)), nC (by omega), Option.bind_some, yS_op _ _ _ _ (by decide), h1, incN, Option.bind_some]
  refine ⟨_, rfl, ⟨⟨yS_at _ _ _ _, ?_, ?_, ?_⟩, ⟨?_, ?_⟩, fun j hj => ?_⟩, fun f z1 z2 z3 => ?_, fun q z1 z2 z3 => ?_, fun j hj => ?_⟩
  · rw [yS_oi _ _ _ _ (by decide), yS_op _ _ _ _ (by decide)]; exact h2
  · rw [yS_oi _ _ _ _ (by decide), yS_op _ _ _ _ (by decide)]; exact h3
  · rw [yS_oi _ _ _ _ (by decide), yS_op _ _ _ _ (by decide)]; exact h4
  · rw [yS_op _ _ _ _ (by decide), yS_at]
  · exact h5.cg (fun j hj => by rw [yS_op _ _ _ _ (by decide), yS_oi _ _ _ _ (show j ≠ st.length from by have hj' : j < st.length := hj; omega)])
  · rw [yS_op _ _ _ _ (by decide), yS_op _ _ _ _ (by decide)]; exact h6 j hj
  · rw [yS_oi _ _ _ _ z1, yS_op _ _ _ _ (by decide)]
  · rw [yS_q _ _ _ z1, yS_q _ _ _ z3]
  · rw [yS_op _ _ _ _ (by decide), yS_op _ _ _ _ (by decide)]
theorem unw_SV {r i : Nat} (hr : 1 ≤ r) : ∀ (st : List Nat) (op : Nat) (out : Ot), SV (st, op, out) i → SV (unw r st op out) i
  | [], _, _, h => h
  | c :: st, op, out, h => by
    obtain ⟨h1, h2, h3⟩ := h
    have h2 : op = cnt st + opc c := h2
    have h3 : out.1 + (st.length + 1) ≤ i := h3
    rw [unw]
    by_cases z : r ≤ rkS c
    · rw [if_pos z]
      have c0 : c ≠ 0 := fun e => by rw [e] at z; have : rkS 0 = 0 := rfl; omega
      refine unw_SV hr st _ _ ⟨fun d hd => h1 d (List.mem_cons_of_mem _ hd), ?_, by show out.1 + 1 + st.length ≤ i; omega⟩
      show (if c = 13 ∨ c = 19 then op - 1 else op) = cnt st
      by_cases y : c = 13 ∨ c = 19
      · rw [if_pos y, h2]
        unfold opc
        rw [if_pos (.inr y)]
        omega
      · rw [if_neg y, h2]
        unfold opc
        rw [if_neg (fun q => q.elim c0 y)]
        omega
    · rw [if_neg z]
      exact ⟨h1, h2, h3⟩
theorem q_unwinds {K : yK} {k r i : Nat} (hK : KSh K) (hk : k < 6) (hr : 1 ≤ r) (hr7 : r ≤ 7) (hi : i ≤ 161) : ∀ (st : List Nat) (n op : Nat) (out : Ot) (M : yM), st.length < n → SV (st, op, out) i → MU M k (st, op, out) → ∃ M', b_X8_unwinds_0 K 50 (nI r) n M = some M' ∧ MU M' k (unw r st op out) ∧ FU k M M' := by
  obtain ⟨g1, g2, -, -⟩ := hK.m66
  intro st
  induction st with
  | nil =>
    intro n op out M hn hs hU
    obtain ⟨n, rfl⟩ : ∃ z, n = z + 1 := ⟨n - 1, by have : 0 < n := hn; omega⟩
    refine ⟨M, ?_, hU, FU.rf k M⟩
    have h0 : M 50 34 = nI 0 := hU.1.1
    rw [b_X8_unwinds_0, if_pos hK.mo, h0, if_pos (by decide)]
  | cons c st ih =>
    intro n op out M hn hs hU
    obtain ⟨n, rfl⟩ : ∃ z, n = z + 1 := ⟨n - 1, by have : 0 < n := Nat.lt_of_le_of_lt (Nat.zero_le _) hn; omega⟩
    have hn' : st.length + 1 < n + 1 := hn
    obtain ⟨s1, s2, s3⟩ := id hs
    have s2 : op = cnt st + opc c := s2
    have s3 : out.1 + (st.length + 1) ≤ i := s3
    have hc := s1 c (List.mem_cons_self ..)
    have hrk : rkS c ≤ 7 := by
      unfold sgV at hc
      rcases (show c = 0 ∨ c = 11 ∨ c = 12 ∨ c = 13 ∨ c = 14 ∨ c = 15 ∨ c = 16 ∨ c = 17 ∨ c = 18 ∨ c = 19 by omega) with rfl | rfl | rfl | rfl | rfl | rfl | rfl | rfl | rfl | rfl <;> decide
    have h1 : M 50 34 = nI (st.length + 1) := hU.1.1
    have h2 : M 50 35 = nI op := hU.1.2.1
    have h5 : M 66 st.length = nI c := hU.2.1.1
    have e1 : nI (st.length + 1) - (1 : Int32) = nI st.length := subN (b := 1) (by omega)
    rw [b_X8_unwinds_0, if_pos hK.mo, h1, show (0 : Int32) = nI 0 from rfl, iteLe (by omega) (by omega), if_neg (by omega), g1, Option.bind_some, e1, if_pos (gA_N g2 (by omega) (by omega)), nC (by omega), h5, q_rank hc, Option.bind_some, iteLt (by omega) (by omega), unw]
    by_cases z : r ≤ rkS c
    · have c0 : c ≠ 0 := fun e => by rw [e] at z; have : rkS 0 = 0 := rfl; omega
      obtain ⟨j, j1, j2⟩ : ∃ j, (if nI c = (13 : Int32) then (some true) else (if nI c = (19 : Int32) then (some true) else (some false))) = some j ∧ nI op - bI j = nI (if c = 13 ∨ c = 19 then op - 1 else op) := by
        rw [show (13 : Int32) = nI 13 from rfl, show (19 : Int32) = nI 19 from rfl, iteEq (by unfold sgV at hc; omega) (by omega), iteEq (by unfold sgV at hc; omega) (by omega)]
        by_cases y : c = 13 ∨ c = 19
        · refine ⟨true, ?_, ?_⟩
          · rcases y with e | e
            · rw [if_pos e]
            · rw [if_neg (by omega), if_pos e]
          · rw [if_pos y]
            exact subN (b := 1) (by rw [s2]; unfold opc; rw [if_pos (.inr y)]; omega)
        · refine ⟨false, ?_, ?_⟩
          · rw [if_neg (fun e => y (.inl e)), if_neg (fun e => y (.inr e))]
          · rw [if_neg y]
            exact Int32.sub_zero _
      obtain ⟨N, hN⟩ : ∃ N, N = yS (yS M 50 34 (nI st.length)) 50 35 (nI (if c = 13 ∨ c = 19 then op - 1 else op)) := ⟨_, rfl⟩
      have nU : MU N k (st, (if c = 13 ∨ c = 19 then op - 1 else op), out) := by
        refine ⟨⟨?_, ?_, ?_, ?_⟩, ?_, fun j hj => ?_⟩
        · rw [hN, yS_oi _ _ _ _ (by decide), yS_at]
        · rw [hN, yS_at]
        · rw [hN, yS_oi _ _ _ _ (by decide), yS_oi _ _ _ _ (by decide)]; exact hU.1.2.2.1
        · rw [hN, yS_oi _ _ _ _ (by decide), yS_oi _ _ _ _ (by decide)]; exact hU.1.2.2.2
        · exact hU.2.1.2.cg (fun j hj => by rw [hN, yS_op _ _ _ _ (by decide), yS_op _ _ _ _ (by decide)])
        · rw [hN, yS_op _ _ _ _ (by decide), yS_op _ _ _ _ (by decide)]; exact hU.2.2 j hj
      have nF : FU k M N := ⟨fun f z1 z2 z3 => by rw [hN, yS_oi _ _ _ _ z2, yS_oi _ _ _ _ z1], fun q z1 z2 z3 => by rw [hN, yS_q _ _ _ z1, yS_q _ _ _ z1], fun j hj => by rw [hN, yS_op _ _ _ _ (by decide), yS_op _ _ _ _ (by decide)]⟩
      obtain ⟨M2, p1, p2, p3⟩ := q_puts hK hk nU (by omega) c
      have s4 : SV (st, (if c = 13 ∨ c = 19 then op - 1 else op), pu out c) i := by
        have := unw_SV (r := r) (i := i) hr [c] op out
        refine ⟨fun d hd => s1 d (List.mem_cons_of_mem _ hd), ?_, by show out.1 + 1 + st.length ≤ i; omega⟩
        show (if c = 13 ∨ c = 19 then op - 1 else op) = cnt st
        by_cases y : c = 13 ∨ c = 19
        · rw [if_pos y, s2]
          unfold opc
          rw [if_pos (.inr y)]
          omega
        · rw [if_neg y, s2]
          unfold opc
          rw [if_neg (fun q => q.elim c0 y)]
          omega
      obtain ⟨M3, r1, r2, r3⟩ := ih n _ (pu out c) M2 (by omega) s4 p2
      rw [if_neg (by omega), if_pos z, Option.bind_some, yS_at, if_pos (gA_N g2 (by omega) (by omega)), nC (by omega), yS_op _ _ _ _ (by decide), h5, Option.bind_some, j1, Option.bind_some, yS_oi _ _ _ _ (by decide), h2, j2, Option.bind_some, ← hN, p1, Option.bind_some]
      exact ⟨M3, r1, r2, (nF.tr p3).tr r3⟩
    · rw [if_pos (by omega), if_neg z]
      exact ⟨M, rfl, hU, FU.rf k M⟩
theorem q_unw {K : yK} {M : yM} {k r i : Nat} {u : St} (hK : KSh K) (hk : k < 6) (hr : 1 ≤ r) (hr7 : r ≤ 7) (hi : i ≤ 161) (hs : SV u i) (hU : MU M k u) : ∃ M', b_X8_unwinds K M 50 (nI r) = some M' ∧ MU M' k (unwS r u) ∧ FU k M M' := by
  obtain ⟨st, op, out⟩ := u
  have s3 : out.1 + st.length ≤ i := hs.2.2
  obtain ⟨M', e1, e2, e3⟩ := q_unwinds hK hk hr hr7 hi st 1000 op out M (by omega) hs hU
  refine ⟨M', ?_, e2, e3⟩
  unfold b_X8_unwinds
  rw [e1, Option.bind_some]
