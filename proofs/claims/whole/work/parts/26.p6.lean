/-! what a text says -/
def six (a b c d e f : Int32) (j : Nat) : Int32 := if j = 0 then a else if j = 1 then b else if j = 2 then c else if j = 3 then d else if j = 4 then e else f
def put6 (M : yM) (p : Nat) (a b c d e f : Int32) : yM := yS (yS (yS (yS (yS (yS M p 0 a) p 1 b) p 2 c) p 3 d) p 4 e) p 5 f
theorem put6_at (M : yM) (p : Nat) (a b c d e f : Int32) {j : Nat} (hj : j < 6) : put6 M p a b c d e f p j = six a b c d e f j := by
  unfold put6
  rcases (show j = 0 ∨ j = 1 ∨ j = 2 ∨ j = 3 ∨ j = 4 ∨ j = 5 by omega) with rfl | rfl | rfl | rfl | rfl | rfl
  · rw [yS_oi _ _ _ _ (by decide), yS_oi _ _ _ _ (by decide), yS_oi _ _ _ _ (by decide), yS_oi _ _ _ _ (by decide), yS_oi _ _ _ _ (by decide), yS_at]; rfl
  · rw [yS_oi _ _ _ _ (by decide), yS_oi _ _ _ _ (by decide), yS_oi _ _ _ _ (by decide), yS_oi _ _ _ _ (by decide), yS_at]; rfl
  · rw [yS_oi _ _ _ _ (by decide), yS_oi _ _ _ _ (by decide), yS_oi _ _ _ _ (by decide), yS_at]; rfl
  · rw [yS_oi _ _ _ _ (by decide), yS_oi _ _ _ _ (by decide), yS_at]; rfl
  · rw [yS_oi _ _ _ _ (by decide), yS_at]; rfl
  · rw [yS_at]; rfl
theorem put6_op (M : yM) (p : Nat) (a b c d e f : Int32) {q : Nat} (hq : q ≠ p) : put6 M p a b c d e f q = M q := by
  funext z
  unfold put6
  rw [yS_op _ _ _ _ hq, yS_op _ _ _ _ hq, yS_op _ _ _ _ hq, yS_op _ _ _ _ hq, yS_op _ _ _ _ hq, yS_op _ _ _ _ hq]
theorem p_about {K : yK} {M : yM} (hK : KSh K) (a b c d e f : Int32) : b_X4_about K M 4 a b c d e f = some (put6 M 6 a b c d e f) := by
  have a6 : isAr K 6 6 := hK.ar (by decide) rfl
  unfold b_X4_about
  rw [if_pos hK.ro, hK.rf (p := 4) (f := 1) (by decide) (by decide) rfl, Option.bind_some, show (0 : Int32) = nI 0 from rfl, show (1 : Int32) = nI 1 from rfl, show (2 : Int32) = nI 2 from rfl, show (3 : Int32) = nI 3 from rfl, show (4 : Int32) = nI 4 from rfl, show (5 : Int32) = nI 5 from rfl,
    if_pos (gA_N a6 (by omega) (by omega)), Option.bind_some, if_pos (gA_N a6 (by omega) (by omega)), Option.bind_some, if_pos (gA_N a6 (by omega) (by omega)), Option.bind_some, if_pos (gA_N a6 (by omega) (by omega)), Option.bind_some, if_pos (gA_N a6 (by omega) (by omega)), Option.bind_some, if_pos (gA_N a6 (by omega) (by omega)), Option.bind_some,
    nC (by omega), nC (by omega), nC (by omega), nC (by omega), nC (by omega), nC (by omega)]
  rfl
def clS (v : Int32) : Int32 := if 0 < (if v < 99 then v else 99) then (if v < 99 then v else 99) else 0
def nmB (b : Bk) (w : Nat) (many behind : Int32) : Nat → Int32 := six (nI (bDy b)) (nI (bM b w)) (nI (bZ b w)) (nI w) many behind
def saysB (x : Tx) (b : Bk) (part w : Nat) (many behind : Int32) : Int32 := if part = 1 then (if sayV x (nmB b w many behind) 1 = 0 then 0 else 1) else clS (sayV x (nmB b w many behind) part)
/-- the class looks into its book t and its text -/
theorem p_says {K : yK} {M : yM} {t part w : Nat} {b : Bk} {x : Tx} (hK : KSh K) (ht : isB t) (hW : WB b) (hB : BR M t b) (hL : bLw b < 6) (hX : xT K M (bLw b) x) (hx : TxW x) (hp : part < 3) (hw : w < bE b) (many behind : Int32) : ∃ M', b_X0_says K M t (nI part) (nI w) many behind = some (saysB x b part w many behind, M') ∧ ∀ q, q ≠ 5 → q ≠ 6 → M' q = M q := by
  obtain ⟨⟨h8, -, -, h11, -, -, -, h15⟩, hv, -⟩ := id hB
  obtain ⟨h12, hr, -⟩ := id hW
  obtain ⟨v1, v2, v3, -⟩ := hv w hw
  obtain ⟨lp, cp, a1, a2, a3, a4, a5, a6, a7, a8, a9⟩ := hX
  have t7 : 7 ≤ t := by rcases ht with rfl | rfl | rfl <;> omega
  have k1 : 1 < K.1 ∧ K.2.1 1 = (1, 6) := ⟨by have := hK.1; omega, by rw [hK.2.2.1 1 (by decide)]; rfl⟩
  have f6 : ∀ q, q ≠ 6 → put6 M 6 (nI (bDy b)) (nI (bM b w)) (nI (bZ b w)) (nI w) many behind q = M q := fun q hq => put6_op _ _ _ _ _ _ _ _ hq
  obtain ⟨M', e1, e2⟩ := p_value (K := K) (M := put6 M 6 (nI (bDy b)) (nI (bM b w)) (nI (bZ b w)) (nI w) many behind) (cp := cp) (lp := lp) (part := part) (x := x) (nm := nmB b w many behind) hK a2 a3 a4 (by omega) hp hx (by rw [f6 lp (by omega)]; exact a7) (by rw [f6 lp (by omega)]; exact a8) (fun j hj => by rw [f6 cp (by omega)]; exact a9 j hj) (fun j hj => put6_at _ _ _ _ _ _ _ _ hj)
  refine ⟨M', ?_, fun q h5 h6 => by rw [e2 q h5, f6 q h6]⟩
  unfold b_X0_says
  rw [if_pos (hK.bo ht), p_has hK ht h8 h12, Option.bind_some, isN_at hw (by omega), if_pos rfl, h15, if_neg (nI_pos (by omega)), hK.b17 ht, Option.bind_some,
    if_pos (show gT K 1 1 = true from decide_eq_true ⟨k1.1, by rw [k1.2]⟩), show Int32.ofNat (K.2.1 1).2 = nI 6 by rw [k1.2]; rfl, iteLt (by omega) (by omega), if_pos hL, hK.b18 ht, Option.bind_some,
    hK.br ht (f := 1) (by omega), Option.bind_some, if_pos (gA_N (hK.ba ht (f := 1) (by omega)) (by omega) (by omega)), hK.br ht (f := 2) (by omega), Option.bind_some, if_pos (gA_N (hK.ba ht (f := 2) (by omega)) (by omega) (by omega)), if_pos hK.ro, h11, nC (by omega), v2, v3, p_about hK, Option.bind_some, f6 t (by omega), h15,
    if_pos (show gQ K 1 1 (nI (bLw b)) = true from decide_eq_true ⟨k1.1, by rw [k1.2], nI_pos (by omega), by rw [k1.2, nC (by omega)]; exact hL⟩), nC (by omega), a1, Option.bind_some, e1, Option.bind_some]
  unfold saysB
  dsimp only
  rw [show (1 : Int32) = nI 1 from rfl, iteEq (by omega) (by omega)]
  by_cases c : part = 1
  · rw [if_pos c, if_pos c, c]
    by_cases z : sayV x (nmB b w many behind) 1 = 0
    · rw [if_pos z, if_pos z]
    · rw [if_neg z, if_neg z]
  · rw [if_neg c, if_neg c]
    rfl
theorem clS_v {K : yK} {M : yM} (v : Int32) : b_X8_within K M v 0 99 = some (clS v) := by
  unfold b_X8_within clS
  have h99 : (99 : Int32).toInt = 99 := by decide
  by_cases h : (0 : Int32) ≤ v
  · rw [if_pos h]
    rw [i_le, i_0] at h
    by_cases h2 : v ≤ 99
    · rw [if_pos h2]
      rw [i_le, h99] at h2
      by_cases h3 : v < 99
      · rw [if_pos h3]
        by_cases h4 : 0 < v
        · rw [if_pos h4]
        · rw [if_neg h4]
          rw [i_lt, i_0] at h4
          rw [show v = 0 from Int32.toInt_inj.mp (by rw [i_0]; omega)]
      · rw [if_neg h3, if_pos (by decide)]
        rw [i_lt, h99] at h3
        rw [show v = 99 from Int32.toInt_inj.mp (by rw [h99]; omega)]
    · rw [if_neg h2]
      rw [i_le, h99] at h2
      rw [if_neg (show ¬ v < 99 by rw [i_lt, h99]; omega), if_pos (by decide)]
  · rw [if_neg h]
    rw [i_le, i_0] at h
    rw [if_pos (show v < 99 by rw [i_lt, h99]; omega), if_neg (show ¬ 0 < v by rw [i_lt, i_0]; omega)]
theorem q_asksOf {K : yK} {M : yM} {part w : Nat} {b : Bk} {x : Tx} (hK : KSh K) (hW : WB b) (hB : ME M b) (h7 : M 50 7 = nI (bDy b)) (h16 : M 50 16 = nI (bLw b)) (hL : bLw b < 6) (hX : MT M (bLw b) x) (hx : TxW x) (hp : part < 3) (hw : w < bE b) (many behind : Int32) : ∃ M', b_X8_asksOf K M 50 (nI part) (nI w) many behind = some (saysB x b part w many behind, M') ∧ ∀ q, q ≠ 67 → q ≠ 68 → M' q = M q := by
  obtain ⟨h0, hv⟩ := id hB
  obtain ⟨h12, hr, -⟩ := id hW
  obtain ⟨v1, v2, v3, -⟩ := hv w hw
  have a68 : isAr K 68 6 := hK.ar (by decide) rfl
  have f68 : ∀ q, q ≠ 68 → put6 M 68 (nI (bDy b)) (nI (bM b w)) (nI (bZ b w)) (nI w) many behind q = M q := fun q hq => put6_op _ _ _ _ _ _ _ _ hq
  obtain ⟨M', e1, e2⟩ := q_says (K := K) (M := put6 M 68 (nI (bDy b)) (nI (bM b w)) (nI (bZ b w)) (nI w) many behind) (k := bLw b) (part := part) (x := x) (nm := nmB b w many behind) hK hL hp hx (by rw [f68 50 (by decide)]; exact h16) (hX.cg (f68 57 (by decide)) (f68 56 (by decide))) (fun j hj => put6_at _ _ _ _ _ _ _ _ hj)
  refine ⟨M', ?_, fun q h5 h6 => by rw [e2 q h5, f68 q h6]⟩
  unfold b_X8_asksOf
  rw [if_pos hK.mo, hK.mr (f := 38) rfl, Option.bind_some, show (0 : Int32) = nI 0 from rfl, if_pos (gA_N a68 (by omega) (by omega)), Option.bind_some, hK.mr (f := 2) rfl, Option.bind_some, if_pos (gA_N (hK.ar (p := 52) (n := 12) (by decide) rfl) (by omega) (by omega)), show (1 : Int32) = nI 1 from rfl, if_pos (gA_N a68 (by omega) (by omega)), Option.bind_some, hK.mr (f := 3) rfl, Option.bind_some, show (3 : Int32) = nI 3 from rfl, mulN, if_pos (gA_N (hK.ar (p := 53) (n := 36) (by decide) rfl) (by omega) (by omega)), show (2 : Int32) = nI 2 from rfl, if_pos (gA_N a68 (by omega) (by omega)), Option.bind_some, if_pos (gA_N a68 (by omega) (by omega)), Option.bind_some, show (4 : Int32) = nI 4 from rfl, if_pos (gA_N a68 (by omega) (by omega)), Option.bind_some, show (5 : Int32) = nI 5 from rfl, if_pos (gA_N a68 (by omega) (by omega)), Option.bind_some]
  simp only [nC (show 0 < 2147483648 by omega), nC (show 1 < 2147483648 by omega), nC (show 2 < 2147483648 by omega), nC (show 3 < 2147483648 by omega), nC (show 4 < 2147483648 by omega), nC (show 5 < 2147483648 by omega), nC (show w < 2147483648 by omega), nC (show 3 * w < 2147483648 by omega)]
  rw [yS_op M 68 0 _ (q := 52) (by decide), yS_op _ 68 1 _ (q := 53) (by decide), yS_op M 68 0 _ (q := 53) (by decide), h7, v2, v3]
  rw [show (yS (yS (yS (yS (yS (yS M 68 0 (nI (bDy b))) 68 1 (nI (bM b w))) 68 2 (nI (bZ b w))) 68 3 (nI w)) 68 4 many) 68 5 behind) = put6 M 68 (nI (bDy b)) (nI (bM b w)) (nI (bZ b w)) (nI w) many behind from rfl, e1, Option.bind_some]
  unfold saysB
  dsimp only
  rw [iteEq (by omega) (by omega)]
  by_cases c : part = 1
  · rw [if_pos c, if_pos c, c]
    by_cases z : sayV x (nmB b w many behind) 1 = 0
    · rw [if_pos z]; exact if_pos z
    · rw [if_neg z]; exact if_neg z
  · rw [if_neg c, if_neg c, show nI 0 = (0 : Int32) from rfl, clS_v, Option.bind_some]
