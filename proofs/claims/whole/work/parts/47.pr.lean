/-! the class: the best choice, what fits -/
def vI (o k : Nat) : Int32 := nI k - nI o
def beF (W vf : Nat → Int32) : Nat → Nat → Int32 → Int32 → Int32 × Int32
  | 0, _, a, m => (a, m)
  | f + 1, k, a, m => if W k ≤ m then beF W vf f (k + 1) a m else beF W vf f (k + 1) (vf k) (W k)
theorem vI_s (o k : Nat) : vI o k + (1 : Int32) = vI o (k + 1) := by
  unfold vI
  rw [show nI (k + 1) = nI k + 1 from (incN k).symm]
  simp only [Int32.sub_eq_add_neg]
  rw [Int32.add_assoc, Int32.add_comm (-(nI o)) 1, ← Int32.add_assoc]
theorem vI_0 (k : Nat) : vI 0 k = nI k := by
  unfold vI
  rw [show nI 0 = (0 : Int32) from rfl, Int32.sub_zero]
theorem vI_le {e o k : Nat} (he : e < 1000) (ho : o < 1000) (hk : k < 1000) : (nI e ≤ vI o k) = (e + o ≤ k) := by
  unfold vI
  rw [i_le, nJ (by omega), subI (by omega) (by omega)]
  apply propext
  omega
theorem vI_lt {e o k : Nat} (he : e < 1000) (ho : o < 1000) (hk : k < 1000) : (vI o e ≤ vI o k) = (e ≤ k) := by
  unfold vI
  rw [i_le, subI (by omega) (by omega), subI (by omega) (by omega)]
  apply propext
  omega
theorem vI_d (o k : Nat) : vI o k - vI o 0 = nI k := by
  unfold vI
  rw [show nI 0 = (0 : Int32) from rfl, Int32.zero_sub]
  simp only [Int32.sub_eq_add_neg, Int32.neg_neg]
  rw [Int32.add_assoc, Int32.add_comm (-(nI o)), Int32.add_right_neg, Int32.add_zero]
/-- a choice that can be thought -/
def CH (K : yK) (ch w v : Int32) (b c : Bk) : Prop := TH K ch w v b c ∧ WX c ∧ bDy c ≤ 999
theorem wS_0 (x : Tx) (b : Bk) {n : Nat} (hn : n ≤ 60) : toldS x (lotT 0 0) b n 0 = wS x noT b n := by
  rw [toldS_cg (U := noT) (fun i hi => lotT_0 i (by omega))]
  rfl
theorem p_lived {K : yK} {M : yM} {x : Tx} {b c : Bk} {n : Nat} {ch w v : Int32} (hK : KSh K) (hx : TxW x) (hn : n ≤ 60) (hB : BR M 7 b) (hS : BS M 7 b) (hc : CH K ch w v b c) (hl : bLw c = bLw b) (hX : xT K M (bLw b) x) :
    ∃ M1 M2, b_X7_think K M 0 ch w v = some M1 ∧ b_X7_passDays K M1 0 (nI n) 0 0 0 = some (wS x noT c n, M2) ∧ Fc M M2 := by
  obtain ⟨M1, a1, a2, a3, a4⟩ := hc.1 M hB hS
  obtain ⟨M2, e1, e2⟩ := p_passDays (m := n) 0 0 0 hK hc.2.1 hx hn hc.2.2 a2 a3 (by rw [hl]; exact a4.xT hX)
  rw [wS_0 x c hn] at e1
  exact ⟨M1, M2, a1, e1, a4.tr e2⟩
theorem Fc.br {M M' : yM} {b : Bk} (h : Fc M M') (hB : BR M 7 b) : BR M' 7 b := hB.cg (fun q h1 h2 => h q (by omega) (by omega) (by omega))
theorem Fc.bs {M M' : yM} {b : Bk} (h : Fc M M') (hB : BS M 7 b) : BS M' 7 b := hB.cg (fun q h1 h2 => h q (by omega) (by omega) (by omega))
theorem p_worthIf {K : yK} {M : yM} {x : Tx} {b c : Bk} {n : Nat} {ch w v : Int32} (hK : KSh K) (hx : TxW x) (hn : n ≤ 60) (hB : BR M 7 b) (hS : BS M 7 b) (hc : CH K ch w v b c) (hl : bLw c = bLw b) (hX : xT K M (bLw b) x) : ∃ M', b_X7_worthIf K M 0 ch w v (nI n) = some (wS x noT c n, M') ∧ Fc M M' := by
  obtain ⟨M1, M2, a1, a2, a3⟩ := p_lived hK hx hn hB hS hc hl hX
  refine ⟨M2, ?_, a3⟩
  unfold b_X7_worthIf
  rw [if_pos hK.o0, a1, Option.bind_some, a2, Option.bind_some]
theorem p_best_loop {K : yK} {x : Tx} {b : Bk} {c : Nat → Bk} {n o : Nat} {ch w sign : Int32} (hK : KSh K) (hx : TxW x) (hn : n ≤ 60) (ho : o ≤ 1) (h12 : bE b ≤ 12) (hc : ∀ k, k < bE b + o → CH K ch w (vI o k) b (c k) ∧ bLw (c k) = bLw b) : ∀ (f g k : Nat) (M : yM) (a m : Int32), k + f = bE b + o → f < g → BR M 7 b → BS M 7 b → xT K M (bLw b) x →
    ∃ M', b_X7_best_15 K 0 ch w (nI n) sign g M a m (vI o k) = some ((beF (fun k => sign * wS x noT (c k) n) (vI o) f k a m).1, M') ∧ Fc M M' := by
  intro f
  induction f with
  | zero =>
    intro g k M a m hk hg hB hS hX
    obtain ⟨g, rfl⟩ : ∃ z, g = z + 1 := ⟨g - 1, by omega⟩
    refine ⟨M, ?_, Fc.rf _⟩
    rw [b_X7_best_15, if_pos hK.o0, hK.r00, Option.bind_some, if_pos hK.o7, hB.1.1, if_pos (by rw [vI_le (by omega) (by omega) (by omega)]; omega)]
    rfl
  | succ f ih =>
    intro g k M a m hk hg hB hS hX
    obtain ⟨g, rfl⟩ : ∃ z, g = z + 1 := ⟨g - 1, by omega⟩
    obtain ⟨h1, h2⟩ := hc k (by omega)
    obtain ⟨M1, M2, a1, a2, a3⟩ := p_lived hK hx hn hB hS h1 h2 hX
    rw [b_X7_best_15, if_pos hK.o0, hK.r00, Option.bind_some, if_pos hK.o7, hB.1.1, if_neg (by rw [vI_le (by omega) (by omega) (by omega)]; omega), a1, Option.bind_some, a2, Option.bind_some]
    dsimp only
    rw [Option.bind_some, beF]
    by_cases z : sign * wS x noT (c k) n ≤ m
    · rw [if_pos z, if_pos z, Option.bind_some, vI_s, Option.bind_some]
      obtain ⟨M', r1, r2⟩ := ih g (k + 1) M2 a m (by omega) (by omega) (a3.br hB) (a3.bs hS) (a3.xT hX)
      exact ⟨M', r1, a3.tr r2⟩
    · rw [if_neg z, if_neg z, Option.bind_some, vI_s, Option.bind_some]
      obtain ⟨M', r1, r2⟩ := ih g (k + 1) M2 (vI o k) (sign * wS x noT (c k) n) (by omega) (by omega) (a3.br hB) (a3.bs hS) (a3.xT hX)
      exact ⟨M', r1, a3.tr r2⟩
theorem p_best {K : yK} {M : yM} {x : Tx} {b : Bk} {c : Nat → Bk} {n o : Nat} {ch w sign bd : Int32} (hK : KSh K) (hx : TxW x) (hn : n ≤ 60) (ho : o ≤ 1) (h12 : bE b ≤ 12) (hc : ∀ k, k < bE b + o → CH K ch w (vI o k) b (c k) ∧ bLw (c k) = bLw b) (hB : BR M 7 b) (hS : BS M 7 b) (hX : xT K M (bLw b) x) :
    ∃ M', b_X7_best K M 0 ch w (vI o 0) (nI n) sign bd = some ((beF (fun k => sign * wS x noT (c k) n) (vI o) (bE b + o) 0 (vI o 0 - 1) (sign * bd)).1, M') ∧ Fc M M' := by
  obtain ⟨M', r1, r2⟩ := p_best_loop (sign := sign) hK hx hn ho h12 hc (bE b + o) 1000 0 M (vI o 0 - 1) (sign * bd) (by omega) (by omega) hB hS hX
  refine ⟨M', ?_, r2⟩
  unfold b_X7_best
  rw [Option.bind_some, Option.bind_some, r1, Option.bind_some]
def ftF (F : Nat → Bool) : Nat → Int32
  | 0 => 0
  | k + 1 => if F k = true then ftF F k ||| sh1 k else ftF F k
def fitB (x : Tx) (c : Bk) (m : Nat) (cl : Nat → Int32) : Bool := decide (foF x c cl m 0 = -1)
theorem p_fitting_loop {K : yK} {tx : Nat → Tx} {b : Bk} {c : Nat → Bk} {e o m s tn : Nat} {ch w : Int32} {cl : Nat → Int32} (hK : KSh K) (hs : s < 4) (hm : m ≤ 40) (ho : o ≤ 1) (he : e ≤ 20) (hx : ∀ l, l < tn → TxW (tx l)) (hc : ∀ k, k < e → CH K ch w (vI o k) b (c k) ∧ bLw (c k) < tn) : ∀ (f g k : Nat) (M : yM), k + f = e → f < g → BR M 7 b → BS M 7 b → (∀ l, l < tn → xT K M l (tx l)) → M (41 + 2 * s) 2 = nI m → (∀ j, j < m → M (42 + 2 * s) j = cl j) →
    ∃ M', b_X7_fitting_7 K 0 (41 + 2 * s) ch w (vI o 0) (vI o e) g M (ftF (fun k => fitB (tx (bLw (c k))) (c k) m cl) k) (vI o k) = some (ftF (fun k => fitB (tx (bLw (c k))) (c k) m cl) e, M') ∧ Fc M M' := by
  intro f
  induction f with
  | zero =>
    intro g k M hk hg hB hS hX h2 hcl
    obtain ⟨g, rfl⟩ : ∃ z, g = z + 1 := ⟨g - 1, by omega⟩
    obtain rfl : k = e := by omega
    refine ⟨M, ?_, Fc.rf _⟩
    rw [b_X7_fitting_7, if_pos (by rw [vI_lt (by omega) (by omega) (by omega)]; omega)]
  | succ f ih =>
    intro g k M hk hg hB hS hX h2 hcl
    obtain ⟨g, rfl⟩ : ∃ z, g = z + 1 := ⟨g - 1, by omega⟩
    obtain ⟨h1, hl⟩ := hc k (by omega)
    obtain ⟨M1, a1, a2, a3, a4⟩ := h1.1 M hB hS
    obtain ⟨M2, e1, e2⟩ := p_first (c := cl) hK hs h1.2.1 (hx _ hl) hm h1.2.2 (by rw [a4 _ (by omega) (by omega) (by omega)]; exact h2) (fun j hj => by rw [a4 _ (by omega) (by omega) (by omega)]; exact hcl j hj) a2 a3 (a4.xT (hX _ hl))
    have f2 := a4.tr e2
    rw [b_X7_fitting_7, if_neg (by rw [vI_lt (by omega) (by omega) (by omega)]; omega), if_pos hK.o0, a1, Option.bind_some, e1, Option.bind_some]
    dsimp only
    have ej : (if foF (tx (bLw (c k))) (c k) cl m 0 = (-1 : Int32) then (Option.bind (some (ftF (fun k => fitB (tx (bLw (c k))) (c k) m cl) k ||| ((1 : Int32) <<< ((vI o k - vI o 0) &&& 31)))) fun v7 => (some v7)) else (some (ftF (fun k => fitB (tx (bLw (c k))) (c k) m cl) k))) = some (ftF (fun k => fitB (tx (bLw (c k))) (c k) m cl) (k + 1)) := by
      rw [vI_d, ftF]
      by_cases z : foF (tx (bLw (c k))) (c k) cl m 0 = -1
      · rw [if_pos z, if_pos (show fitB (tx (bLw (c k))) (c k) m cl = true from decide_eq_true z), Option.bind_some]
      · rw [if_neg z, if_neg (show ¬ fitB (tx (bLw (c k))) (c k) m cl = true from fun h => z (of_decide_eq_true h))]
    rw [ej, Option.bind_some, vI_s, Option.bind_some]
    obtain ⟨M', r1, r2⟩ := ih g (k + 1) M2 (by omega) (by omega) (f2.br hB) (f2.bs hS) (fun l hl => f2.xT (hX l hl)) (by rw [f2 _ (by omega) (by omega) (by omega)]; exact h2) (fun j hj => by rw [f2 _ (by omega) (by omega) (by omega)]; exact hcl j hj)
    exact ⟨M', r1, f2.tr r2⟩
theorem p_fitting {K : yK} {M : yM} {tx : Nat → Tx} {b : Bk} {c : Nat → Bk} {e o m s tn : Nat} {ch w : Int32} {cl : Nat → Int32} (hK : KSh K) (hs : s < 4) (hm : m ≤ 40) (ho : o ≤ 1) (he : e ≤ 20) (hx : ∀ l, l < tn → TxW (tx l)) (hc : ∀ k, k < e → CH K ch w (vI o k) b (c k) ∧ bLw (c k) < tn) (hB : BR M 7 b) (hS : BS M 7 b) (hX : ∀ l, l < tn → xT K M l (tx l)) (h2 : M (41 + 2 * s) 2 = nI m) (hcl : ∀ j, j < m → M (42 + 2 * s) j = cl j) :
    ∃ M', b_X7_fitting K M 0 (41 + 2 * s) ch w (vI o 0) (vI o e) = some (ftF (fun k => fitB (tx (bLw (c k))) (c k) m cl) e, M') ∧ Fc M M' := by
  obtain ⟨M', r1, r2⟩ := p_fitting_loop (cl := cl) hK hs hm ho he hx hc e 1000 0 M (by omega) (by omega) hB hS hX h2 hcl
  refine ⟨M', ?_, r2⟩
  have r1 : b_X7_fitting_7 K 0 (41 + 2 * s) ch w (vI o 0) (vI o e) 1000 M 0 (vI o 0) = some (ftF (fun k => fitB (tx (bLw (c k))) (c k) m cl) e, M') := r1
  unfold b_X7_fitting
  rw [r1, Option.bind_some]
