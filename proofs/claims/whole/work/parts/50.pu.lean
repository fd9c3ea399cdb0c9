/-! all that stands between two calls -/
def IR (M : yM) (c : Bk) : Prop := (M 50 18 = nI (bE c) ∧ M 50 19 = nI (bDn c) ∧ M 50 20 = nI (bLw c)) ∧ (∀ w, w < bE c → M 58 (3 * w) = nI (bZ c w) ∧ M 58 (3 * w + 1) = bT c w ∧ M 58 (3 * w + 2) = bR c w) ∧ (∀ d, d < bDn c → M 59 d = bDs c d) ∧ (M 60 0 = nI (bPg c) ∧ M 60 1 = nI (bDy c) ∧ M 60 2 = bBm c ∧ M 60 3 = bSk c ∧ M 60 4 = bCa c)
def imI (im : Bool) : Int32 := if im = true then 1 else 0
def shI (so : Nat → Int32) (sz : Nat → Nat) (ce : Nat → Nat → Int32) (f : Nat → Int32 → Nat → (Nat → Int32) → Prop) : Prop := ∀ s, s < 4 → f s (so s) (sz s) (ce s)
/-- the class -/
def IC (K : yK) (M : yM) (b ib : Bk) (im : Bool) (tn ts : Nat) (tx : Nat → Tx) (tp so : Nat → Int32) (sz : Nat → Nat) (ce : Nat → Nat → Int32) : Prop :=
  (BR M 7 b ∧ BS M 7 b) ∧ (im = true → BR M 16 ib ∧ BS M 16 ib) ∧ (M 0 6 = nI ts ∧ M 0 7 = nI tn ∧ M 0 8 = imI im) ∧ (∀ i, i < ts → M 49 i = tp i) ∧ (∀ l, l < tn → xT K M l (tx l)) ∧ ∀ s, s < 4 → M (41 + 2 * s) 1 = so s ∧ M (41 + 2 * s) 2 = nI (sz s) ∧ ∀ j, j < sz s → M (42 + 2 * s) j = ce s j
/-- the model -/
def wds : List Int32 := [114, 101, 97, 100, 115, 32, 32, 32, 104, 111, 108, 100, 115, 32, 32, 32, 119, 111, 114, 116, 104, 32, 32, 32, 100, 97, 121, 32, 32, 32, 32, 32, 109, 111, 114, 101, 32, 32, 32, 32, 112, 97, 103, 101, 115, 32, 32, 32, 101, 110, 116, 114, 121, 32, 32, 32, 119, 111, 114, 100, 115, 32, 32, 32, 98, 101, 104, 105, 110, 100, 32, 32, 111, 114, 32, 32, 32, 32, 32, 32, 97, 110, 100, 32, 32, 32, 32, 32, 110, 111, 116, 32, 32, 32, 32, 32]
def IM (M : yM) (b ib : Bk) (im : Bool) (tn ts : Nat) (tx : Nat → Tx) (tp so : Nat → Int32) (sz : Nat → Nat) (ce : Nat → Nat → Int32) : Prop :=
  QB tn tx b M ∧ (im = true → IR M ib) ∧ (M 50 12 = nI ts ∧ M 50 15 = nI tn ∧ M 50 17 = imI im) ∧ (∀ i, i < ts → M 55 i = tp i) ∧ (∀ i, i < 96 → M 65 i = wds.getD i 0) ∧ ∀ s, s < 4 → M 61 s = so s ∧ M 62 s = nI (sz s) ∧ ∀ j, j < sz s → M 63 (40 * s + j) = ce s j
/-- all is well -/
def IW (K : yK) (b ib : Bk) (im : Bool) (tn ts : Nat) (tx : Nat → Tx) (tp so : Nat → Int32) (sz : Nat → Nat) : Prop :=
  (KSh K ∧ K.1 ≤ 71 + 2 * tn) ∧ (WX b ∧ bDy b ≤ 999 ∧ bLw b < tn) ∧ (TX tn tx ∧ 1 ≤ tn ∧ tn ≤ 6) ∧ (ts ≤ 160 ∧ ∀ i, i < ts → ∃ j, j < 256 ∧ tp i = nI j) ∧ (im = true → WX ib ∧ bDy ib ≤ 999 ∧ bLw ib < tn ∧ bE ib ≤ bE b ∧ ∀ w, w < bE ib → bK ib w = bK b w ∧ bM ib w = bM b w) ∧ ∀ s, s < 4 → sz s ≤ 40 ∧ (so s = -1 ∨ so s = 0 ∨ so s = 1 ∨ so s = 2)
def IN (K : yK) (M : yM) (b ib : Bk) (im : Bool) (tn ts : Nat) (tx : Nat → Tx) (tp so : Nat → Int32) (sz : Nat → Nat) (ce : Nat → Nat → Int32) : Prop :=
  IW K b ib im tn ts tx tp so sz ∧ IC K M b ib im tn ts tx tp so sz ce ∧ IM M b ib im tn ts tx tp so sz ce
def IE (K : yK) (M : yM) : Prop := ∃ b ib im tn ts tx tp so sz ce, IN K M b ib im tn ts tx tp so sz ce
/-- two calls that answer alike and leave all well -/
def AL {α : Type} (K : yK) (p q : yM → Option (α × yM)) (M : yM) : Prop := ∃ r M1 M2, p M = some (r, M1) ∧ q M1 = some (r, M2) ∧ IE K M2
/-- what the class's part does not feel -/
def Fk (M M' : yM) : Prop := ∀ q, (q < 5 ∨ (6 < q ∧ q < 25) ∨ (33 < q ∧ q < 50) ∨ 70 < q) → M' q = M q
theorem Fk.tr {M M' M'' : yM} (h : Fk M M') (g : Fk M' M'') : Fk M M'' := fun q z => (g q z).trans (h q z)
theorem Fc.fk {M M' : yM} (h : Fc M M') : Fk M M' := fun q z => h q (by omega) (by omega) (by omega)
theorem Ms.fk {M M' : yM} (h : Ms M M') : Fk M M' := fun q z => h.2 q (by omega)
theorem IC.fk {K : yK} {M M' : yM} {b ib : Bk} {im : Bool} {tn ts : Nat} {tx : Nat → Tx} {tp so : Nat → Int32} {sz : Nat → Nat} {ce : Nat → Nat → Int32} (h : IC K M b ib im tn ts tx tp so sz ce) (g : Fk M M') : IC K M' b ib im tn ts tx tp so sz ce := by
  obtain ⟨⟨h1, h2⟩, h3, h4, h5, h6, h7⟩ := h
  refine ⟨⟨h1.cg (fun q z1 z2 => g q (by omega)), h2.cg (fun q z1 z2 => g q (by omega))⟩, fun z => ⟨(h3 z).1.cg (fun q z1 z2 => g q (by omega)), (h3 z).2.cg (fun q z1 z2 => g q (by omega))⟩, ?_, fun i hi => ?_, fun l hl => (h6 l hl).cg (fun q z => g q (by omega)), fun s hs => ?_⟩
  · rw [g 0 (by omega)]; exact h4
  · rw [g 49 (by omega)]; exact h5 i hi
  · rw [g (41 + 2 * s) (by omega), g (42 + 2 * s) (by omega)]; exact h7 s hs
theorem IM.f {M M' : yM} {b ib : Bk} {im : Bool} {tn ts : Nat} {tx : Nat → Tx} {tp so : Nat → Int32} {sz : Nat → Nat} {ce : Nat → Nat → Int32} (h : IM M b ib im tn ts tx tp so sz ce) (g : Ms M M') (hb : MR M' b) : IM M' b ib im tn ts tx tp so sz ce := by
  obtain ⟨h1, h2, h3, h4, h5, h6⟩ := h
  refine ⟨h1.ms g hb, fun z => ?_, ?_, fun i hi => ?_, fun i hi => ?_, fun s hs => ?_⟩
  · unfold IR
    rw [g.1 18 (by omega), g.1 19 (by omega), g.1 20 (by omega), g.2 58 (by omega), g.2 59 (by omega), g.2 60 (by omega)]
    exact h2 z
  · rw [g.1 12 (by omega), g.1 15 (by omega), g.1 17 (by omega)]; exact h3
  · rw [g.2 55 (by omega)]; exact h4 i hi
  · rw [g.2 65 (by omega)]; exact h5 i hi
  · rw [g.2 61 (by omega), g.2 62 (by omega), g.2 63 (by omega)]; exact h6 s hs
theorem Fc.ms {M M' : yM} (h : Fc M M') : (∀ q, 50 ≤ q → q ≤ 70 → M' q = M q) := fun q z1 z2 => h q (by omega) (by omega) (by omega)
/-- no place of the model has changed -/
theorem IM.c {M M' : yM} {b ib : Bk} {im : Bool} {tn ts : Nat} {tx : Nat → Tx} {tp so : Nat → Int32} {sz : Nat → Nat} {ce : Nat → Nat → Int32} (h : IM M b ib im tn ts tx tp so sz ce) (g : ∀ q, 50 ≤ q → q ≤ 70 → M' q = M q) : IM M' b ib im tn ts tx tp so sz ce := by
  obtain ⟨⟨h0, h01, h02, h03⟩, h2, h3, h4, h5, h6⟩ := h
  refine ⟨⟨h0.cg (fun q z1 z2 => g q (by omega) (by omega)), by rw [g 50 (by omega) (by omega)]; exact h01, by rw [g 50 (by omega) (by omega)]; exact h02, fun l hl => (h03 l hl).cg (g 57 (by omega) (by omega)) (g 56 (by omega) (by omega))⟩, fun z => ?_, ?_, fun i hi => ?_, fun i hi => ?_, fun s hs => ?_⟩
  · unfold IR
    rw [g 50 (by omega) (by omega), g 58 (by omega) (by omega), g 59 (by omega) (by omega), g 60 (by omega) (by omega)]
    exact h2 z
  · rw [g 50 (by omega) (by omega)]; exact h3
  · rw [g 55 (by omega) (by omega)]; exact h4 i hi
  · rw [g 65 (by omega) (by omega)]; exact h5 i hi
  · rw [g 61 (by omega) (by omega), g 62 (by omega) (by omega), g 63 (by omega) (by omega)]; exact h6 s hs
/-- what was asked changed nothing -/
theorem IN.q {K : yK} {M M1 M2 : yM} {b ib : Bk} {im : Bool} {tn ts : Nat} {tx : Nat → Tx} {tp so : Nat → Int32} {sz : Nat → Nat} {ce : Nat → Nat → Int32} (h : IN K M b ib im tn ts tx tp so sz ce) (g1 : Fc M M1) (g2 : Ms M1 M2) (hb : MR M2 b) : IE K M2 :=
  ⟨b, ib, im, tn, ts, tx, tp, so, sz, ce, h.1, h.2.1.fk (g1.fk.tr g2.fk), (h.2.2.c g1.ms).f g2 hb⟩
theorem IN.qb {K : yK} {M M1 : yM} {b ib : Bk} {im : Bool} {tn ts : Nat} {tx : Nat → Tx} {tp so : Nat → Int32} {sz : Nat → Nat} {ce : Nat → Nat → Int32} (h : IN K M b ib im tn ts tx tp so sz ce) (g1 : Fc M M1) : QB tn tx b M1 := (h.2.2.c g1.ms).1
theorem AL.q {α : Type} {K : yK} {p q : yM → Option (α × yM)} {M M1 M2 : yM} {b ib : Bk} {im : Bool} {tn ts : Nat} {tx : Nat → Tx} {tp so : Nat → Int32} {sz : Nat → Nat} {ce : Nat → Nat → Int32} {r : α} (h : IN K M b ib im tn ts tx tp so sz ce) (e1 : p M = some (r, M1)) (g1 : Fc M M1) (e2 : q M1 = some (r, M2)) (g2 : Ms M1 M2) (hb : MR M2 b) : AL K p q M := ⟨r, M1, M2, e1, e2, h.q g1 g2 hb⟩
theorem AL.no {α : Type} {K : yK} {p q : yM → Option (α × yM)} {M : yM} {b ib : Bk} {im : Bool} {tn ts : Nat} {tx : Nat → Tx} {tp so : Nat → Int32} {sz : Nat → Nat} {ce : Nat → Nat → Int32} {r : α} (h : IN K M b ib im tn ts tx tp so sz ce) (e1 : p M = some (r, M)) (e2 : q M = some (r, M)) : AL K p q M := ⟨r, M, M, e1, e2, b, ib, im, tn, ts, tx, tp, so, sz, ce, h⟩
/-! bounds of numbers -/
theorem inD (x lo hi : Int32) : (if x < lo then (some false) else (if hi < x then (some false) else (some true))) = some (decide (lo ≤ x ∧ x ≤ hi)) := by
  by_cases h1 : x < lo
  · rw [if_pos h1, decide_eq_false]
    rw [i_le, i_le]
    rw [i_lt] at h1
    omega
  · rw [if_neg h1]
    by_cases h2 : hi < x
    · rw [if_pos h2, decide_eq_false]
      rw [i_le, i_le]
      rw [i_lt] at h2
      omega
    · rw [if_neg h2, decide_eq_true]
      rw [i_le, i_le]
      rw [i_lt] at h1 h2
      omega
theorem c_isDays {K : yK} {M : yM} (x : Int32) : b_X7_isDays K M x = some (decide (0 ≤ x ∧ x ≤ 60)) := inD x 0 60
theorem c_isSeed {K : yK} {M : yM} (x : Int32) : b_X7_isSeed K M x = some (decide (0 ≤ x ∧ x ≤ 99999)) := inD x 0 99999
theorem c_isByte {K : yK} {M : yM} (x : Int32) : b_X7_isByte K M x = some (decide (0 ≤ x ∧ x ≤ 255)) := inD x 0 255
theorem c_isSheet {K : yK} {M : yM} (x : Int32) : b_X7_isSheet K M x = some (decide (0 ≤ x ∧ x ≤ 3)) := by
  unfold b_X7_isSheet
  rw [← inD]
  have e : ((4 : Int32) ≤ x) = ((3 : Int32) < x) := by
    rw [i_le, i_lt, show (4 : Int32).toInt = 4 by decide, show (3 : Int32).toInt = 3 by decide]
    apply propext
    omega
  by_cases h : x < 0
  · rw [if_pos h, if_pos h]
  · rw [if_neg h, if_neg h]
    by_cases g : (4 : Int32) ≤ x
    · rw [if_pos g, if_pos (e ▸ g)]
    · rw [if_neg g, if_neg (fun z => g (e ▸ z))]
theorem c_zo {K : yK} {M : yM} (x : Int32) : b_X7_isZeroOrOne K M x = some (decide (0 ≤ x ∧ x ≤ 1)) := by
  unfold b_X7_isZeroOrOne
  have e : (0 ≤ x ∧ x ≤ 1) = (x = 0 ∨ x = 1) := by
    rw [i_le, i_le, i_eq, i_eq, i_0, show (1 : Int32).toInt = 1 by decide]
    apply propext
    omega
  by_cases h : x = 0
  · rw [if_pos h, decide_eq_true (by rw [e]; exact .inl h)]
  · rw [if_neg h]
    by_cases g : x = 1
    · rw [if_pos g, decide_eq_true (by rw [e]; exact .inr g)]
    · rw [if_neg g, decide_eq_false (by rw [e]; exact fun z => z.elim h g)]
theorem in_N {x : Int32} {e : Nat} (he : e < 2147483648) (h : 0 ≤ x ∧ x ≤ nI e) : ∃ j, j ≤ e ∧ x = nI j := by
  obtain ⟨j, hj, rfl⟩ := nI_of (x := x) (by have := h.1; rw [i_le, i_0] at this; rw [i_lt, i_0]; omega)
  have := h.2
  rw [leN (by omega) (by omega)] at this
  exact ⟨j, this, rfl⟩
theorem zo_of {x : Int32} (h : 0 ≤ x ∧ x ≤ 1) : x = 0 ∨ x = 1 := by
  obtain ⟨j, hj, rfl⟩ := in_N (e := 1) (by decide) h
  rcases (show j = 0 ∨ j = 1 by omega) with rfl | rfl
  · exact .inl rfl
  · exact .inr rfl
theorem dT {p : Prop} [Decidable p] (h : p) : (decide p = true) = True := by rw [decide_eq_true h]; exact eq_true rfl
theorem dF {p : Prop} [Decidable p] (h : ¬ p) : (decide p = true) = False := by rw [decide_eq_false h]; exact eq_false (by decide)
theorem ifd {p : Prop} [Decidable p] (h : p) {α : Type} (a b : α) : (if decide p = true then a else b) = a := if_pos (decide_eq_true h)
theorem ifn {p : Prop} [Decidable p] (h : ¬ p) {α : Type} (a b : α) : (if decide p = true then a else b) = b := if_neg (fun z => h (of_decide_eq_true z))
