def bt (x : Int32) (i : Nat) : Bool := x.toBitVec.getLsbD i
theorem b_ext {x y : Int32} (h : ∀ i, i < 32 → bt x i = bt y i) : x = y := Int32.toBitVec_inj.mp (BitVec.eq_of_getLsbD_eq (fun i hi => h i hi))
theorem b_or (x y : Int32) (i : Nat) : bt (x ||| y) i = (bt x i || bt y i) := by unfold bt; rw [Int32.toBitVec_or, BitVec.getLsbD_or]
theorem b_and (x y : Int32) (i : Nat) : bt (x &&& y) i = (bt x i && bt y i) := by unfold bt; rw [Int32.toBitVec_and, BitVec.getLsbD_and]
theorem b_xor (x y : Int32) (i : Nat) : bt (x ^^^ y) i = (bt x i ^^ bt y i) := by unfold bt; rw [Int32.toBitVec_xor, BitVec.getLsbD_xor]
theorem b_big {x : Int32} {i : Nat} (h : 32 ≤ i) : bt x i = false := BitVec.getLsbD_of_ge _ _ h
theorem b_m1 : ∀ i, i < 32 → bt (-1) i = true := by decide +kernel
theorem b_0 (i : Nat) : bt 0 i = false := BitVec.getLsbD_zero
theorem s_l : ∀ n, n < 32 → ((nI n &&& 31).toBitVec.smod 32).toNat = n := by decide +kernel
theorem b_shl (n : Nat) (hn : n < 32) (x : Int32) {i : Nat} (hi : i < 32) : bt (x <<< (nI n &&& 31)) i = (decide (n ≤ i) && bt x (i - n)) := by
  unfold bt
  rw [Int32.toBitVec_shiftLeft]
  show (x.toBitVec <<< ((nI n &&& 31).toBitVec.smod 32).toNat).getLsbD i = _
  rw [s_l n hn, BitVec.getLsbD_shiftLeft]
  rcases Nat.lt_or_ge i n with h | h
  · simp [h, Nat.not_le.mpr h]
  · simp [hi, h, Nat.not_lt.mpr h]
theorem b_sshr (n : Nat) (hn : n < 32) (x : Int32) {i : Nat} (hi : i < 32) : bt (x >>> (nI n &&& 31)) i = if n + i < 32 then bt x (n + i) else bt x 31 := by
  unfold bt
  rw [Int32.toBitVec_shiftRight]
  show (x.toBitVec.sshiftRight ((nI n &&& 31).toBitVec.smod 32).toNat).getLsbD i = _
  rw [s_l n hn, BitVec.getLsbD_sshiftRight, BitVec.msb_eq_getLsbD_last]
  simp [hi]
theorem bt_1 (i : Nat) : bt 1 i = decide (i = 0) := by
  rcases Nat.lt_or_ge i 32 with h | h
  · exact (by decide +kernel : ∀ i, i < 32 → bt 1 i = decide (i = 0)) i h
  · rw [b_big h, decide_eq_false (by omega)]
theorem bt_sh1 {w : Nat} (hw : w < 32) {i : Nat} (hi : i < 32) : bt (sh1 w) i = decide (i = w) := by
  rw [b_shl w hw 1 hi, bt_1]
  by_cases h : i = w
  · subst h; simp
  · by_cases h2 : w ≤ i
    · have : ¬ i - w = 0 := by omega
      simp [h, h2, this]
    · simp [h, h2]
theorem bit_val (x : Int32) {w : Nat} (hw : w < 32) : bit x w = if bt x w = true then 1 else 0 := by
  apply b_ext
  intro i hi
  rw [b_and, b_sshr w hw x hi, bt_1]
  by_cases h : i = 0
  · subst h
    rw [if_pos (by omega), Nat.add_zero]
    cases bt x w <;> simp [bt_1, b_0]
  · rw [dcF h, Bool.and_false]
    cases bt x w <;> simp [bt_1, b_0, h]
theorem bit_0 (x : Int32) {w : Nat} (hw : w < 32) : bit x w = 0 ↔ bt x w = false := by
  rw [bit_val x hw]
  cases bt x w <;> decide
theorem bit_1 (x : Int32) {w : Nat} (hw : w < 32) : bit x w = 1 ↔ bt x w = true := by
  rw [bit_val x hw]
  cases bt x w <;> decide
/-- how many of e bits aren't set -/
def unset (s : Int32) : Nat → Nat
  | 0 => 0
  | e + 1 => unset s e + if bt s e = true then 0 else 1
theorem unset_le (s : Int32) : ∀ e, unset s e ≤ e
  | 0 => Nat.le_refl _
  | e + 1 => by
    have := unset_le s e
    show unset s e + _ ≤ e + 1
    split <;> omega
theorem unset_or {s : Int32} {w : Nat} (hw : w < 32) : ∀ e, e ≤ 32 → unset (s ||| sh1 w) e + (if w < e ∧ bt s w = false then 1 else 0) = unset s e
  | 0, _ => by simp [unset]
  | e + 1, he => by
    have ih := unset_or (s := s) hw e (by omega)
    show unset (s ||| sh1 w) e + (if bt (s ||| sh1 w) e = true then 0 else 1) + _ = unset s e + _
    rw [b_or, bt_sh1 hw (by omega)]
    by_cases h : e = w
    · subst h
      rw [if_neg (by omega)] at ih
      cases hb : bt s e <;> simp_all
    · rw [dcF h, Bool.or_false]
      by_cases c : w < e ∧ bt s w = false
      · rw [if_pos c] at ih
        rw [if_pos (show w < e + 1 ∧ bt s w = false from ⟨by omega, c.2⟩)]
        omega
      · rw [if_neg c] at ih
        rw [if_neg (show ¬ (w < e + 1 ∧ bt s w = false) from fun z => c ⟨by have := z.1; omega, z.2⟩)]
        omega
theorem unset_0 {s : Int32} {w : Nat} : ∀ e, unset s e = 0 → w < e → bt s w = true
  | e + 1, h, hw => by
    have h' : unset s e + (if bt s e = true then 0 else 1) = 0 := h
    rcases Nat.lt_or_ge w e with q | q
    · exact unset_0 e (by omega) q
    · rw [show w = e by omega]
      cases hb : bt s e with
      | true => rfl
      | false => rw [hb] at h'; simp at h'
/-- fuel that is left over changes nothing -/
theorem chF_more {b : Bk} (h12 : bE b ≤ 12) : ∀ (f : Nat) (at' s : Int32), unset s (bE b) ≤ f → ∀ k, chF b (f + k) at' s = chF b f at' s := by
  intro f
  induction f with
  | zero =>
    intro at' s h k
    cases k with
    | zero => rfl
    | succ k =>
      show chF b (0 + (k + 1)) at' s = s
      rw [Nat.zero_add, chF]
      rw [if_neg]
      intro z
      obtain ⟨w, hw, rfl⟩ := isN_of z.1
      rw [nC (by omega), bit_0 s (by omega), unset_0 (bE b) (by omega) hw] at z
      cases z.2
  | succ f ih =>
    intro at' s h k
    rw [show f + 1 + k = (f + k) + 1 by omega, chF, chF]
    by_cases z : isN at' (bE b) = true ∧ bit s at'.toNatClampNeg = 0
    · rw [if_pos z, if_pos z]
      obtain ⟨w, hw, rfl⟩ := isN_of z.1
      have z2 := z.2
      rw [nC (by omega), bit_0 s (by omega)] at z2
      rw [nC (by omega)]
      apply ih
      have := unset_or (s := s) (w := w) (by omega) (bE b) (by omega)
      rw [if_pos ⟨hw, z2⟩] at this
      omega
    · rw [if_neg z, if_neg z]
/-! THE MODEL: its object is the place 50 -/
theorem KSh.mo {K : yK} (h : KSh K) : gO K 50 7 = true := h.ob (by decide) rfl
theorem KSh.mr {K : yK} (h : KSh K) {f q : Nat} (hk : rfT 50 f = some q) : K.2.2 50 f = some q := h.rf (by decide) (by decide) hk
/-- what its ENTRIES hold -/
def ME (M : yM) (b : Bk) : Prop := M 50 0 = nI (bE b) ∧ ∀ w, w < bE b → M 51 w = nI (bK b w) ∧ M 52 w = nI (bM b w) ∧ M 53 (3 * w) = nI (bZ b w) ∧ M 53 (3 * w + 1) = bT b w
def MR (M : yM) (b : Bk) : Prop :=
  (M 50 0 = nI (bE b) ∧ M 50 4 = nI (bDn b) ∧ M 50 6 = nI (bPg b) ∧ M 50 7 = nI (bDy b) ∧ M 50 8 = bBm b ∧ M 50 9 = bSk b ∧ M 50 10 = bCa b ∧ M 50 16 = nI (bLw b)) ∧
  (∀ w, w < bE b → M 51 w = nI (bK b w) ∧ M 52 w = nI (bM b w) ∧ M 53 (3 * w) = nI (bZ b w) ∧ M 53 (3 * w + 1) = bT b w ∧ M 53 (3 * w + 2) = bR b w) ∧
  (∀ d, d < bDn b → M 54 d = bDs b d)
theorem MR.me {M : yM} {b : Bk} (h : MR M b) : ME M b := ⟨h.1.1, fun w hw => ⟨(h.2.1 w hw).1, (h.2.1 w hw).2.1, (h.2.1 w hw).2.2.1, (h.2.1 w hw).2.2.2.1⟩⟩
theorem q_in {K : yK} {M : yM} (x lo hi : Int32) : b_X8_in K M x lo hi = some (decide (lo ≤ x ∧ x ≤ hi)) := by
  unfold b_X8_in
  by_cases h : x < lo
  · rw [if_pos h, dcF (fun z => by have := z.1; rw [i_lt] at h; rw [i_le] at this; omega)]
  · rw [if_neg h]
    by_cases h2 : hi < x
    · rw [if_pos h2, dcF (fun z => by have := z.2; rw [i_lt] at h2; rw [i_le] at this; omega)]
    · rw [if_neg h2, dc]
      rw [i_lt] at h h2
      rw [i_le, i_le]
      omega
theorem q_in0 {K : yK} {M : yM} (x : Int32) {e : Nat} (he : e < 1000000000) : b_X8_in K M x 0 (nI e - 1) = some (isN x e) := by
  rw [q_in]
  unfold isN
  congr 2
  apply propext
  rw [i_le, i_le, i_0]
  have h1 : (nI e - nI 1).toInt = (e : Int) - 1 := pk_sub_toInt (by omega) (by omega)
  rw [show nI e - 1 = nI e - nI 1 from rfl, h1]
  omega
theorem q_isEntry {K : yK} {M : yM} {e : Nat} (hK : KSh K) (h0 : M 50 0 = nI e) (he : e ≤ 12) (x : Int32) : b_X8_isEntry K M 50 x = some (isN x e) := by
  unfold b_X8_isEntry
  rw [if_pos hK.mo, h0, q_in0 x (by omega)]
  rfl
theorem q_isDeed {K : yK} {M : yM} {e : Nat} (hK : KSh K) (h0 : M 50 4 = nI e) (he : e ≤ 12) (x : Int32) : b_X8_isDeed K M 50 x = some (isN x e) := by
  unfold b_X8_isDeed
  rw [if_pos hK.mo, h0, q_in0 x (by omega)]
  rfl
theorem mulN (a b : Nat) : nI a * nI b = nI (a * b) := pk_mul a b
theorem q_takesOf {K : yK} {M : yM} {w : Nat} {b : Bk} (hK : KSh K) (hW : WB b) (hB : ME M b) (hw : w < bE b) : b_X8_takesOf K M 50 (nI w) = some (nI (tkB b w)) := by
  obtain ⟨h12, hv, -⟩ := id hW
  obtain ⟨v1, v2, v3, v4, -⟩ := hv w hw
  obtain ⟨e1, e2, e3, e4⟩ := hB.2 w hw
  have g0 : gA K 51 (nI w) = true := gA_N (hK.ar (n := 12) (by decide) rfl) (by omega) (by omega)
  have g1 : gA K 52 (nI w) = true := gA_N (hK.ar (n := 12) (by decide) rfl) (by omega) (by omega)
  have g2 : gA K 53 (nI (3 * w)) = true := gA_N (hK.ar (n := 36) (by decide) rfl) (by omega) (by omega)
  unfold b_X8_takesOf
  rw [if_pos hK.mo, hK.mr (f := 3) rfl, Option.bind_some, show (3 : Int32) = nI 3 from rfl, mulN, if_pos g2, Option.bind_some, hK.mr (f := 1) rfl, Option.bind_some, if_pos g0, nC (by omega), nC (by omega), e1, e3, show (2 : Int32) = nI 2 from rfl, show (4 : Int32) = nI 4 from rfl, show (5 : Int32) = nI 5 from rfl, iteEq (by omega) (by omega), iteEq (by omega) (by omega), iteEq (by omega) (by omega), hK.mr (f := 2) rfl, Option.bind_some, if_pos g1, e2, divN (by omega) (by omega) (by omega), divN (by omega) (by omega) (by omega), addN]
  unfold tkB tkF
  by_cases h2 : bK b w = 2
  · rw [if_pos h2, if_pos (Or.inl h2), Option.bind_some, show (1 : Int32) = nI 1 from rfl, iteLe (by omega) (by omega), if_pos (by omega)]
  · rw [if_neg h2]
    by_cases h4 : bK b w = 4
    · rw [if_pos h4, if_pos (Or.inr h4), Option.bind_some, show (1 : Int32) = nI 1 from rfl, iteLe (by omega) (by omega), if_pos (by omega)]
    · rw [if_neg h4, if_neg (show ¬ (bK b w = 2 ∨ bK b w = 4) by omega)]
      by_cases h5 : bK b w = 5
      · rw [if_pos h5, if_pos h5, Option.bind_some, show (1 : Int32) = nI 1 from rfl, iteLe (by omega) (by omega)]
        by_cases c : bZ b w / 2 < 1
        · rw [if_neg (by omega), if_pos c]
        · rw [if_pos (by omega), if_neg c]
      · rw [if_neg h5, if_neg h5, Option.bind_some, show (1 : Int32) = nI 1 from rfl, iteLe (by omega) (by omega), if_pos (by omega)]
theorem q_firstPage_loop {K : yK} {M : yM} {b : Bk} (hK : KSh K) (hW : WB b) (hB : ME M b) {w : Nat} (hw : w ≤ bE b) : ∀ (f n i : Nat), i + f = w → f < n → b_X8_firstPage_4 K M 50 (nI w) n (nI (fsB b i)) (nI i) = some (nI (fsB b w)) := by
  have h12 := hW.1
  intro f
  induction f with
  | zero =>
    intro n i hi hn
    obtain ⟨n, rfl⟩ : ∃ k, n = k + 1 := ⟨n - 1, by omega⟩
    rw [b_X8_firstPage_4, iteLe (by omega) (by omega), if_pos (by omega), show i = w by omega]
  | succ f ih =>
    intro n i hi hn
    obtain ⟨n, rfl⟩ : ∃ k, n = k + 1 := ⟨n - 1, by omega⟩
    rw [b_X8_firstPage_4, iteLe (by omega) (by omega), if_neg (by omega), if_pos hK.mo, q_takesOf hK hW hB (by omega), Option.bind_some, addN, Option.bind_some, incN, Option.bind_some]
    exact ih n (i + 1) (by omega) (by omega)
theorem q_firstPage {K : yK} {M : yM} {b : Bk} (hK : KSh K) (hW : WB b) (hB : ME M b) {w : Nat} (hw : w ≤ bE b) : b_X8_firstPage K M 50 (nI w) = some (nI (fsB b w)) := by
  have h12 := hW.1
  unfold b_X8_firstPage
  have := q_firstPage_loop hK hW hB hw w 1000 0 (by omega) (by omega)
  rw [show (0 : Int32) = nI 0 from rfl]
  rw [show b_X8_firstPage_4 K M 50 (nI w) 1000 (nI 0) (nI 0) = b_X8_firstPage_4 K M 50 (nI w) 1000 (nI (fsB b 0)) (nI 0) from rfl, this]
  rfl
theorem q_pagesAll {K : yK} {M : yM} {b : Bk} (hK : KSh K) (hW : WB b) (hB : ME M b) : b_X8_pagesAll K M 50 = some (nI (fsB b (bE b))) := by
  unfold b_X8_pagesAll
  rw [if_pos hK.mo, hB.1, q_firstPage hK hW hB (Nat.le_refl _)]
  rfl
theorem q_needsOn {K : yK} {M : yM} {b : Bk} (hK : KSh K) (hW : WB b) (hB : ME M b) {w : Nat} (hw : w < bE b) : b_X8_needsOn K M 50 (nI w) = some (ndF (bK b w)) := by
  obtain ⟨h12, hv, -⟩ := id hW
  obtain ⟨v1, v2, v3, v4, -⟩ := hv w hw
  obtain ⟨e1, e2, e3, e4⟩ := hB.2 w hw
  have g0 : gA K 51 (nI w) = true := gA_N (hK.ar (n := 12) (by decide) rfl) (by omega) (by omega)
  unfold b_X8_needsOn ndF
  rw [if_pos hK.mo, hK.mr (f := 1) rfl, Option.bind_some, if_pos g0, nC (by omega), e1, show (2 : Int32) = nI 2 from rfl, show (4 : Int32) = nI 4 from rfl, iteEq (by omega) (by omega), iteEq (by omega) (by omega)]
  by_cases h2 : bK b w = 2
  · rw [if_pos h2, dcF (by omega)]
  · rw [if_neg h2]
    by_cases h4 : bK b w = 4
    · rw [if_pos h4, dcF (by omega)]
    · rw [if_neg h4, dc (by omega)]
theorem q_within {K : yK} {M : yM} {x lo hi : Int32} (h : lo ≤ x ∧ x ≤ hi) : b_X8_within K M x lo hi = some x := by
  unfold b_X8_within
  rw [if_pos h.1, if_pos h.2]
theorem orI_0 (x : Int32) : x ||| (0 : Int32) = x := b_ext (fun i _ => by rw [b_or, b_0, Bool.or_false])
theorem zorI (x : Int32) : (0 : Int32) ||| x = x := b_ext (fun i _ => by rw [b_or, b_0, Bool.false_or])
/-- one step of the way -/
def nxB (b : Bk) (w : Nat) : Int32 := if ndF (bK b w) = true then bT b w else -1
theorem q_chainOf_loop {K : yK} {M : yM} {b : Bk} (hK : KSh K) (hW : WB b) (hB : ME M b) : ∀ (f n w : Nat) (s : Int32), w < bE b → unset s (bE b) ≤ f → f + 1 < n → b_X8_chainOf_9 K M 50 n s (nI w) true = some (chF b (unset s (bE b)) (nxB b w) s) := by
  obtain ⟨h12, hv, -⟩ := id hW
  intro f
  induction f with
  | zero =>
    intro n w s hw hu hn
    obtain ⟨n, rfl⟩ : ∃ k, n = k + 2 := ⟨n - 2, by omega⟩
    obtain ⟨v1, v2, v3, v4, -⟩ := hv w hw
    obtain ⟨e1, e2, e3, e4⟩ := hB.2 w hw
    have g2 : gA K 53 (nI (3 * w) + (1 : Int32)) = true := by rw [incN]; exact gA_N (hK.ar (n := 36) (by decide) rfl) (by omega) (by omega)
    rw [b_X8_chainOf_9, if_pos rfl, if_pos hK.mo, q_needsOn hK hW hB hw, Option.bind_some]
    have hj : (if ndF (bK b w) = true then Option.bind (K.2.2 50 3) (fun q6 => if gA K q6 (((3 : Int32) * nI w) + (1 : Int32)) = true then some (M q6 (((3 : Int32) * nI w) + (1 : Int32)).toNatClampNeg) else none) else some (-1 : Int32)) = some (nxB b w) := by
      unfold nxB
      by_cases c : ndF (bK b w) = true
      · rw [if_pos c, if_pos c, hK.mr (f := 3) rfl, Option.bind_some, show (3 : Int32) = nI 3 from rfl, mulN, if_pos g2, incN, nC (by omega), e4]
      · rw [if_neg c, if_neg c]
    rw [hj, Option.bind_some, q_isEntry hK hB.1 h12, Option.bind_some]
    have hz : unset s (bE b) = 0 := by omega
    rw [hz]
    show _ = some s
    cases c : isN (nxB b w) (bE b) with
    | false =>
      rw [if_neg (by decide), Option.bind_some, if_neg (by decide), Option.bind_some, Option.bind_some, if_neg (by decide), Option.bind_some, orI_0, b_X8_chainOf_9, if_neg (by decide)]
    | true =>
      obtain ⟨j, hj2, e5⟩ := isN_of c
      rw [e5, if_pos rfl, q_within ⟨by rw [show (0 : Int32) = nI 0 from rfl, leN (by omega) (by omega)]; omega, by rw [show (11 : Int32) = nI 11 from rfl, leN (by omega) (by omega)]; omega⟩, Option.bind_some, if_neg (by rw [bit_0 s (by omega), unset_0 (bE b) hz hj2]; decide), Option.bind_some, if_neg (by decide), Option.bind_some, Option.bind_some, if_neg (by decide), Option.bind_some, orI_0, b_X8_chainOf_9, if_neg (by decide)]
  | succ f ih =>
    intro n w s hw hu hn
    obtain ⟨n, rfl⟩ : ∃ k, n = k + 2 := ⟨n - 2, by omega⟩
    obtain ⟨v1, v2, v3, v4, -⟩ := hv w hw
    obtain ⟨e1, e2, e3, e4⟩ := hB.2 w hw
    have g2 : gA K 53 (nI (3 * w) + (1 : Int32)) = true := by rw [incN]; exact gA_N (hK.ar (n := 36) (by decide) rfl) (by omega) (by omega)
    rw [b_X8_chainOf_9, if_pos rfl, if_pos hK.mo, q_needsOn hK hW hB hw, Option.bind_some]
    have hj : (if ndF (bK b w) = true then Option.bind (K.2.2 50 3) (fun q6 => if gA K q6 (((3 : Int32) * nI w) + (1 : Int32)) = true then some (M q6 (((3 : Int32) * nI w) + (1 : Int32)).toNatClampNeg) else none) else some (-1 : Int32)) = some (nxB b w) := by
      unfold nxB
      by_cases c : ndF (bK b w) = true
      · rw [if_pos c, if_pos c, hK.mr (f := 3) rfl, Option.bind_some, show (3 : Int32) = nI 3 from rfl, mulN, if_pos g2, incN, nC (by omega), e4]
      · rw [if_neg c, if_neg c]
    rw [hj, Option.bind_some, q_isEntry hK hB.1 h12, Option.bind_some]
    cases c : isN (nxB b w) (bE b) with
    | false =>
      rw [if_neg (by decide), Option.bind_some, if_neg (by decide), Option.bind_some, Option.bind_some, if_neg (by decide), Option.bind_some, orI_0, b_X8_chainOf_9, if_neg (by decide)]
      cases unset s (bE b) with
      | zero => rfl
      | succ u => rw [chF, if_neg (by rw [c]; simp)]
    | true =>
      obtain ⟨j, hj2, e5⟩ := isN_of c
      rw [e5, if_pos rfl, q_within ⟨by rw [show (0 : Int32) = nI 0 from rfl, leN (by omega) (by omega)]; omega, by rw [show (11 : Int32) = nI 11 from rfl, leN (by omega) (by omega)]; omega⟩, Option.bind_some]
      by_cases d : bit s j = 0
      · have d2 := (bit_0 s (by omega)).mp d
        have hun := unset_or (s := s) (w := j) (by omega) (bE b) (by omega)
        rw [if_pos ⟨hj2, d2⟩] at hun
        rw [if_pos d, Option.bind_some, if_pos rfl, Option.bind_some, Option.bind_some, if_pos rfl, Option.bind_some]
        rw [ih (n + 1) j (s ||| sh1 j) hj2 (by omega) (by omega)]
        obtain ⟨u, hu2⟩ : ∃ u, unset s (bE b) = u + 1 := ⟨unset s (bE b) - 1, by omega⟩
        rw [hu2, chF, if_pos ⟨isN_at hj2 (by omega), by rw [nC (by omega)]; exact d⟩, nC (by omega), show unset (s ||| sh1 j) (bE b) = u by omega]
        rfl
      · rw [if_neg d, Option.bind_some, if_neg (by decide), Option.bind_some, Option.bind_some, if_neg (by decide), Option.bind_some, orI_0, b_X8_chainOf_9, if_neg (by decide)]
        cases unset s (bE b) with
        | zero => rfl
        | succ u => rw [chF, if_neg (by rw [nC (by omega)]; exact fun z => d z.2)]
theorem q_chainOf {K : yK} {M : yM} {b : Bk} (hK : KSh K) (hW : WB b) (hB : ME M b) {w : Nat} (hw : w < bE b) : b_X8_chainOf K M 50 (nI w) = some (chB b w) := by
  have h12 := hW.1
  unfold b_X8_chainOf
  have h0 : bt (0 : Int32) w = false := b_0 w
  have hun := unset_or (s := 0) (w := w) (by omega) (bE b) (by omega)
  rw [if_pos ⟨hw, h0⟩] at hun
  have hle := unset_le 0 (bE b)
  rw [zorI] at hun
  rw [Option.bind_some, q_chainOf_loop hK hW hB 12 1000 w (sh1 w) hw (by omega) (by omega), Option.bind_some]
  unfold chB
  rw [show (12 : Nat) = unset (sh1 w) (bE b) + (11 - unset (sh1 w) (bE b)) + 1 by omega, chF, if_pos ⟨isN_at hw (by omega), by rw [nC (by omega)]; exact (bit_0 0 (by omega)).mpr h0⟩, nC (by omega), zorI, chF_more h12 _ _ _ (Nat.le_refl _)]
  rfl
