/-! calls that change the Book: set, force, live, put, deed -/
def Fb (M M' : yM) : Prop := ∀ q, q ≠ 5 → q ≠ 6 → (q < 7 ∨ 15 < q) → (q < 25 ∨ 33 < q) → M' q = M q
theorem Fb.rf (M : yM) : Fb M M := fun _ _ _ _ _ => rfl
theorem Fb.tr {M M' M'' : yM} (h : Fb M M') (g : Fb M' M'') : Fb M M'' := fun q z1 z2 z3 z4 => (g q z1 z2 z3 z4).trans (h q z1 z2 z3 z4)
theorem Fb.ms {M M' : yM} (h : Fb M M') : ∀ q, 50 ≤ q → q ≤ 70 → M' q = M q := fun q z1 z2 => h q (by omega) (by omega) (by omega) (by omega)
/-- the Book has become another one -/
def IB (b' ib : Bk) (im : Bool) (tn : Nat) : Prop := (WX b' ∧ bDy b' ≤ 999 ∧ bLw b' < tn) ∧ (im = true → bE ib ≤ bE b' ∧ ∀ w, w < bE ib → bK ib w = bK b' w ∧ bM ib w = bM b' w)
theorem IN.ib {K : yK} {M : yM} {b ib : Bk} {im : Bool} {tn ts : Nat} {tx : Nat → Tx} {tp so : Nat → Int32} {sz : Nat → Nat} {ce : Nat → Nat → Int32} (h : IN K M b ib im tn ts tx tp so sz ce) {b' : Bk} (hW : WX b') (hd : bDy b' ≤ 999) (hl : bLw b' < tn) (he : bE b ≤ bE b') (hk : ∀ w, w < bE b → bK b' w = bK b w ∧ bM b' w = bM b w) : IB b' ib im tn := by
  refine ⟨⟨hW, hd, hl⟩, fun z => ?_⟩
  obtain ⟨-, -, -, h4, h5⟩ := h.1.2.2.2.2.1 z
  refine ⟨by omega, fun w hw => ?_⟩
  obtain ⟨e1, e2⟩ := h5 w hw
  obtain ⟨e3, e4⟩ := hk w (by omega)
  exact ⟨e1.trans e3.symm, e2.trans e4.symm⟩
theorem IN.bk {K : yK} {M M1 M2 : yM} {b ib : Bk} {im : Bool} {tn ts : Nat} {tx : Nat → Tx} {tp so : Nat → Int32} {sz : Nat → Nat} {ce : Nat → Nat → Int32} (h : IN K M b ib im tn ts tx tp so sz ce) {b' : Bk} (hI : IB b' ib im tn) (hB : BR M1 7 b') (hS : BS M1 7 b') (g1 : Fb M M1) (g2 : Ms M1 M2) (hm : MR M2 b') : IN K M2 b' ib im tn ts tx tp so sz ce := by
  obtain ⟨⟨w1, w2, w3, w4, w5, w6⟩, ⟨c1, c2, c3, c4, c5, c6⟩, m⟩ := h
  refine ⟨⟨w1, hI.1, w3, w4, fun z => ⟨(w5 z).1, (w5 z).2.1, (w5 z).2.2.1, hI.2 z⟩, w6⟩, ?_, ?_⟩
  · refine IC.fk (M := M1) ⟨⟨hB, hS⟩, fun z => ⟨(c2 z).1.cg (fun q z1 z2 => g1 q (by omega) (by omega) (by omega) (by omega)), (c2 z).2.cg (fun q z1 z2 => g1 q (by omega) (by omega) (by omega) (by omega))⟩, ?_, fun i hi => ?_, fun l hl => (c5 l hl).cg (fun q z => g1 q (by omega) (by omega) (by omega) (by omega)), fun s hs => ?_⟩ g2.fk
    · rw [g1 0 (by omega) (by omega) (by omega) (by omega)]; exact c3
    · rw [g1 49 (by omega) (by omega) (by omega) (by omega)]; exact c4 i hi
    · rw [g1 (41 + 2 * s) (by omega) (by omega) (by omega) (by omega), g1 (42 + 2 * s) (by omega) (by omega) (by omega) (by omega)]; exact c6 s hs
  · have m1 := m.c g1.ms
    obtain ⟨h1, h2, h3, h4, h5, h6⟩ := m1
    refine ⟨⟨hm, by rw [g2.1 49 (by omega)]; exact h1.2.1, by rw [g2.1 50 (by omega)]; exact h1.2.2.1, fun l hl => (h1.2.2.2 l hl).cg (g2.2 57 (by omega)) (g2.2 56 (by omega))⟩, fun z => ?_, ?_, fun i hi => ?_, fun i hi => ?_, fun s hs => ?_⟩
    · unfold IR
      rw [g2.1 18 (by omega), g2.1 19 (by omega), g2.1 20 (by omega), g2.2 58 (by omega), g2.2 59 (by omega), g2.2 60 (by omega)]
      exact h2 z
    · rw [g2.1 12 (by omega), g2.1 15 (by omega), g2.1 17 (by omega)]; exact h3
    · rw [g2.2 55 (by omega)]; exact h4 i hi
    · rw [g2.2 65 (by omega)]; exact h5 i hi
    · rw [g2.2 61 (by omega), g2.2 62 (by omega), g2.2 63 (by omega)]; exact h6 s hs
theorem AL.bk {α : Type} {K : yK} {p q : yM → Option (α × yM)} {M M1 M2 : yM} {b ib : Bk} {im : Bool} {tn ts : Nat} {tx : Nat → Tx} {tp so : Nat → Int32} {sz : Nat → Nat} {ce : Nat → Nat → Int32} {r : α} (h : IN K M b ib im tn ts tx tp so sz ce) {b' : Bk} (hI : IB b' ib im tn) (hB : BR M1 7 b') (hS : BS M1 7 b') (g1 : Fb M M1) (e1 : p M = some (r, M1)) (e2 : q M1 = some (r, M2)) (g2 : Ms M1 M2) (hm : MR M2 b') : AL K p q M := ⟨r, M1, M2, e1, e2, b', ib, im, tn, ts, tx, tp, so, sz, ce, h.bk hI hB hS g1 g2 hm⟩
theorem IN.qf {K : yK} {M M1 : yM} {b ib : Bk} {im : Bool} {tn ts : Nat} {tx : Nat → Tx} {tp so : Nat → Int32} {sz : Nat → Nat} {ce : Nat → Nat → Int32} (h : IN K M b ib im tn ts tx tp so sz ce) (g1 : Fb M M1) : QB tn tx b M1 := (h.2.2.c g1.ms).1
theorem q_count_cg {K : yK} {M M' : yM} (h : M' 50 = M 50) (x : Int32) : b_X8_count K M' 50 x = b_X8_count K M 50 x := by
  unfold b_X8_count
  rw [h]
theorem allE {e : Nat} (he : e ≤ 12) : (1 : Int32) <<< (nI e &&& 31) - 1 = nI (2 ^ e - 1) := by
  rcases (show e = 0 ∨ e = 1 ∨ e = 2 ∨ e = 3 ∨ e = 4 ∨ e = 5 ∨ e = 6 ∨ e = 7 ∨ e = 8 ∨ e = 9 ∨ e = 10 ∨ e = 11 ∨ e = 12 by omega) with rfl | rfl | rfl | rfl | rfl | rfl | rfl | rfl | rfl | rfl | rfl | rfl | rfl <;> decide
theorem pow_le {e : Nat} (he : e ≤ 12) : 1 ≤ 2 ^ e ∧ 2 ^ e ≤ 4096 := ⟨Nat.one_le_two_pow, by
  have := Nat.pow_le_pow_right (show 0 < 2 by decide) he
  exact this⟩
theorem p_all {K : yK} {M : yM} {b : Bk} (hK : KSh K) (h12 : bE b ≤ 12) (hB : BR M 7 b) : b_X0_allEntries K M 7 = some (nI (2 ^ bE b - 1)) := by
  unfold b_X0_allEntries
  rw [if_pos hK.o7, hB.1.1, allE h12]
theorem q_all {K : yK} {M : yM} {b : Bk} (hK : KSh K) (h12 : bE b ≤ 12) (hB : MR M b) : b_X8_all K M 50 = some (nI (2 ^ bE b - 1)) := by
  unfold b_X8_all
  rw [if_pos hK.mo, hB.1.1, allE h12]
/-- the bounds of set() -/
def loE (i : Nat) : Int32 := if i = 2 then -1 else 0
def hiE (b : Bk) (i : Nat) : Int32 := if i = 0 then nI (fsB b (bE b) - 1) else if i = 1 then 999 else if i = 2 then nI (bE b) - 1 else nI (2 ^ bE b - 1)
theorem p_most {K : yK} {M : yM} {b : Bk} {i : Nat} (hK : KSh K) (hW : WX b) (hB : BR M 7 b) (hS : BS M 7 b) (hi : i ≤ 3) : b_X7_mostToSet K M 0 (nI i) = some (hiE b i) := by
  have h12 := hW.1.1
  have hp := fs_lt hW (Nat.le_refl (bE b))
  unfold b_X7_mostToSet hiE
  rcases (show i = 0 ∨ i = 1 ∨ i = 2 ∨ i = 3 by omega) with rfl | rfl | rfl | rfl
  · rw [if_pos (show nI 0 = (0 : Int32) from rfl), if_pos rfl, if_pos hK.o0, hK.r00, Option.bind_some, if_pos hK.o7, p_pages hK iB7 hW.1 hB.1.1 (hS.1 _ (Nat.le_refl _)), Option.bind_some]
    congr 1
    rcases Nat.eq_zero_or_pos (fsB b (bE b)) with z | z
    · rw [z]; decide
    · have e : nI (fsB b (bE b)) - (1 : Int32) = nI (fsB b (bE b) - 1) := subN (b := 1) z
      rw [e, show (0 : Int32) = nI 0 from rfl, iteLt (by omega) (by omega)]
      by_cases y : 0 < fsB b (bE b) - 1
      · rw [if_pos y]
      · rw [if_neg y]; congr 1; omega
  · rfl
  · rw [if_neg (by decide), if_neg (by decide), if_pos (show nI 2 = (2 : Int32) from rfl), if_pos hK.o0, hK.r00, Option.bind_some, if_pos hK.o7, hB.1.1]; rfl
  · rw [if_neg (by decide), if_neg (by decide), if_neg (by decide), if_pos hK.o0, hK.r00, Option.bind_some, if_pos hK.o7, p_all hK h12 hB, Option.bind_some]; rfl
theorem q_isSo {K : yK} {M : yM} {b : Bk} {i : Nat} (hK : KSh K) (hW : WX b) (hB : MR M b) (hi : i ≤ 3) (v : Int32) : b_X8_isSo K M 50 (nI i) v = some (decide (loE i ≤ v ∧ v ≤ hiE b i)) := by
  have h12 := hW.1.1
  have hp := fs_lt hW (Nat.le_refl (bE b))
  unfold b_X8_isSo hiE loE
  rcases (show i = 0 ∨ i = 1 ∨ i = 2 ∨ i = 3 by omega) with rfl | rfl | rfl | rfl
  · rw [if_pos (show nI 0 = (0 : Int32) from rfl), if_pos rfl, if_neg (show ¬ (0 : Nat) = 2 by decide), if_pos hK.mo, q_pagesAll hK hW.1 hB.me, Option.bind_some]
    have e : b_X8_within K M (nI (fsB b (bE b)) - 1) 0 9999 = some (nI (fsB b (bE b) - 1)) := by
      rcases Nat.eq_zero_or_pos (fsB b (bE b)) with z | z
      · rw [z]; rfl
      · rw [show nI (fsB b (bE b)) - (1 : Int32) = nI (fsB b (bE b) - 1) from subN (b := 1) z]
        exact q_within ⟨ge0 (by omega), by rw [show (9999 : Int32) = nI 9999 from rfl, leN (by omega) (by omega)]; omega⟩
    rw [e, Option.bind_some, q_in, Option.bind_some]
  · rw [if_neg (by decide), if_pos (show nI 1 = (1 : Int32) from rfl), q_in, Option.bind_some]; rfl
  · rw [if_neg (by decide), if_neg (by decide), if_pos (show nI 2 = (2 : Int32) from rfl), if_pos hK.mo, q_in, Option.bind_some, hB.1.1]; rfl
  · rw [if_neg (by decide), if_neg (by decide), if_neg (by decide), if_pos hK.mo, q_all hK h12 hB, Option.bind_some, q_in, Option.bind_some]; rfl
theorem a_set {K : yK} {M : yM} {b ib : Bk} {im : Bool} {tn ts : Nat} {tx : Nat → Tx} {tp so : Nat → Int32} {sz : Nat → Nat} {ce : Nat → Nat → Int32} (h : IN K M b ib im tn ts tx tp so sz ce) (x1 x2 : Int32) : AL K (fun M => b_X7_set K M 0 x1 x2) (fun M => b_X8_set K M 50 x1 x2) M := by
  obtain ⟨hK, hW, hd, hl, hT, hx, hB, hS, hXs, hX⟩ := h.cls
  have h12 := hW.1.1
  have hp := fs_lt hW (Nat.le_refl (bE b))
  have hQ := h.2.2.1
  by_cases c1 : 0 ≤ x1 ∧ x1 ≤ 3
  · obtain ⟨i, hi, rfl⟩ := in_N (e := 3) (by decide) c1
    have ej : (if nI i = (2 : Int32) then (some (-1 : Int32)) else (some (0 : Int32))) = some (loE i) := by
      unfold loE
      rw [show (2 : Int32) = nI 2 from rfl, iteEq (by omega) (by omega)]
      by_cases z : i = 2
      · rw [if_pos z, if_pos z]
      · rw [if_neg z, if_neg z]
    by_cases c2 : loE i ≤ x2 ∧ x2 ≤ hiE b i
    · obtain ⟨r, r1, r2⟩ := a_count h (nI i + 2)
      have c3 : ¬ x2 < loE i := by have := c2.1; rw [i_le] at this; rw [i_lt]; omega
      have cl : ∀ f, (if nI i = (0 : Int32) then (Option.bind (K.2.2 0 0) fun q13 => (if gO K q13 0 = true then (Option.bind (some (yS M q13 10 x2)) fun M15 => (some (r, M15))) else none)) else (if nI i = (1 : Int32) then (Option.bind (K.2.2 0 0) fun q16 => (if gO K q16 0 = true then (Option.bind (some (yS M q16 11 x2)) fun M18 => (some (r, M18))) else none)) else (if nI i = (2 : Int32) then (Option.bind (K.2.2 0 0) fun q19 => (if gO K q19 0 = true then (Option.bind (some (yS M q19 12 x2)) fun M21 => (some (r, M21))) else none)) else (Option.bind (K.2.2 0 0) fun q22 => (if gO K q22 0 = true then (Option.bind (some (yS M q22 13 x2)) fun M24 => (some (r, M24))) else none))))) = some (r, f) → b_X7_set K M 0 (nI i) x2 = some (r, f) := by
        intro f hf
        unfold b_X7_set
        rw [if_neg (nI_pos (by omega)), if_pos c1.2, ej, Option.bind_some, if_neg c3, if_pos hK.o0, p_most hK hW hB hS hi, Option.bind_some, if_pos c2.2, r1, Option.bind_some]
        exact hf
      have ms4 : ∀ (N : yM) (a1 a2 a3 a4 : Int32), Ms N (yS (yS (yS (yS N 50 6 a1) 50 7 a2) 50 8 a3) 50 9 a4) := fun N a1 a2 a3 a4 => (((Ms.f (by decide)).tr (Ms.f (by decide))).tr (Ms.f (by decide))).tr (Ms.f (by decide))
      have fb : ∀ f v, Fb M (yS M 7 f v) := fun f v q z1 z2 z3 z4 => yS_q _ _ _ (by omega)
      have rf : ∀ f v, b_X8_count K (yS M 7 f v) 50 (nI i + 2) = some r := fun f v => by rw [q_count_cg (yS_q _ _ _ (by decide))]; exact r2
      obtain ⟨⟨b8, b9, b10, b11, b12, b13, b14, b15⟩, -, -⟩ := id hB
      have mr := fun f v => (h.qf (fb f v)).1
      unfold loE hiE at c2
      rcases (show i = 0 ∨ i = 1 ∨ i = 2 ∨ i = 3 by omega) with rfl | rfl | rfl | rfl
      · rw [if_neg (by decide), if_pos rfl] at c2
        obtain ⟨v, hv, rfl⟩ := in_N (by omega) c2
        have q1 := mr 10 (nI v)
        obtain ⟨⟨m0, m4, m6, m7, m8, m9, m10, m16⟩, -, -⟩ := id q1
        refine AL.bk (b' := pgB b v) (r := r) h (h.ib (pgB_W hW (by omega)) hd hl (Nat.le_refl _) (fun w _ => ⟨rfl, rfl⟩)) (M1 := yS M 7 10 (nI v)) (BR_f hB (fun q h1 h2 => yS_q _ _ _ (by omega)) ?_ ?_ ?_ ?_ ?_ ?_ ?_ ?_) (BS_f hS (yS_q _ _ _ (by omega)) (yS_q _ _ _ (by omega))) (fb 10 _) (cl _ ?_) (M2 := yS (yS (yS (yS (yS M 7 10 (nI v)) 50 6 (nI v)) 50 7 (nI (bDy b))) 50 8 (bBm b)) 50 9 (bSk b)) ?_ (ms4 _ _ _ _ _) ?_
        · rw [yS_oi _ _ _ _ (by decide)]
        · rw [yS_oi _ _ _ _ (by decide)]
        · rw [yS_at]
        · rw [yS_oi _ _ _ _ (by decide)]; exact b11
        · rw [yS_oi _ _ _ _ (by decide)]; exact b12
        · rw [yS_oi _ _ _ _ (by decide)]; exact b13
        · rw [yS_oi _ _ _ _ (by decide)]
        · rw [yS_oi _ _ _ _ (by decide)]; exact b15
        · rw [if_pos (show nI 0 = (0 : Int32) from rfl), hK.r00, Option.bind_some, if_pos hK.o7, Option.bind_some]
        · show b_X8_set K (yS M 7 10 (nI v)) 50 (nI 0) (nI v) = _
          unfold b_X8_set
          rw [q_in, Option.bind_some, ifd c1, if_pos hK.mo, q_isSo hK hW q1 (by omega), Option.bind_some, ifd (by unfold loE hiE; rw [if_neg (by decide), if_pos rfl]; exact c2), rf, Option.bind_some, if_pos (show nI 0 = (0 : Int32) from rfl), Option.bind_some, Option.bind_some, if_neg (by decide), Option.bind_some, Option.bind_some, if_neg (by decide), Option.bind_some, Option.bind_some, if_neg (by decide), Option.bind_some, Option.bind_some]
          rw [yS_oi _ _ _ _ (show (7 : Nat) ≠ 6 by decide), yS_oi _ _ _ _ (show (8 : Nat) ≠ 7 by decide), yS_oi _ _ _ _ (show (8 : Nat) ≠ 6 by decide), yS_oi _ _ _ _ (show (9 : Nat) ≠ 8 by decide), yS_oi _ _ _ _ (show (9 : Nat) ≠ 7 by decide), yS_oi _ _ _ _ (show (9 : Nat) ≠ 6 by decide), m7, m8, m9]
        · exact MR_f q1 (fun q h1 h2 => by rw [yS_q _ _ _ (by omega), yS_q _ _ _ (by omega), yS_q _ _ _ (by omega), yS_q _ _ _ (by omega)]) (by simp [yS]) (by simp [yS]) (by simp [yS]) (by simp [yS]) (by simp [yS]) (by simp [yS]) (by simp [yS]) (by simp [yS]; simpa [yS] using m16)
      · rw [if_neg (by decide), if_neg (by decide), if_pos rfl] at c2
        obtain ⟨v, hv, rfl⟩ := in_N (e := 999) (by decide) c2
        have q1 := mr 11 (nI v)
        obtain ⟨⟨m0, m4, m6, m7, m8, m9, m10, m16⟩, -, -⟩ := id q1
        refine AL.bk (b' := ddB b v) (r := r) h (h.ib (ddB_W hW (by omega)) hv hl (Nat.le_refl _) (fun w _ => ⟨rfl, rfl⟩)) (M1 := yS M 7 11 (nI v)) (BR_f hB (fun q h1 h2 => yS_q _ _ _ (by omega)) ?_ ?_ ?_ ?_ ?_ ?_ ?_ ?_) (BS_f hS (yS_q _ _ _ (by omega)) (yS_q _ _ _ (by omega))) (fb 11 _) (cl _ ?_) (M2 := yS (yS (yS (yS (yS M 7 11 (nI v)) 50 6 (nI (bPg b))) 50 7 (nI v)) 50 8 (bBm b)) 50 9 (bSk b)) ?_ (ms4 _ _ _ _ _) ?_
        · rw [yS_oi _ _ _ _ (by decide)]
        · rw [yS_oi _ _ _ _ (by decide)]
        · rw [yS_oi _ _ _ _ (by decide)]; exact b10
        · rw [yS_at]
        · rw [yS_oi _ _ _ _ (by decide)]; exact b12
        · rw [yS_oi _ _ _ _ (by decide)]; exact b13
        · rw [yS_oi _ _ _ _ (by decide)]
        · rw [yS_oi _ _ _ _ (by decide)]; exact b15
        · rw [if_neg (by decide), if_pos (show nI 1 = (1 : Int32) from rfl), hK.r00, Option.bind_some, if_pos hK.o7, Option.bind_some]
        · show b_X8_set K (yS M 7 11 (nI v)) 50 (nI 1) (nI v) = _
          unfold b_X8_set
          rw [q_in, Option.bind_some, ifd c1, if_pos hK.mo, q_isSo hK hW q1 (by omega), Option.bind_some, ifd (by unfold loE hiE; rw [if_neg (by decide), if_neg (by decide), if_pos rfl]; exact c2), rf, Option.bind_some, if_neg (by decide), Option.bind_some, Option.bind_some, if_pos (show nI 1 = (1 : Int32) from rfl), Option.bind_some, Option.bind_some, if_neg (by decide), Option.bind_some, Option.bind_some, if_neg (by decide), Option.bind_some, Option.bind_some]
          rw [yS_oi _ _ _ _ (show (8 : Nat) ≠ 7 by decide), yS_oi _ _ _ _ (show (8 : Nat) ≠ 6 by decide), yS_oi _ _ _ _ (show (9 : Nat) ≠ 8 by decide), yS_oi _ _ _ _ (show (9 : Nat) ≠ 7 by decide), yS_oi _ _ _ _ (show (9 : Nat) ≠ 6 by decide), m6, m8, m9]
        · exact MR_f q1 (fun q h1 h2 => by rw [yS_q _ _ _ (by omega), yS_q _ _ _ (by omega), yS_q _ _ _ (by omega), yS_q _ _ _ (by omega)]) (by simp [yS]) (by simp [yS]) (by simp [yS]) (by simp [yS]) (by simp [yS]) (by simp [yS]) (by simp [yS]) (by simp [yS]; simpa [yS] using m16)
      · rw [if_pos rfl, if_neg (by decide), if_neg (by decide), if_pos rfl] at c2
        have hv : x2 = -1 ∨ ∃ j, j < bE b ∧ x2 = nI j := by
          by_cases z : x2 < 0
          · left
            have := c2.1
            rw [i_le, i_m1] at this
            rw [i_lt, i_0] at z
            rw [i_eq, i_m1]
            omega
          · obtain ⟨j, hj, rfl⟩ := nI_of z
            right
            have := c2.2
            rw [i_le, show (nI (bE b) - (1 : Int32)) = nI (bE b) - nI 1 from rfl, subI (by omega) (by omega), nJ hj] at this
            exact ⟨j, by omega, rfl⟩
        have q1 := mr 12 x2
        obtain ⟨⟨m0, m4, m6, m7, m8, m9, m10, m16⟩, -, -⟩ := id q1
        refine AL.bk (b' := mkB b x2) (r := r) h (h.ib (mkB_W hW hv) hd hl (Nat.le_refl _) (fun w _ => ⟨rfl, rfl⟩)) (M1 := yS M 7 12 x2) (BR_f hB (fun q h1 h2 => yS_q _ _ _ (by omega)) ?_ ?_ ?_ ?_ ?_ ?_ ?_ ?_) (BS_f hS (yS_q _ _ _ (by omega)) (yS_q _ _ _ (by omega))) (fb 12 _) (cl _ ?_) (M2 := yS (yS (yS (yS (yS M 7 12 x2) 50 6 (nI (bPg b))) 50 7 (nI (bDy b))) 50 8 x2) 50 9 (bSk b)) ?_ (ms4 _ _ _ _ _) ?_
        · rw [yS_oi _ _ _ _ (by decide)]
        · rw [yS_oi _ _ _ _ (by decide)]
        · rw [yS_oi _ _ _ _ (by decide)]; exact b10
        · rw [yS_oi _ _ _ _ (by decide)]; exact b11
        · rw [yS_at]
        · rw [yS_oi _ _ _ _ (by decide)]; exact b13
        · rw [yS_oi _ _ _ _ (by decide)]
        · rw [yS_oi _ _ _ _ (by decide)]; exact b15
        · rw [if_neg (by decide), if_neg (by decide), if_pos (show nI 2 = (2 : Int32) from rfl), hK.r00, Option.bind_some, if_pos hK.o7, Option.bind_some]
        · show b_X8_set K (yS M 7 12 x2) 50 (nI 2) x2 = _
          unfold b_X8_set
          rw [q_in, Option.bind_some, ifd c1, if_pos hK.mo, q_isSo hK hW q1 (by omega), Option.bind_some, ifd (by unfold loE hiE; rw [if_pos rfl, if_neg (by decide), if_neg (by decide), if_pos rfl]; exact c2), rf, Option.bind_some, if_neg (by decide), Option.bind_some, Option.bind_some, if_neg (by decide), Option.bind_some, Option.bind_some, if_pos (show nI 2 = (2 : Int32) from rfl), Option.bind_some, Option.bind_some, if_neg (by decide), Option.bind_some, Option.bind_some]
          rw [yS_oi _ _ _ _ (show (7 : Nat) ≠ 6 by decide), yS_oi _ _ _ _ (show (9 : Nat) ≠ 8 by decide), yS_oi _ _ _ _ (show (9 : Nat) ≠ 7 by decide), yS_oi _ _ _ _ (show (9 : Nat) ≠ 6 by decide), m6, m7, m9]
        · exact MR_f q1 (fun q h1 h2 => by rw [yS_q _ _ _ (by omega), yS_q _ _ _ (by omega), yS_q _ _ _ (by omega), yS_q _ _ _ (by omega)]) (by simp [yS]) (by simp [yS]) (by simp [yS]) (by simp [yS]) (by simp [yS]) (by simp [yS]) (by simp [yS]) (by simp [yS]; simpa [yS] using m16)
      · rw [if_neg (by decide), if_neg (by decide), if_neg (by decide), if_neg (by decide)] at c2
        have hpw := pow_le h12
        obtain ⟨v, hv, rfl⟩ := in_N (by omega) c2
        have q1 := mr 13 (nI v)
        obtain ⟨⟨m0, m4, m6, m7, m8, m9, m10, m16⟩, -, -⟩ := id q1
        refine AL.bk (b' := skB b (nI v)) (r := r) h (h.ib (skB_W hW (nI_bB (by omega) (by omega))) hd hl (Nat.le_refl _) (fun w _ => ⟨rfl, rfl⟩)) (M1 := yS M 7 13 (nI v)) (BR_f hB (fun q h1 h2 => yS_q _ _ _ (by omega)) ?_ ?_ ?_ ?_ ?_ ?_ ?_ ?_) (BS_f hS (yS_q _ _ _ (by omega)) (yS_q _ _ _ (by omega))) (fb 13 _) (cl _ ?_) (M2 := yS (yS (yS (yS (yS M 7 13 (nI v)) 50 6 (nI (bPg b))) 50 7 (nI (bDy b))) 50 8 (bBm b)) 50 9 (nI v)) ?_ (ms4 _ _ _ _ _) ?_
        · rw [yS_oi _ _ _ _ (by decide)]
        · rw [yS_oi _ _ _ _ (by decide)]
        · rw [yS_oi _ _ _ _ (by decide)]; exact b10
        · rw [yS_oi _ _ _ _ (by decide)]; exact b11
        · rw [yS_oi _ _ _ _ (by decide)]; exact b12
        · rw [yS_at]
        · rw [yS_oi _ _ _ _ (by decide)]
        · rw [yS_oi _ _ _ _ (by decide)]; exact b15
        · rw [if_neg (by decide), if_neg (by decide), if_neg (by decide), hK.r00, Option.bind_some, if_pos hK.o7, Option.bind_some]
        · show b_X8_set K (yS M 7 13 (nI v)) 50 (nI 3) (nI v) = _
          unfold b_X8_set
          rw [q_in, Option.bind_some, ifd c1, if_pos hK.mo, q_isSo hK hW q1 (by omega), Option.bind_some, ifd (by unfold loE hiE; rw [if_neg (by decide), if_neg (by decide), if_neg (by decide), if_neg (by decide)]; exact c2), rf, Option.bind_some, if_neg (by decide), Option.bind_some, Option.bind_some, if_neg (by decide), Option.bind_some, Option.bind_some, if_neg (by decide), Option.bind_some, Option.bind_some, if_pos (show nI 3 = (3 : Int32) from rfl), Option.bind_some, Option.bind_some]
          rw [yS_oi _ _ _ _ (show (7 : Nat) ≠ 6 by decide), yS_oi _ _ _ _ (show (8 : Nat) ≠ 7 by decide), yS_oi _ _ _ _ (show (8 : Nat) ≠ 6 by decide), m6, m7, m8]
        · exact MR_f q1 (fun q h1 h2 => by rw [yS_q _ _ _ (by omega), yS_q _ _ _ (by omega), yS_q _ _ _ (by omega), yS_q _ _ _ (by omega)]) (by simp [yS]) (by simp [yS]) (by simp [yS]) (by simp [yS]) (by simp [yS]) (by simp [yS]) (by simp [yS]) (by simp [yS]; simpa [yS] using m16)
    · refine AL.no (r := -7) h ?_ ?_
      · show b_X7_set K M 0 (nI i) x2 = _
        unfold b_X7_set
        rw [if_neg (nI_pos (by omega)), if_pos c1.2, ej, Option.bind_some]
        by_cases z : x2 < loE i
        · rw [if_pos z]
        · rw [if_neg z, if_pos hK.o0, p_most hK hW hB hS hi, Option.bind_some, if_neg (fun y => c2 ⟨by rw [i_lt] at z; rw [i_le]; omega, y⟩)]
      · show b_X8_set K M 50 (nI i) x2 = _
        unfold b_X8_set
        rw [q_in, Option.bind_some, ifd c1, if_pos hK.mo, q_isSo hK hW hQ.1 hi, Option.bind_some, ifn c2]
  · refine AL.no (r := -5) h ?_ ?_
    · show b_X7_set K M 0 x1 x2 = _
      unfold b_X7_set
      by_cases z : x1 < 0
      · rw [if_pos z]
      · rw [if_neg z, if_neg (fun y => c1 ⟨by rw [i_lt] at z; rw [i_le]; omega, y⟩)]
    · show b_X8_set K M 50 x1 x2 = _
      unfold b_X8_set
      rw [q_in, Option.bind_some, ifn c1]
