/-! the model: days in thought -/
def Fl (M M' : yM) : Prop := (∀ i, i ≠ 6 → i ≠ 7 → i ≠ 8 → i ≠ 10 → i ≠ 39 → (i < 42 ∨ i = 46 ∨ 48 < i) → M' 50 i = M 50 i) ∧ ∀ q, q ≠ 50 → q ≠ 53 → q ≠ 67 → q ≠ 68 → M' q = M q
theorem Fl.rf (M : yM) : Fl M M := ⟨fun _ _ _ _ _ _ _ => rfl, fun _ _ _ _ _ => rfl⟩
theorem Fl.tr {M M' M'' : yM} (h : Fl M M') (g : Fl M' M'') : Fl M M'' := ⟨fun i z1 z2 z3 z4 z5 z6 => (g.1 i z1 z2 z3 z4 z5 z6).trans (h.1 i z1 z2 z3 z4 z5 z6), fun q z1 z2 z3 z4 => (g.2 q z1 z2 z3 z4).trans (h.2 q z1 z2 z3 z4)⟩
theorem Fl.mt {M M' : yM} {k : Nat} {x : Tx} (h : Fl M M') (hX : MT M k x) : MT M' k x := hX.cg (h.2 57 (by decide) (by decide) (by decide) (by decide)) (h.2 56 (by decide) (by decide) (by decide) (by decide))
/-- what the model changes when it thinks -/
def Fm (M M' : yM) : Prop := (∀ i, i ≠ 39 → (i < 42 ∨ 48 < i) → M' 50 i = M 50 i) ∧ ∀ q, q ≠ 50 → q ≠ 53 → q ≠ 67 → q ≠ 68 → q ≠ 69 → q ≠ 70 → M' q = M q
theorem Fm.rf (M : yM) : Fm M M := ⟨fun _ _ _ => rfl, fun _ _ _ _ _ _ _ => rfl⟩
theorem Fm.tr {M M' M'' : yM} (h : Fm M M') (g : Fm M' M'') : Fm M M'' := ⟨fun i z1 z2 => (g.1 i z1 z2).trans (h.1 i z1 z2), fun q z1 z2 z3 z4 z5 z6 => (g.2 q z1 z2 z3 z4 z5 z6).trans (h.2 q z1 z2 z3 z4 z5 z6)⟩
theorem Fm.mt {M M' : yM} {k : Nat} {x : Tx} (h : Fm M M') (hX : MT M k x) : MT M' k x := hX.cg (h.2 57 (by decide) (by decide) (by decide) (by decide) (by decide) (by decide)) (h.2 56 (by decide) (by decide) (by decide) (by decide) (by decide) (by decide))
theorem MR.pg {M : yM} {b : Bk} {p : Nat} (h : MR M b) : MR (yS M 50 6 (nI p)) (pgB b p) := by
  obtain ⟨⟨b0, b4, b6, b7, b8, b9, b10, b16⟩, bv, bd⟩ := h
  refine MR_mk ?_ ?_ ?_ ?_ ?_ ?_ ?_ ?_ (fun w hw => ?_) (fun d hd => ?_)
  · rw [yS_oi _ _ _ _ (by decide)]; exact b0
  · rw [yS_oi _ _ _ _ (by decide)]; exact b4
  · rw [yS_at]
  · rw [yS_oi _ _ _ _ (by decide)]; exact b7
  · rw [yS_oi _ _ _ _ (by decide)]; exact b8
  · rw [yS_oi _ _ _ _ (by decide)]; exact b9
  · rw [yS_oi _ _ _ _ (by decide)]; exact b10
  · rw [yS_oi _ _ _ _ (by decide)]; exact b16
  · rw [yS_op _ _ _ _ (by decide), yS_op _ _ _ _ (by decide), yS_op _ _ _ _ (by decide), yS_op _ _ _ _ (by decide), yS_op _ _ _ _ (by decide)]; exact bv w hw
  · rw [yS_op _ _ _ _ (by decide)]; exact bd d hd
theorem pgB_e (b : Bk) : pgB b (bPg b) = b := rfl
/-- what is kept -/
def Kp (M : yM) (b : Bk) : Prop := (∀ w, w < bE b → M 69 w = bR b w) ∧ M 70 0 = nI (bPg b) ∧ M 70 1 = nI (bDy b) ∧ M 70 2 = bBm b ∧ M 70 3 = bCa b
theorem Kp.cg {M M' : yM} {b : Bk} (h : Kp M b) (h1 : M' 69 = M 69) (h2 : M' 70 = M 70) : Kp M' b := by
  unfold Kp
  rw [h1, h2]
  exact h
theorem q_kept {K : yK} {M : yM} {b : Bk} (hK : KSh K) (h12 : bE b ≤ 12) (hB : MR M b) : ∃ M', b_X8_keeps K M 50 = some M' ∧ MR M' b ∧ Kp M' b ∧ (M' 50 42 = 0 ∧ M' 50 43 = 0 ∧ M' 50 44 = 0 ∧ M' 50 45 = 0 ∧ M' 50 47 = -1 ∧ M' 50 48 = -1) ∧ (∀ i, i < 42 ∨ 48 < i → M' 50 i = M 50 i) ∧ ∀ q, q ≠ 50 → q ≠ 69 → q ≠ 70 → M' q = M q := by
  obtain ⟨M', a1, a2, ⟨a3, a4, a5, a6⟩, a7, a8, a9⟩ := q_keeps (M := M) hK
  obtain ⟨⟨b0, b4, b6, b7, b8, b9, b10, b16⟩, bv, bd⟩ := id hB
  refine ⟨M', a1, hB.cgi (fun i hi => a8 i (by omega)) (fun q h1 h2 => a9 q (by omega) (by omega) (by omega)), ⟨fun w hw => ?_, a3.trans b6, a4.trans b7, a5.trans b8, a6.trans b10⟩, a7, fun i hi => a8 i (by omega), a9⟩
  rw [a2 w (by omega)]
  exact (bv w hw).2.2.2.2
theorem q_laid {K : yK} {M : yM} {b c : Bk} (hK : KSh K) (h12 : bE b ≤ 12) (hB : MR M c) (hs : SB b c) (hk : Kp M b) : ∃ M', b_X8_laysBack K M 50 = some M' ∧ MR M' b ∧ M' 50 46 = nI (bPg c) ∧ (∀ i, i ≠ 6 → i ≠ 7 → i ≠ 8 → i ≠ 10 → i ≠ 46 → M' 50 i = M 50 i) ∧ ∀ q, q ≠ 50 → q ≠ 53 → M' q = M q := by
  obtain ⟨M', a1, a2, a3, ⟨a4, a5, a6, a7, a8⟩, a9, a10⟩ := q_laysBack (M := M) hK
  obtain ⟨⟨b0, b4, b6, b7, b8, b9, b10, b16⟩, bv, bd⟩ := id hB
  obtain ⟨k1, k2, k3, k4, k5⟩ := hk
  obtain ⟨s1, s2, s3, s4, s5, s6, s7, s8, s9⟩ := hs
  refine ⟨M', a1, ⟨⟨?_, ?_, a4.trans k2, a5.trans k3, a6.trans k4, ?_, a7.trans k5, ?_⟩, fun w hw => ?_, fun d hd => ?_⟩, a8.trans b6, a9, a10⟩
  · rw [a9 0 (by decide) (by decide) (by decide) (by decide) (by decide), b0, s1]
  · rw [a9 4 (by decide) (by decide) (by decide) (by decide) (by decide), b4, s6]
  · rw [a9 9 (by decide) (by decide) (by decide) (by decide) (by decide), b9, s8]
  · rw [a9 16 (by decide) (by decide) (by decide) (by decide) (by decide), b16, s9]
  · obtain ⟨e1, e2, e3, e4, -⟩ := bv w (by rw [s1]; exact hw)
    rw [a10 51 (by decide) (by decide), a10 52 (by decide) (by decide), a3 (3 * w) (fun v => by omega), a3 (3 * w + 1) (fun v => by omega), a2 w (by omega), e1, e2, e3, e4, s2, s3, s4, s5, k1 w hw]
    exact ⟨rfl, rfl, rfl, rfl, rfl⟩
  · rw [a10 54 (by decide) (by decide), bd d (by rw [s6]; exact hd), s7]
def QS (x : Tx) (T : Nat → Bool) (b : Bk) (i : Nat) (u v : Int32) (M : yM) : Prop := MR M (dI x T b i).1 ∧ (M 50 42 = wS x T b i ∧ M 50 43 = cS x T b i ∧ M 50 44 = hS x T b i ∧ M 50 45 = aS x T b i ∧ M 50 47 = fS x T b u (hdB x) i ∧ M 50 48 = fS x T b v (heB x) i) ∧ (0 < i → fsB b (bE b) ≠ 0 → M 50 39 = nI (dI x T b i).2) ∧ (M 50 49 = u ∧ M 50 50 = v) ∧ MT M (bLw b) x
theorem q_step {K : yK} {M Mt : yM} {x : Tx} {T : Nat → Bool} {b : Bk} {i : Nat} {u v : Int32} (hK : KSh K) (hW : WX b) (hx : TxW x) (hd : bDy b + i + 1 < 2000) (hu : u = -1 ∨ ∃ j, j < 6 ∧ u = nI j) (hv : v = -1 ∨ ∃ j, j < 12 ∧ v = nI j) (hQ : QS x T b i u v M) (hT : MR Mt (tnB (T i) (dI x T b i))) (h6 : ∀ j, j ≠ 6 → Mt 50 j = M 50 j) (h7 : ∀ q, q ≠ 50 → Mt q = M q) :
    ∃ M', b_X8_lives K Mt 50 (nI i) = some M' ∧ QS x T b (i + 1) u v M' ∧ Fl M M' := by
  obtain ⟨q1, ⟨q2, q3, q4, q5, q6, q7⟩, q8, ⟨q9, q10⟩, q11⟩ := hQ
  have wi := dI_W (x := x) (T := T) hW i (by omega)
  have wt := tnB_W (T := T i) wi.1 wi.2
  have hsb : SB b (tnB (T i) (dI x T b i)) := (dI_S x T b i).tr (tnB_S _ _)
  obtain ⟨M', a1, a2, a3, a4, a5, a6, a7, a8, a9, a10, a11⟩ := q_lives (b := tnB (T i) (dI x T b i)) (x := x) (nI i) hK wt (by rw [tnB_D, dI_D]; omega) hT (by rw [hsb.2.2.2.2.2.2.2.2]; exact q11.cg (h7 57 (by decide)) (h7 56 (by decide))) hx (by rw [h6 49 (by decide), q9]; exact hu) (by rw [h6 50 (by decide), q10]; exact hv) (dyB_S _ _).2.2.2.2.2.2.2.2
  have hf : Fl M M' := ⟨fun j z1 z2 z3 z4 z5 z6 => by rw [a10 j z1 z2 z3 z4 z5 z6, h6 j z1], fun q z1 z2 z3 z4 => by rw [a11 q z1 z2 z3 z4, h7 q z1]⟩
  refine ⟨M', a1, ⟨a2, ⟨?_, ?_, ?_, ?_, ?_, ?_⟩, fun _ hf0 => ?_, ⟨?_, ?_⟩, hf.mt q11⟩, hf⟩
  · rw [a3, h6 42 (by decide), q2]; rfl
  · rw [a4, h6 43 (by decide), q3]; rfl
  · rw [a5, h6 44 (by decide), q4]; rfl
  · rw [a6, h6 45 (by decide), q5]; rfl
  · rw [a7, h6 47 (by decide), h6 49 (by decide), q6, q9]; rfl
  · rw [a8, h6 48 (by decide), h6 50 (by decide), q7, q10]; rfl
  · rw [a9, if_neg (by rw [hsb.fe]; exact hf0)]
    show _ = nI (bgB (tnB (T i) (dI x T b i)))
    unfold bgB
    rw [if_neg (by rw [hsb.fe]; exact hf0)]
  · rw [hf.1 49 (by decide) (by decide) (by decide) (by decide) (by decide) (by omega)]; exact q9
  · rw [hf.1 50 (by decide) (by decide) (by decide) (by decide) (by decide) (by omega)]; exact q10
theorem q_goes_loop {K : yK} {x : Tx} {b : Bk} {m : Nat} {u v : Int32} (hK : KSh K) (hW : WX b) (hx : TxW x) (hm : m ≤ 60) (hd : bDy b ≤ 999) (hu : u = -1 ∨ ∃ j, j < 6 ∧ u = nI j) (hv : v = -1 ∨ ∃ j, j < 12 ∧ v = nI j) : ∀ (f n i : Nat) (M : yM), i + f = m → f < n → QS x noT b i u v M →
    ∃ M', b_X8_goes_6 K 50 (nI m) n M (nI i) = some M' ∧ QS x noT b m u v M' ∧ Fl M M' := by
  intro f
  induction f with
  | zero =>
    intro n i M hi hn hQ
    obtain ⟨n, rfl⟩ : ∃ k, n = k + 1 := ⟨n - 1, by omega⟩
    obtain rfl : i = m := by omega
    refine ⟨M, ?_, hQ, Fl.rf _⟩
    rw [b_X8_goes_6, iteLe (by omega) (by omega), if_pos (by omega)]
  | succ f ih =>
    intro n i M hi hn hQ
    obtain ⟨n, rfl⟩ : ∃ k, n = k + 1 := ⟨n - 1, by omega⟩
    obtain ⟨M1, a1, a2, a3⟩ := q_step (T := noT) (i := i) (Mt := M) hK hW hx (by omega) hu hv hQ hQ.1 (fun _ _ => rfl) (fun _ _ => rfl)
    obtain ⟨M', c1, c2, c3⟩ := ih n (i + 1) M1 (by omega) (by omega) a2
    refine ⟨M', ?_, c2, a3.tr c3⟩
    rw [b_X8_goes_6, iteLe (by omega) (by omega), if_neg (by omega), if_pos hK.mo, a1, Option.bind_some, incN, Option.bind_some]
    exact c1
theorem q_lots_loop {K : yK} {x : Tx} {b : Bk} {m : Nat} {u v seed odds : Int32} (hK : KSh K) (hW : WX b) (hx : TxW x) (hm : m ≤ 60) (hd : bDy b ≤ 999) (hu : u = -1 ∨ ∃ j, j < 6 ∧ u = nI j) (hv : v = -1 ∨ ∃ j, j < 12 ∧ v = nI j) : ∀ (f n i : Nat) (M : yM), i + f = m → f < n → QS x (lotT seed odds) b i u v M →
    ∃ M', b_X8_goesByLots_13 K 50 (nI m) odds n M (lotI seed i) (nI i) = some M' ∧ QS x (lotT seed odds) b m u v M' ∧ Fl M M' := by
  intro f
  induction f with
  | zero =>
    intro n i M hi hn hQ
    obtain ⟨n, rfl⟩ : ∃ k, n = k + 1 := ⟨n - 1, by omega⟩
    obtain rfl : i = m := by omega
    refine ⟨M, ?_, hQ, Fl.rf _⟩
    rw [b_X8_goesByLots_13, iteLe (by omega) (by omega), if_pos (by omega)]
  | succ f ih =>
    intro n i M hi hn hQ
    obtain ⟨n, rfl⟩ : ∃ k, n = k + 1 := ⟨n - 1, by omega⟩
    have h12 := hW.1.1
    have q1 := hQ.1
    have s1 := dI_S x (lotT seed odds) b i
    have hl : (lotI seed i * (48271 : Int64)) - (lotI seed i * (48271 : Int64)) / (2147483647 : Int64) * (2147483647 : Int64) = lotI seed (i + 1) := rfl
    have ej : ∀ (C : Prop) [Decidable C] (hT : lotT seed odds i = decide (i ≠ 0 ∧ ¬ C)), (if C then (if gO K 50 7 = true then (some (M 50 6)) else none) else (if nI i ≤ 0 then (if gO K 50 7 = true then (some (M 50 6)) else none) else (if gO K 50 7 = true then (if (M 50 0) ≤ 0 then (some (M 50 6)) else (some (M 50 39))) else none))) = some (nI (bPg (tnB (lotT seed odds i) (dI x (lotT seed odds) b i)))) := by
      intro C _ hT
      rw [if_pos hK.mo, if_pos hK.mo, q1.1.2.2.1, q1.1.1, s1.1, show (0 : Int32) = nI 0 from rfl, iteLe (by omega) (by omega), iteLe (by omega) (by omega)]
      by_cases z : C
      · rw [if_pos z, hT, decide_eq_false (fun h => h.2 z)]; rfl
      · rw [if_neg z]
        by_cases z2 : i ≤ 0
        · rw [if_pos z2, hT, decide_eq_false (fun h => h.1 (by omega))]; rfl
        · rw [if_neg z2, hT, decide_eq_true ⟨by omega, z⟩]
          by_cases z3 : bE b ≤ 0
          · rw [if_pos z3]
            have hf0 : fsB b (bE b) = 0 := by rw [show bE b = 0 by omega]; rfl
            show _ = some (nI (dI x (lotT seed odds) b i).2)
            rw [dI_p0 hf0 i]
          · rw [if_neg z3]
            have hf0 := (fsB_le hW.1 (bE b) (Nat.le_refl _)).1
            rw [hQ.2.2.1 (by omega) (by omega)]
            rfl
    have hMt : MR (yS M 50 6 (nI (bPg (tnB (lotT seed odds i) (dI x (lotT seed odds) b i))))) (tnB (lotT seed odds i) (dI x (lotT seed odds) b i)) := by
      cases lotT seed odds i
      · exact q1.pg
      · exact q1.pg
    obtain ⟨M1, a1, a2, a3⟩ := q_step (T := lotT seed odds) (i := i) hK hW hx (by omega) hu hv hQ hMt (fun j z => yS_oi _ _ _ _ z) (fun q z => funext fun j => yS_op _ _ _ _ z j)
    obtain ⟨M', c1, c2, c3⟩ := ih n (i + 1) M1 (by omega) (by omega) a2
    refine ⟨M', ?_, c2, a3.tr c3⟩
    rw [b_X8_goesByLots_13, iteLe (by omega) (by omega), if_neg (by omega), hl, Option.bind_some, ej _ rfl, Option.bind_some, if_pos hK.mo, Option.bind_some, a1, Option.bind_some, incN, Option.bind_some]
    exact c1
/-- what stands behind a walk in thought -/
def GO (x : Tx) (T : Nat → Bool) (b : Bk) (m : Nat) (u v : Int32) (M M' : yM) : Prop := MR M' b ∧ (M' 50 42 = wS x T b m ∧ M' 50 43 = cS x T b m ∧ M' 50 44 = hS x T b m ∧ M' 50 45 = aS x T b m ∧ M' 50 46 = nI (bPg (dI x T b m).1) ∧ M' 50 47 = fS x T b u (hdB x) m ∧ M' 50 48 = fS x T b v (heB x) m) ∧ Fm M M'
theorem q_walk {K : yK} {M : yM} {x : Tx} {T : Nat → Bool} {b : Bk} {m : Nat} {u v : Int32} (hK : KSh K) (hW : WX b) (hB : MR M b) (hX : MT M (bLw b) x) (h49 : M 50 49 = u) (h50 : M 50 50 = v) (g : yM → Option yM) (hg : ∀ M1, QS x T b 0 u v M1 → ∃ M2, g M1 = some M2 ∧ QS x T b m u v M2 ∧ Fl M1 M2) :
    ∃ M1 M2 M', b_X8_keeps K M 50 = some M1 ∧ g M1 = some M2 ∧ b_X8_laysBack K M2 50 = some M' ∧ GO x T b m u v M M' := by
  have h12 := hW.1.1
  obtain ⟨M1, a1, a2, a3, ⟨a4, a5, a6, a7, a8, a9⟩, a10, a11⟩ := q_kept hK h12 hB
  obtain ⟨M2, c1, ⟨c2, ⟨c3, c4, c5, c6, c7, c8⟩, -, -, -⟩, c9⟩ := hg M1 ⟨a2, ⟨a4, a5, a6, a7, a8, a9⟩, fun h => absurd h (Nat.lt_irrefl _), ⟨by rw [a10 49 (by omega)]; exact h49, by rw [a10 50 (by omega)]; exact h50⟩, hX.cg (a11 57 (by decide) (by decide) (by decide)) (a11 56 (by decide) (by decide) (by decide))⟩
  obtain ⟨M', d1, d2, d3, d4, d5⟩ := q_laid hK h12 c2 (dI_S x T b m) (a3.cg (c9.2 69 (by decide) (by decide) (by decide) (by decide)) (c9.2 70 (by decide) (by decide) (by decide) (by decide)))
  obtain ⟨⟨e0, e4, e6, e7, e8, e9, e10, e16⟩, -, -⟩ := id d2
  obtain ⟨⟨f0, f4, f6, f7, f8, f9, f10, f16⟩, -, -⟩ := id hB
  refine ⟨M1, M2, M', a1, c1, d1, d2, ⟨?_, ?_, ?_, ?_, d3, ?_, ?_⟩, fun i z1 z2 => ?_, fun q z1 z2 z3 z4 z5 z6 => ?_⟩
  · rw [d4 42 (by decide) (by decide) (by decide) (by decide) (by decide)]; exact c3
  · rw [d4 43 (by decide) (by decide) (by decide) (by decide) (by decide)]; exact c4
  · rw [d4 44 (by decide) (by decide) (by decide) (by decide) (by decide)]; exact c5
  · rw [d4 45 (by decide) (by decide) (by decide) (by decide) (by decide)]; exact c6
  · rw [d4 47 (by decide) (by decide) (by decide) (by decide) (by decide)]; exact c7
  · rw [d4 48 (by decide) (by decide) (by decide) (by decide) (by decide)]; exact c8
  · by_cases z6 : i = 6
    · rw [z6, e6, f6]
    · by_cases z7 : i = 7
      · rw [z7, e7, f7]
      · by_cases z8 : i = 8
        · rw [z8, e8, f8]
        · by_cases z10 : i = 10
          · rw [z10, e10, f10]
          · rw [d4 i z6 z7 z8 z10 (by omega), c9.1 i z6 z7 z8 z10 z1 (by omega), a10 i (by omega)]
  · rw [d5 q z1 z2, c9.2 q z1 z2 z3 z4, a11 q z1 z5 z6]
theorem q_goes {K : yK} {M : yM} {x : Tx} {b : Bk} {m : Nat} {u v : Int32} (hK : KSh K) (hW : WX b) (hx : TxW x) (hm : m ≤ 60) (hd : bDy b ≤ 999) (hu : u = -1 ∨ ∃ j, j < 6 ∧ u = nI j) (hv : v = -1 ∨ ∃ j, j < 12 ∧ v = nI j) (hB : MR M b) (hX : MT M (bLw b) x) (h49 : M 50 49 = u) (h50 : M 50 50 = v) :
    ∃ M', b_X8_goes K M 50 (nI m) = some (wS x noT b m, M') ∧ GO x noT b m u v M M' := by
  obtain ⟨M1, M2, M', a1, a2, a3, a4⟩ := q_walk (T := noT) (m := m) hK hW hB hX h49 h50 (fun M1 => b_X8_goes_6 K 50 (nI m) 1000 M1 (nI 0)) (fun M1 hq => q_goes_loop hK hW hx hm hd hu hv m 1000 0 M1 (by omega) (by omega) hq)
  refine ⟨M', ?_, a4⟩
  unfold b_X8_goes
  rw [if_pos hK.mo, a1, Option.bind_some, show b_X8_goes_6 K 50 (nI m) 1000 M1 0 = some M2 from a2, Option.bind_some, a3, Option.bind_some, a4.2.1.1]
theorem q_byLots {K : yK} {M : yM} {x : Tx} {b : Bk} {m : Nat} {u v : Int32} (seed odds : Int32) (hK : KSh K) (hW : WX b) (hx : TxW x) (hm : m ≤ 60) (hd : bDy b ≤ 999) (hu : u = -1 ∨ ∃ j, j < 6 ∧ u = nI j) (hv : v = -1 ∨ ∃ j, j < 12 ∧ v = nI j) (hB : MR M b) (hX : MT M (bLw b) x) (h49 : M 50 49 = u) (h50 : M 50 50 = v) :
    ∃ M', b_X8_goesByLots K M 50 seed (nI m) odds = some (wS x (lotT seed odds) b m, M') ∧ GO x (lotT seed odds) b m u v M M' := by
  obtain ⟨M1, M2, M', a1, a2, a3, a4⟩ := q_walk (T := lotT seed odds) (m := m) hK hW hB hX h49 h50 (fun M1 => b_X8_goesByLots_13 K 50 (nI m) odds 1000 M1 (lotI seed 0) (nI 0)) (fun M1 hq => q_lots_loop hK hW hx hm hd hu hv m 1000 0 M1 (by omega) (by omega) hq)
  refine ⟨M', ?_, a4⟩
  unfold b_X8_goesByLots
  rw [Option.bind_some, if_pos hK.mo, a1, Option.bind_some, show b_X8_goesByLots_13 K 50 (nI m) odds 1000 M1 (seed.toInt64 + (1 : Int64)) 0 = some M2 from a2, Option.bind_some, a3, Option.bind_some, a4.2.1.1]
theorem q_told {K : yK} {M M' : yM} {x : Tx} {T : Nat → Bool} {b : Bk} {m : Nat} {u v : Int32} (hK : KSh K) (hG : GO x T b m u v M M') (what : Int32) : b_X8_toldRun K M' 50 what = some (toldS x T b m what) := by
  obtain ⟨-, ⟨g1, g2, g3, g4, g5, -, -⟩, -⟩ := hG
  unfold b_X8_toldRun toldS
  simp only [hK.mo, if_true, g1, g2, g3, g4, g5, Option.bind_some]
  by_cases c0 : what = 0
  · rw [if_pos c0, if_pos c0]
  · rw [if_neg c0, if_neg c0]
    by_cases c1 : what = 1
    · rw [if_pos c1, if_pos c1]
    · rw [if_neg c1, if_neg c1]
      by_cases c2 : what = 2
      · rw [if_pos c2, if_pos c2]
      · rw [if_neg c2, if_neg c2]
        by_cases c3 : what = 3
        · rw [if_pos c3, if_pos c3]
        · rw [if_neg c3, if_neg c3]
