/-! the class: days in thought -/
theorem KSh.o0 {K : yK} (h : KSh K) : gO K 0 6 = true := h.ob (by decide) rfl
theorem KSh.r0 {K : yK} (h : KSh K) {f q : Nat} (hk : rfT 0 f = some q) : K.2.2 0 f = some q := h.rf (by decide) (by decide) hk
theorem KSh.r00 {K : yK} (h : KSh K) : K.2.2 0 0 = some 7 := h.r0 rfl
theorem KSh.r01 {K : yK} (h : KSh K) : K.2.2 0 1 = some 16 := h.r0 rfl
theorem KSh.r02 {K : yK} (h : KSh K) : K.2.2 0 2 = some 25 := h.r0 rfl
theorem KSh.r03 {K : yK} (h : KSh K) : K.2.2 0 3 = some 34 := h.r0 rfl
theorem KSh.r04 {K : yK} (h : KSh K) : K.2.2 0 4 = some 40 := h.r0 rfl
theorem KSh.r05 {K : yK} (h : KSh K) : K.2.2 0 5 = some 49 := h.r0 rfl
theorem iB7 : isB 7 := .inl rfl
theorem iB16 : isB 16 := .inr (.inl rfl)
theorem iB25 : isB 25 := .inr (.inr rfl)
theorem KSh.o7 {K : yK} (h : KSh K) : gO K 7 0 = true := h.bo iB7
theorem KSh.o16 {K : yK} (h : KSh K) : gO K 16 0 = true := h.bo iB16
theorem KSh.o25 {K : yK} (h : KSh K) : gO K 25 0 = true := h.bo iB25
/-- what the thought changes -/
def Fc (M M' : yM) : Prop := ∀ q, q ≠ 5 → q ≠ 6 → (q < 25 ∨ 33 < q) → M' q = M q
theorem Fc.rf (M : yM) : Fc M M := fun _ _ _ _ => rfl
theorem Fc.tr {M M' M'' : yM} (h : Fc M M') (g : Fc M' M'') : Fc M M'' := fun q z1 z2 z3 => (g q z1 z2 z3).trans (h q z1 z2 z3)
theorem Fc.xT {K : yK} {M M' : yM} {k : Nat} {x : Tx} (h : Fc M M') (hX : xT K M k x) : xT K M' k x := hX.cg (fun q hq => h q (by omega) (by omega) (by omega))
theorem BR.pg {M : yM} {b : Bk} {p : Nat} (h : BR M 25 b) : BR (yS M 25 10 (nI p)) 25 (pgB b p) := by
  obtain ⟨⟨b8, b9, b10, b11, b12, b13, b14, b15⟩, bv, bd⟩ := h
  refine BR_mk ?_ ?_ ?_ ?_ ?_ ?_ ?_ ?_ (fun w hw => ?_) (fun d hd => ?_)
  · rw [yS_oi _ _ _ _ (by decide)]; exact b8
  · rw [yS_oi _ _ _ _ (by decide)]; exact b9
  · rw [yS_at]
  · rw [yS_oi _ _ _ _ (by decide)]; exact b11
  · rw [yS_oi _ _ _ _ (by decide)]; exact b12
  · rw [yS_oi _ _ _ _ (by decide)]; exact b13
  · rw [yS_oi _ _ _ _ (by decide)]; exact b14
  · rw [yS_oi _ _ _ _ (by decide)]; exact b15
  · rw [yS_op _ _ _ _ (by decide), yS_op _ _ _ _ (by decide), yS_op _ _ _ _ (by decide), yS_op _ _ _ _ (by decide), yS_op _ _ _ _ (by decide)]; exact bv w hw
  · rw [yS_op _ _ _ _ (by decide)]; exact bd d hd
theorem BS.st {M M' : yM} {t : Nat} {b c : Bk} (h : BS M t b) (hs : SB b c) (h1 : M' (t + 6) = M (t + 6)) (h2 : M' (t + 7) = M (t + 7)) : BS M' t c := by
  unfold BS
  rw [h1, h2, hs.1]
  refine ⟨fun w hw => ?_, fun w hw => ?_⟩
  · rw [hs.fs]; exact h.1 w hw
  · rw [show chB c w = chB b w from chF_cg hs.1 hs.2.1 hs.2.2.2.2.1 12 (nI w) 0]; exact h.2 w hw
/-- one day of the thought: what comes, what holds, what can be done -/
theorem p_day {K : yK} {M : yM} {b : Bk} {x : Tx} (hK : KSh K) (hW : WX b) (hd : bDy b + 1 < 2000) (hB : BR M 25 b) (hS : BS M 25 b) (hX : xT K M (bLw b) x) (hx : TxW x) :
    ∃ M1 M2, b_X0_passDay K M 25 = some M1 ∧ b_X0_itself K M1 25 = some (itsB x (dyB x b) (bE (dyB x b)), M2) ∧ b_X0_held K M2 25 (itsB x (dyB x b) (bE (dyB x b))) = some (heB x (dyB x b)) ∧ BR M2 25 (dyB x b) ∧ BS M2 25 (dyB x b) ∧ M2 25 16 = nI (bgB b) ∧ Fc M M2 := by
  obtain ⟨M1, a1, a2, a3, a4, a5, a6⟩ := p_passDay hK iB25 hW hd hB hS hX hx
  have hW' := dyB_W (x := x) hW hd
  have hsb := dyB_S x b
  generalize dyB x b = b' at a2 a3 hW' hsb ⊢
  have hX1 : xT K M1 (bLw b') x := by rw [hsb.2.2.2.2.2.2.2.2]; exact hX.cg (fun q hq => a6 q (by omega) (by omega) (by omega))
  obtain ⟨M2, c1, c2⟩ := p_itself hK iB25 hW' a2 hX1 hx
  have hB2 : BR M2 25 b' := a2.cg (fun q h1 h2 => c2 q (by omega) (by omega))
  have hS2 : BS M2 25 b' := a3.cg (fun q h1 h2 => c2 q (by omega) (by omega))
  refine ⟨M1, M2, a1, c1, p_held hK iB25 hW'.1 hB2 hS2 _, hB2, hS2, by rw [c2 25 (by decide) (by decide)]; exact a4, fun q z1 z2 z3 => by rw [c2 q z1 z2]; exact a6 q z1 z2 (by omega)⟩
theorem turn_ok {K : yK} {M : yM} {b : Bk} {g i : Nat} {C : Prop} [Decidable C] {T : Bool} (hK : KSh K) (hi : i < 100) (hT : T = decide (i ≠ 0 ∧ ¬ C)) (hB : BR M 25 b) (hS : BS M 25 b) (hg : 0 < i → M 25 16 = nI g) :
    ∃ Mj, (if nI i ≤ 0 then (some M) else (if C then (some M) else (if gO K 0 6 = true then (Option.bind (K.2.2 0 2) fun q7 => (if gO K q7 0 = true then (Option.bind (some (yS M q7 10 (M q7 16))) fun M9 => (some M9)) else none)) else none))) = some Mj ∧ BR Mj 25 (tnB T (b, g)) ∧ BS Mj 25 (tnB T (b, g)) ∧ ∀ q, q ≠ 25 → Mj q = M q := by
  rw [show (0 : Int32) = nI 0 from rfl, iteLe (by omega) (by omega)]
  by_cases c : i ≤ 0
  · rw [if_pos c]
    have : T = false := by rw [hT]; exact decide_eq_false (fun h => h.1 (by omega))
    subst this
    exact ⟨M, rfl, hB, hS, fun _ _ => rfl⟩
  · rw [if_neg c]
    by_cases d : C
    · rw [if_pos d]
      have : T = false := by rw [hT]; exact decide_eq_false (fun h => h.2 d)
      subst this
      exact ⟨M, rfl, hB, hS, fun _ _ => rfl⟩
    · rw [if_neg d, if_pos hK.o0, hK.r02, Option.bind_some, if_pos hK.o25, Option.bind_some, hg (by omega)]
      have : T = true := by rw [hT]; exact decide_eq_true ⟨by omega, d⟩
      subst this
      refine ⟨_, rfl, hB.pg, hS.st (pgB_S _ _) ?_ ?_, fun q z => funext fun j => yS_op _ _ _ _ z j⟩
      · exact funext fun j => yS_op _ _ _ _ (by decide) j
      · exact funext fun j => yS_op _ _ _ _ (by decide) j
theorem p_passDays_loop {K : yK} {x : Tx} {b : Bk} {m : Nat} {what odds seed : Int32} (hK : KSh K) (hW : WX b) (hx : TxW x) (hm : m ≤ 60) (hd : bDy b ≤ 999) : ∀ (f n i : Nat) (M : yM) (w : Int32), i + f = m → f < n → BR M 25 (dI x (lotT seed odds) b i).1 → BS M 25 (dI x (lotT seed odds) b i).1 → (0 < i → M 25 16 = nI (dI x (lotT seed odds) b i).2) → xT K M (bLw b) x → (what = 0 → w = wS x (lotT seed odds) b i) →
    ∃ w' M', b_X7_passDays_21 K 0 (nI m) what odds n M (lotI seed i) w (cS x (lotT seed odds) b i) (hS x (lotT seed odds) b i) (aS x (lotT seed odds) b i) (nI i) = some (w', cS x (lotT seed odds) b m, hS x (lotT seed odds) b m, aS x (lotT seed odds) b m, M') ∧ (what = 0 → w' = wS x (lotT seed odds) b m) ∧ BR M' 25 (dI x (lotT seed odds) b m).1 ∧ Fc M M' := by
  intro f
  induction f with
  | zero =>
    intro n i M w hi hn hB hS' hg hX hw
    obtain ⟨n, rfl⟩ : ∃ k, n = k + 1 := ⟨n - 1, by omega⟩
    obtain rfl : i = m := by omega
    refine ⟨w, M, ?_, hw, hB, Fc.rf _⟩
    rw [b_X7_passDays_21, iteLe (by omega) (by omega), if_pos (by omega)]
  | succ f ih =>
    intro n i M w hi hn hB hS' hg hX hw
    obtain ⟨n, rfl⟩ : ∃ k, n = k + 1 := ⟨n - 1, by omega⟩
    obtain ⟨Mj, t1, t2, t3, t4⟩ := turn_ok (K := K) (M := M) (b := (dI x (lotT seed odds) b i).1) (g := (dI x (lotT seed odds) b i).2) (i := i) (T := lotT seed odds i) hK (by omega) rfl hB hS' hg
    have wi := dI_W (x := x) (T := lotT seed odds) hW i (by omega)
    have wt := tnB_W (T := lotT seed odds i) wi.1 wi.2
    have hsb : SB b (tnB (lotT seed odds i) (dI x (lotT seed odds) b i)) := (dI_S x _ b i).tr (tnB_S _ _)
    have hXj : xT K Mj (bLw b) x := hX.cg (fun q hq => t4 q (by omega))
    obtain ⟨M1, M2, a1, a2, a3, a4, a5, a6, a7⟩ := p_day hK wt (by rw [tnB_D, dI_D]; omega) t2 t3 (by rw [hsb.2.2.2.2.2.2.2.2]; exact hXj) hx
    have a2 : b_X0_itself K M1 25 = some (itsB x (dI x (lotT seed odds) b (i + 1)).1 (bE (dI x (lotT seed odds) b (i + 1)).1), M2) := a2
    have a3 : b_X0_held K M2 25 (itsB x (dI x (lotT seed odds) b (i + 1)).1 (bE (dI x (lotT seed odds) b (i + 1)).1)) = some (heB x (dI x (lotT seed odds) b (i + 1)).1) := a3
    have a4 : BR M2 25 (dI x (lotT seed odds) b (i + 1)).1 := a4
    have a5 : BS M2 25 (dI x (lotT seed odds) b (i + 1)).1 := a5
    have a6 : M2 25 16 = nI (dI x (lotT seed odds) b (i + 1)).2 := a6
    have w1 := (dI_W (x := x) (T := lotT seed odds) hW (i + 1) (by omega)).1
    have s1 := dI_S x (lotT seed odds) b (i + 1)
    have f2 : Fc M M2 := fun q z1 z2 z3 => by rw [a7 q z1 z2 z3, t4 q (by omega)]
    have hX2 : xT K M2 (bLw b) x := f2.xT hX
    have a8 := p_canDo hK iB25 w1.1 a4 (heB x (dI x (lotT seed odds) b (i + 1)).1)
    have ew : ∃ v M3, (if what = 0 then (Option.bind (b_X0_worthOf K M2 25 (hdB x (dI x (lotT seed odds) b (i + 1)).1)) fun r19 => (some (r19.1, r19.2))) else (some ((0 : Int32), M2))) = some (v, M3) ∧ (what = 0 → v = woF x (dI x (lotT seed odds) b (i + 1)).1 (hdB x (dI x (lotT seed odds) b (i + 1)).1) (bDn (dI x (lotT seed odds) b (i + 1)).1)) ∧ ∀ q, q ≠ 5 → q ≠ 6 → M3 q = M2 q := by
      by_cases c : what = 0
      · obtain ⟨M3, e1, e2⟩ := p_worth hK iB25 w1 a4 (by rw [s1.2.2.2.2.2.2.2.2]; exact hX2) hx (hdB x (dI x (lotT seed odds) b (i + 1)).1)
        refine ⟨_, M3, ?_, fun _ => rfl, e2⟩
        rw [if_pos c, e1, Option.bind_some]
      · refine ⟨0, M2, ?_, fun h => absurd h c, fun _ _ _ => rfl⟩
        rw [if_neg c]
    obtain ⟨v, M3, e1, e2, e3⟩ := ew
    have hl : (lotI seed i * (48271 : Int64)) - (lotI seed i * (48271 : Int64)) / (2147483647 : Int64) * (2147483647 : Int64) = lotI seed (i + 1) := rfl
    rw [b_X7_passDays_21, iteLe (by omega) (by omega), if_neg (by omega), hl, Option.bind_some, t1, Option.bind_some, if_pos hK.o0, hK.r02, Option.bind_some, if_pos hK.o25, a1, Option.bind_some, a2, Option.bind_some]
    dsimp only
    rw [a3, Option.bind_some, a8, Option.bind_some, show caF (dI x (lotT seed odds) b (i + 1)).1 (heB x (dI x (lotT seed odds) b (i + 1)).1) (bDn (dI x (lotT seed odds) b (i + 1)).1) = hdB x (dI x (lotT seed odds) b (i + 1)).1 from rfl, e1, Option.bind_some]
    dsimp only
    rw [Option.bind_some, Option.bind_some, Option.bind_some, Option.bind_some, incN, Option.bind_some]
    have g14 : M3 25 14 = bCa (dI x (lotT seed odds) b (i + 1)).1 := by rw [e3 25 (by decide) (by decide)]; exact a4.1.2.2.2.2.2.2.1
    rw [g14]
    have f3 : Fc M M3 := fun q z1 z2 z3 => by rw [e3 q z1 z2, f2 q z1 z2 z3]
    obtain ⟨w', M', r1, r2, r3, r4⟩ := ih n (i + 1) M3 (w + v) (by omega) (by omega) (a4.cg (fun q h1 h2 => e3 q (by omega) (by omega))) (a5.cg (fun q h1 h2 => e3 q (by omega) (by omega))) (fun _ => by rw [e3 25 (by decide) (by decide)]; exact a6) (f3.xT hX) (fun h => by rw [hw h, e2 h]; rfl)
    exact ⟨w', M', r1, r2, r3, f3.tr r4⟩
theorem p_passDays {K : yK} {M : yM} {x : Tx} {b : Bk} {m : Nat} (what odds seed : Int32) (hK : KSh K) (hW : WX b) (hx : TxW x) (hm : m ≤ 60) (hd : bDy b ≤ 999) (hB : BR M 25 b) (hS' : BS M 25 b) (hX : xT K M (bLw b) x) : ∃ M', b_X7_passDays K M 0 (nI m) what seed odds = some (toldS x (lotT seed odds) b m what, M') ∧ Fc M M' := by
  obtain ⟨w', M', r1, r2, r3, r4⟩ := p_passDays_loop (what := what) (odds := odds) (seed := seed) hK hW hx hm hd m 1000 0 M 0 (by omega) (by omega) hB hS' (fun h => absurd h (Nat.lt_irrefl _)) hX (fun _ => rfl)
  have r1 : b_X7_passDays_21 K 0 (nI m) what odds 1000 M (seed.toInt64 + (1 : Int64)) 0 0 0 0 0 = some (w', cS x (lotT seed odds) b m, hS x (lotT seed odds) b m, aS x (lotT seed odds) b m, M') := r1
  refine ⟨M', ?_, r4⟩
  unfold b_X7_passDays toldS
  rw [Option.bind_some, r1, Option.bind_some]
  dsimp only
  by_cases c0 : what = 0
  · rw [if_pos c0, if_pos c0, r2 c0]
  · rw [if_neg c0, if_neg c0]
    by_cases c1 : what = 1
    · rw [if_pos c1, if_pos c1]
    · rw [if_neg c1, if_neg c1]
      by_cases c2 : what = 2
      · rw [if_pos c2, if_pos c2]
      · rw [if_neg c2, if_neg c2]
        by_cases c3 : what = 3
        · rw [if_pos c3, if_pos c3]
        · rw [if_neg c3, if_neg c3, if_pos hK.o0, hK.r02, Option.bind_some, if_pos hK.o25, r3.1.2.2.1]
