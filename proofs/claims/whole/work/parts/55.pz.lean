/-! told days: judge, begins, kinds, skipped, laws -/
theorem KSh.q40 {K : yK} (h : KSh K) {s : Nat} (hs : s < 4) : gQ K 40 2 (nI s) = true ∧ K.2.2 40 (nI s).toNatClampNeg = some (41 + 2 * s) := by
  rw [nC (by omega)]
  refine ⟨?_, ?_⟩
  · refine decide_eq_true ⟨Nat.lt_of_lt_of_le (by decide) h.1, by rw [h.2.2.1 40 (by decide)]; rfl, nI_pos (by omega), ?_⟩
    rw [h.2.2.1 40 (by decide), nC (by omega)]
    exact hs
  · rcases (show s = 0 ∨ s = 1 ∨ s = 2 ∨ s = 3 by omega) with rfl | rfl | rfl | rfl
    · exact h.rf (by decide) (by decide) rfl
    · exact h.rf (by decide) (by decide) rfl
    · exact h.rf (by decide) (by decide) rfl
    · exact h.rf (by decide) (by decide) rfl
theorem p_isMissing {K : yK} {M : yM} {s : Nat} (hK : KSh K) (hs : s < 4) : b_X5_isMissing K M (41 + 2 * s) = some (decide (M (41 + 2 * s) 1 = -1)) := by
  unfold b_X5_isMissing
  rw [if_pos (hK.so hs).1]
  by_cases c : M (41 + 2 * s) 1 = -1
  · rw [if_pos c, decide_eq_true c]
  · rw [if_neg c, decide_eq_false c]
/-- what stands against a sheet, on both sides -/
def rfS (so : Nat → Int32) (x : Int32) : Int32 := if 0 ≤ x ∧ x ≤ 3 then (if so x.toNatClampNeg = -1 then -11 else 0) else -2
theorem p_refusal {K : yK} {M : yM} {so : Nat → Int32} (hK : KSh K) (hs : ∀ s, s < 4 → M (41 + 2 * s) 1 = so s) (x : Int32) : b_X7_refusalOf K M 0 x = some (rfS so x) := by
  unfold b_X7_refusalOf rfS
  rw [c_isSheet, Option.bind_some]
  by_cases c : 0 ≤ x ∧ x ≤ 3
  · obtain ⟨s, h1, rfl⟩ := in_N (e := 3) (by decide) c
    rw [ifd c, if_pos c, if_pos hK.o0, hK.r04, Option.bind_some, if_pos (hK.q40 (by omega)).1, (hK.q40 (by omega)).2, Option.bind_some, if_pos (hK.so (by omega)).1, p_isMissing hK (by omega), Option.bind_some, nC (by omega), hs s (by omega)]
    by_cases d : so s = -1
    · rw [ifd d, if_pos d]
    · rw [ifn d, if_neg d]
  · rw [ifn c, if_neg c]
theorem q_wrong {K : yK} {M : yM} {so : Nat → Int32} (hK : KSh K) (hs : ∀ s, s < 4 → M 61 s = so s) (x : Int32) : b_X8_sheetWrong K M 50 x = some (rfS so x) := by
  unfold b_X8_sheetWrong rfS
  rw [q_in, Option.bind_some]
  by_cases c : 0 ≤ x ∧ x ≤ 3
  · obtain ⟨s, h1, rfl⟩ := in_N (e := 3) (by decide) c
    rw [ifd c, if_pos c, if_pos hK.mo, hK.m24.1, Option.bind_some, if_pos (gA_N hK.m24.2 (by omega) (by omega)), nC (by omega), hs s (by omega)]
    by_cases d : so s = -1
    · rw [if_pos d, if_pos d]
    · rw [if_neg d, if_neg d]
  · rw [ifn c, if_neg c]
theorem rfS_0 {so : Nat → Int32} {x : Int32} (h : rfS so x = 0) : ∃ s, s < 4 ∧ x = nI s ∧ so s ≠ -1 := by
  unfold rfS at h
  by_cases c : 0 ≤ x ∧ x ≤ 3
  · obtain ⟨s, h1, rfl⟩ := in_N (e := 3) (by decide) c
    rw [if_pos c, nC (by omega)] at h
    refine ⟨s, by omega, rfl, fun e => ?_⟩
    rw [if_pos e] at h
    exact absurd h (by decide)
  · rw [if_neg c] at h
    exact absurd h (by decide)
theorem IN.sh {K : yK} {M : yM} {b ib : Bk} {im : Bool} {tn ts : Nat} {tx : Nat → Tx} {tp so : Nat → Int32} {sz : Nat → Nat} {ce : Nat → Nat → Int32} (h : IN K M b ib im tn ts tx tp so sz ce) : (∀ s, s < 4 → M (41 + 2 * s) 1 = so s) ∧ (∀ s, s < 4 → M (41 + 2 * s) 2 = nI (sz s) ∧ ∀ j, j < sz s → M (42 + 2 * s) j = ce s j) ∧ (∀ s, s < 4 → M 61 s = so s) ∧ (∀ s, s < 4 → QH s (sz s) (ce s) M) ∧ ∀ s, s < 4 → sz s ≤ 40 :=
  ⟨fun s hs => (h.2.1.2.2.2.2.2 s hs).1, fun s hs => (h.2.1.2.2.2.2.2 s hs).2, fun s hs => (h.2.2.2.2.2.2.2 s hs).1, fun s hs => (h.2.2.2.2.2.2.2 s hs).2, fun s hs => (h.1.2.2.2.2.2 s hs).1⟩
theorem Fc.qh {s m : Nat} {cl : Nat → Int32} {M M' : yM} (h : Fc M M') (g : QH s m cl M) : QH s m cl M' := by
  unfold QH
  rw [h.ms 62 (by decide) (by decide), h.ms 63 (by decide) (by decide)]
  exact g
theorem Fc.so {so : Nat → Int32} {M M' : yM} (h : Fc M M') (g : ∀ s, s < 4 → M 61 s = so s) : ∀ s, s < 4 → M' 61 s = so s := by
  rw [h.ms 61 (by decide) (by decide)]
  exact g
theorem a_judge {K : yK} {M : yM} {b ib : Bk} {im : Bool} {tn ts : Nat} {tx : Nat → Tx} {tp so : Nat → Int32} {sz : Nat → Nat} {ce : Nat → Nat → Int32} (h : IN K M b ib im tn ts tx tp so sz ce) (x1 : Int32) : AL K (fun M => b_X7_judge K M 0 x1) (fun M => b_X8_judge K M 50 x1) M := by
  obtain ⟨hK, hW, hd, hl, hT, hx, hB, hS, hXs, hX⟩ := h.cls
  obtain ⟨hs1, hs2, hs3, hs4, hs5⟩ := h.sh
  by_cases c : rfS so x1 = 0
  · obtain ⟨s, s1, rfl, -⟩ := rfS_0 c
    obtain ⟨M1, t1, t2, t3, t4⟩ := TH_0 hK hW 0 0 M hB hS
    obtain ⟨M2, p1, p2⟩ := p_first (c := ce s) hK s1 hW hx (hs5 s s1) hd (by rw [t4 _ (by omega) (by omega) (by omega)]; exact (hs2 s s1).1) (fun j hj => by rw [t4 _ (by omega) (by omega) (by omega)]; exact (hs2 s s1).2 j hj) t2 t3 (t4.xT hX)
    have f2 := t4.tr p2
    obtain ⟨M3, q1, q2, q3⟩ := q_un (cl := ce s) hK hT s1 (hs5 s s1) hW hd hl (h.qb f2) (f2.qh (hs4 s s1))
    refine AL.q (r := foF (tx (bLw b)) b (ce s) (sz s) 0) h (M1 := M2) (M2 := M3) ?_ f2 ?_ q3 q2.1
    · show b_X7_judge K M 0 (nI s) = _
      unfold b_X7_judge
      rw [if_pos hK.o0, p_refusal hK hs1, Option.bind_some, if_pos c, t1, Option.bind_some, hK.r04, Option.bind_some, if_pos (hK.q40 s1).1, (hK.q40 s1).2, Option.bind_some, p1, Option.bind_some]
    · show b_X8_judge K M2 50 (nI s) = _
      unfold b_X8_judge
      rw [if_pos hK.mo, q_wrong hK (f2.so hs3), Option.bind_some, if_pos c, q1, Option.bind_some]
  · refine AL.no (r := rfS so x1) h ?_ ?_
    · show b_X7_judge K M 0 x1 = _
      unfold b_X7_judge
      rw [if_pos hK.o0, p_refusal hK hs1, Option.bind_some, if_neg c]
    · show b_X8_judge K M 50 x1 = _
      unfold b_X8_judge
      rw [if_pos hK.mo, q_wrong hK hs3, Option.bind_some, if_neg c]
theorem a_begins {K : yK} {M : yM} {b ib : Bk} {im : Bool} {tn ts : Nat} {tx : Nat → Tx} {tp so : Nat → Int32} {sz : Nat → Nat} {ce : Nat → Nat → Int32} (h : IN K M b ib im tn ts tx tp so sz ce) (x1 : Int32) : AL K (fun M => b_X7_begins K M 0 x1) (fun M => b_X8_begins K M 50 x1) M := by
  obtain ⟨hK, hW, hd, hl, hT, hx, hB, hS, hXs, hX⟩ := h.cls
  obtain ⟨hs1, hs2, hs3, hs4, hs5⟩ := h.sh
  have h12 := hW.1.1
  by_cases c : rfS so x1 = 0
  · obtain ⟨s, s1, rfl, -⟩ := rfS_0 c
    obtain ⟨M1, p1, f1⟩ := p_fitting (o := 0) (e := bE b) (ch := 1) (w := 0) (cl := ce s) (c := fun k => stB b (fsB b k)) (tx := tx) (tn := tn) hK s1 (hs5 s s1) (by omega) (by omega) hT (fun k hk => by rw [vI_0]; exact ⟨CH_1 hK hW hd (by omega), hl⟩) hB hS hXs (hs2 s s1).1 (hs2 s s1).2
    have hQ := h.qb f1
    have hm1 : Ms M1 (yS M1 50 8 (-1)) := Ms.f (by decide)
    obtain ⟨M2, p', q1, q2, q3⟩ := q_begins_loop (cl := ce s) (x3 := M1 50 6) (x4 := M1 50 8) hK hT s1 (hs5 s s1) hW hd hl (bE b) 1000 0 (bPg b) (yS M1 50 8 (-1)) hW.1.2.2.2.1 (by omega) (by omega) (hQ.ms hm1 (hQ.1.mk8 (v := -1))) ((f1.qh (hs4 s s1)).ms hm1)
    have hm2 : Ms M1 (yS (yS M2 50 6 (M1 50 6)) 50 8 (M1 50 8)) := (hm1.tr q3).tr ((Ms.f (by decide)).tr (Ms.f (by decide)))
    have hmr : MR (yS (yS M2 50 6 (M1 50 6)) 50 8 (M1 50 8)) b := by
      rw [hQ.1.1.2.2.1, hQ.1.1.2.2.2.2.1]
      exact q2.1.pm (p := bPg b) (v := bBm b)
    rw [vI_0, vI_0] at p1
    refine AL.q (r := ftF (fun k => fitB (tx (bLw b)) (stB b (fsB b k)) (sz s) (ce s)) (bE b)) h (M1 := M1) (M2 := yS (yS M2 50 6 (M1 50 6)) 50 8 (M1 50 8)) ?_ f1 ?_ hm2 hmr
    · show b_X7_begins K M 0 (nI s) = _
      unfold b_X7_begins
      rw [if_pos hK.o0, p_refusal hK hs1, Option.bind_some, if_pos c, hK.r04, Option.bind_some, if_pos (hK.q40 s1).1, (hK.q40 s1).2, Option.bind_some, hK.r00, Option.bind_some, if_pos hK.o7, hB.1.1, show b_X7_fitting K M 0 (41 + 2 * s) 1 0 0 (nI (bE b)) = _ from p1, Option.bind_some]
      rfl
    · show b_X8_begins K M1 50 (nI s) = _
      unfold b_X8_begins
      rw [if_pos hK.mo, q_wrong hK (f1.so hs3), Option.bind_some, if_pos c, Option.bind_some, Option.bind_some, Option.bind_some, show b_X8_begins_34 K 50 (nI s) (M1 50 6) (M1 50 8) 1000 (yS M1 50 8 (-1)) 0 0 = _ from q1, Option.bind_some, Option.bind_some, Option.bind_some]
  · refine AL.no (r := rfS so x1) h ?_ ?_
    · show b_X7_begins K M 0 x1 = _
      unfold b_X7_begins
      rw [if_pos hK.o0, p_refusal hK hs1, Option.bind_some, if_neg c]
    · show b_X8_begins K M 50 x1 = _
      unfold b_X8_begins
      rw [if_pos hK.mo, q_wrong hK hs3, Option.bind_some, if_neg c]
theorem a_laws {K : yK} {M : yM} {b ib : Bk} {im : Bool} {tn ts : Nat} {tx : Nat → Tx} {tp so : Nat → Int32} {sz : Nat → Nat} {ce : Nat → Nat → Int32} (h : IN K M b ib im tn ts tx tp so sz ce) (x1 : Int32) : AL K (fun M => b_X7_laws K M 0 x1) (fun M => b_X8_laws K M 50 x1) M := by
  obtain ⟨hK, hW, hd, hl, hT, hx, hB, hS, hXs, hX⟩ := h.cls
  obtain ⟨hs1, hs2, hs3, hs4, hs5⟩ := h.sh
  have h6 := h.1.2.2.1.2.2
  by_cases c : rfS so x1 = 0
  · obtain ⟨s, s1, rfl, -⟩ := rfS_0 c
    obtain ⟨M1, p1, f1⟩ := p_fitting (o := 0) (e := tn) (ch := 8) (w := 0) (cl := ce s) (c := fun k => lwB b k) (tx := tx) (tn := tn) hK s1 (hs5 s s1) (by omega) (by omega) hT (fun k hk => by rw [vI_0]; exact ⟨⟨TH_8 (w := 0) k hK hW (by omega), lwB_W hW (by omega), hd⟩, hk⟩) hB hS hXs (hs2 s s1).1 (hs2 s s1).2
    have hQ := h.qb f1
    have h15 : M1 50 15 = nI tn := by rw [f1.ms 50 (by decide) (by decide)]; exact h.2.2.2.2.1.2.1
    obtain ⟨M2, l', q1, q2, q3⟩ := q_laws_loop (b := b) (cl := ce s) (x3 := M1 50 16) hK hT h6 s1 (hs5 s s1) hW hd tn 1000 0 (bLw b) M1 (by omega) (by omega) hQ h15 (f1.qh (hs4 s s1))
    have hm2 : Ms M1 (yS M2 50 16 (M1 50 16)) := q3.tr (Ms.f (by decide))
    have hmr : MR (yS M2 50 16 (M1 50 16)) b := by
      rw [hQ.1.1.2.2.2.2.2.2.2]
      exact q2.1.lw (v := bLw b)
    rw [vI_0, vI_0] at p1
    refine AL.q (r := ftF (fun k => fitB (tx k) (lwB b k) (sz s) (ce s)) tn) h (M1 := M1) (M2 := yS M2 50 16 (M1 50 16)) ?_ f1 ?_ hm2 hmr
    · show b_X7_laws K M 0 (nI s) = _
      unfold b_X7_laws
      rw [if_pos hK.o0, p_refusal hK hs1, Option.bind_some, if_pos c, hK.r04, Option.bind_some, if_pos (hK.q40 s1).1, (hK.q40 s1).2, Option.bind_some, h.2.1.2.2.1.2.1, show b_X7_fitting K M 0 (41 + 2 * s) 8 0 0 (nI tn) = _ from p1, Option.bind_some]
      rfl
    · show b_X8_laws K M1 50 (nI s) = _
      unfold b_X8_laws
      rw [if_pos hK.mo, q_wrong hK (f1.so hs3), Option.bind_some, if_pos c, Option.bind_some, show b_X8_laws_23 K 50 (nI s) (M1 50 16) 1000 M1 0 0 = _ from q1, Option.bind_some, Option.bind_some]
  · refine AL.no (r := rfS so x1) h ?_ ?_
    · show b_X7_laws K M 0 x1 = _
      unfold b_X7_laws
      rw [if_pos hK.o0, p_refusal hK hs1, Option.bind_some, if_neg c]
    · show b_X8_laws K M 50 x1 = _
      unfold b_X8_laws
      rw [if_pos hK.mo, q_wrong hK hs3, Option.bind_some, if_neg c]
theorem ft_cg {F G : Nat → Bool} : ∀ n, (∀ k, k < n → F k = G k) → ftF F n = ftF G n
  | 0, _ => rfl
  | n + 1, h => by rw [ftF, ftF, h n (by omega), ft_cg n (fun k hk => h k (by omega))]
theorem ft_st {F : Nat → Bool} (e : Nat) : ∀ n, (∀ k, e ≤ k → k < e + n → F k = false) → ftF F (e + n) = ftF F e
  | 0, _ => rfl
  | n + 1, h => by rw [show e + (n + 1) = e + n + 1 from rfl, ftF, h (e + n) (by omega) (by omega), if_neg (by decide)]; exact ft_st e n (fun k h1 h2 => h k h1 (by omega))
theorem sh_12 : (1 : Int32) <<< ((12 : Int32) &&& 31) = sh1 12 := rfl
theorem a_skipped {K : yK} {M : yM} {b ib : Bk} {im : Bool} {tn ts : Nat} {tx : Nat → Tx} {tp so : Nat → Int32} {sz : Nat → Nat} {ce : Nat → Nat → Int32} (h : IN K M b ib im tn ts tx tp so sz ce) (x1 : Int32) : AL K (fun M => b_X7_skipped K M 0 x1) (fun M => b_X8_skipped K M 50 x1) M := by
  obtain ⟨hK, hW, hd, hl, hT, hx, hB, hS, hXs, hX⟩ := h.cls
  obtain ⟨hs1, hs2, hs3, hs4, hs5⟩ := h.sh
  have h12 := hW.1.1
  by_cases c : rfS so x1 = 0
  · obtain ⟨s, s1, rfl, -⟩ := rfS_0 c
    obtain ⟨M0, p0, f0⟩ := p_fitting (o := 1) (e := 1) (ch := 4) (w := 0) (cl := ce s) (c := fun _ => skB b 0) (tx := tx) (tn := tn) hK s1 (hs5 s s1) (by omega) (by omega) hT (fun k hk => by
      obtain rfl : k = 0 := by omega
      exact ⟨⟨TH_4 (w := 0) (-1) hK hW (by omega), skB_W hW (bB_0 _), hd⟩, hl⟩) hB hS hXs (hs2 s s1).1 (hs2 s s1).2
    have p0 : b_X7_fitting K M 0 (41 + 2 * s) 4 0 (-1) 0 = some (ftF (fun _ => fitB (tx (bLw b)) (skB b 0) (sz s) (ce s)) 1, M0) := p0
    obtain ⟨M1, p1, f1⟩ := p_fitting (o := 0) (e := bE b) (ch := 4) (w := 0) (cl := ce s) (c := fun k => skB b (sh1 k)) (tx := tx) (tn := tn) hK s1 (hs5 s s1) (by omega) (by omega) hT (fun k hk => by
      rw [vI_0]
      refine ⟨⟨?_, skB_W hW (bB_sh1 hk (by omega)), hd⟩, hl⟩
      have t := TH_4 (w := 0) (nI k) hK hW (by omega)
      rw [if_pos (ge0 (by omega))] at t
      exact t) (f0.br hB) (f0.bs hS) (fun l hl => f0.xT (hXs l hl)) (by rw [f0 _ (by omega) (by omega) (by omega)]; exact (hs2 s s1).1) (fun j hj => by rw [f0 _ (by omega) (by omega) (by omega)]; exact (hs2 s s1).2 j hj)
    have ff := f0.tr f1
    have hQ := h.qb ff
    obtain ⟨M2, z', q1, q2, q3⟩ := q_skipped_loop (b := b) (cl := ce s) (x3 := M1 50 9) hK hT s1 (hs5 s s1) hW hd hl 13 1000 0 (bSk b) M1 (by omega) (by omega) hQ (ff.qh (hs4 s s1))
    have hm2 : Ms M1 (yS M2 50 9 (M1 50 9)) := q3.tr (Ms.f (by decide))
    have hmr : MR (yS M2 50 9 (M1 50 9)) b := by
      rw [hQ.1.1.2.2.2.2.2.1]
      exact q2.1.sk (v := bSk b)
    rw [vI_0, vI_0] at p1
    have hr : (ftF (fun _ => fitB (tx (bLw b)) (skB b 0) (sz s) (ce s)) 1 <<< ((12 : Int32) &&& 31)) ||| ftF (fun k => fitB (tx (bLw b)) (skB b (sh1 k)) (sz s) (ce s)) (bE b) = ftF (skF b (tx (bLw b)) (sz s) (ce s)) 13 := by
      have e1 : ftF (skF b (tx (bLw b)) (sz s) (ce s)) 12 = ftF (fun k => fitB (tx (bLw b)) (skB b (sh1 k)) (sz s) (ce s)) (bE b) := by
        have := ft_st (F := skF b (tx (bLw b)) (sz s) (ce s)) (bE b) (12 - bE b) (fun k z1 z2 => by unfold skF; rw [if_neg (by omega), if_neg (by omega)])
        rw [show bE b + (12 - bE b) = 12 by omega] at this
        rw [this]
        exact ft_cg (bE b) (fun k hk => by unfold skF; rw [if_pos hk])
      have e2 : skF b (tx (bLw b)) (sz s) (ce s) 12 = fitB (tx (bLw b)) (skB b 0) (sz s) (ce s) := by
        unfold skF
        rw [if_neg (by omega), if_pos rfl]
      show ((if fitB (tx (bLw b)) (skB b 0) (sz s) (ce s) = true then (0 : Int32) ||| sh1 0 else 0) <<< ((12 : Int32) &&& 31)) ||| _ = (if skF b (tx (bLw b)) (sz s) (ce s) 12 = true then ftF (skF b (tx (bLw b)) (sz s) (ce s)) 12 ||| sh1 12 else ftF (skF b (tx (bLw b)) (sz s) (ce s)) 12)
      rw [e1, e2]
      by_cases y : fitB (tx (bLw b)) (skB b 0) (sz s) (ce s) = true
      · rw [if_pos y, if_pos y, zorI, show (sh1 0 <<< ((12 : Int32) &&& 31)) = sh1 12 by decide]
        exact Int32.or_comm _ _
      · rw [if_neg y, if_neg y, show ((0 : Int32) <<< ((12 : Int32) &&& 31)) = 0 by decide, zorI]
    refine AL.q (r := ftF (skF b (tx (bLw b)) (sz s) (ce s)) 13) h (M1 := M1) (M2 := yS M2 50 9 (M1 50 9)) ?_ ff ?_ hm2 hmr
    · show b_X7_skipped K M 0 (nI s) = _
      unfold b_X7_skipped
      rw [if_pos hK.o0, p_refusal hK hs1, Option.bind_some, if_pos c, hK.r04, Option.bind_some, if_pos (hK.q40 s1).1, (hK.q40 s1).2, Option.bind_some, p0, Option.bind_some, hK.r00, Option.bind_some, if_pos hK.o7]
      dsimp only
      rw [(f0.br hB).1.1, show b_X7_fitting K M0 0 (41 + 2 * s) 4 0 0 (nI (bE b)) = _ from p1, Option.bind_some]
      dsimp only
      rw [← hr]
      rfl
    · show b_X8_skipped K M1 50 (nI s) = _
      unfold b_X8_skipped
      rw [if_pos hK.mo, q_wrong hK (ff.so hs3), Option.bind_some, if_pos c, Option.bind_some, show b_X8_skipped_23 K 50 (nI s) (M1 50 9) 1000 M1 0 0 = _ from q1, Option.bind_some, Option.bind_some]
  · refine AL.no (r := rfS so x1) h ?_ ?_
    · show b_X7_skipped K M 0 x1 = _
      unfold b_X7_skipped
      rw [if_pos hK.o0, p_refusal hK hs1, Option.bind_some, if_neg c]
    · show b_X8_skipped K M 50 x1 = _
      unfold b_X8_skipped
      rw [if_pos hK.mo, q_wrong hK hs3, Option.bind_some, if_neg c]
theorem a_kinds {K : yK} {M : yM} {b ib : Bk} {im : Bool} {tn ts : Nat} {tx : Nat → Tx} {tp so : Nat → Int32} {sz : Nat → Nat} {ce : Nat → Nat → Int32} (h : IN K M b ib im tn ts tx tp so sz ce) (x1 x2 x3 : Int32) : AL K (fun M => b_X7_kinds K M 0 x1 x2 x3) (fun M => b_X8_kinds K M 50 x1 x2 x3) M := by
  obtain ⟨hK, hW, hd, hl, hT, hx, hB, hS, hXs, hX⟩ := h.cls
  obtain ⟨hs1, hs2, hs3, hs4, hs5⟩ := h.sh
  have h12 := hW.1.1
  have a51 : isAr K 51 12 := hK.ar (by decide) rfl
  have a52 : isAr K 52 12 := hK.ar (by decide) rfl
  have a53 : isAr K 53 36 := hK.ar (by decide) rfl
  have c_has := p_has hK iB7 hB.1.1 h12 x2
  have hQ0 := h.qb (Fc.rf M)
  have m_has := q_isEntry hK hQ0.1.1.1 h12 x2
  by_cases c : rfS so x1 = 0
  · obtain ⟨s, s1, rfl, -⟩ := rfS_0 c
    by_cases c0 : isN x2 (bE b) = true
    · obtain ⟨w, hw, rfl⟩ := isN_of c0
      by_cases c1 : 0 ≤ x3 ∧ x3 ≤ 2
      · obtain ⟨sort, hsort, rfl⟩ := in_N (e := 2) (by decide) c1
        -- the reference
        have ref : ∀ M1, Fc M M1 → ∃ M2, b_X8_kinds K M1 50 (nI s) (nI w) (nI sort) = some (ftF (fun k => fitB (tx (bLw b)) (kcB b w sort k) (sz s) (ce s)) (kcE b sort), M2) ∧ Ms M1 M2 ∧ MR M2 b := by
          intro M1 f1
          have hQ := h.qb f1
          have hQ' := hQ
          rw [← km_id b w] at hQ'
          obtain ⟨M2, k1, m1, v1, q1, q2, q3⟩ := q_kinds_loop (b := b) (cl := ce s) (sort := sort) hK hT s1 (hs5 s s1) hW hd hl hw (by omega) (kcE b sort) 1000 0 (bK b w) (bM b w) (bT b w) M1 (by omega) (by unfold kcE; split; omega; split <;> omega) hQ' (f1.qh (hs4 s s1))
          have e3 : (3 : Int32) * nI w + 1 = nI (3 * w + 1) := by rw [show (3 : Int32) = nI 3 from rfl, mulN, incN]
          obtain ⟨v1', v2', -, v4', -⟩ := hQ.1.2.1 w hw
          refine ⟨yS (yS (yS M2 51 w (nI (bK b w))) 52 w (nI (bM b w))) 53 (3 * w + 1) (bT b w), ?_, q3.tr (((Ms.a (by decide)).tr (Ms.a (by decide))).tr (Ms.a (by decide))), ?_⟩
          · unfold b_X8_kinds
            rw [if_pos hK.mo, q_wrong hK (f1.so hs3), Option.bind_some, if_pos c, q_isEntry hK hQ.1.1.1 h12, Option.bind_some, if_pos c0, q_in, Option.bind_some, ifd c1, hK.mr (f := 1) rfl, Option.bind_some, if_pos (gA_N a51 (by omega) (by omega)), Option.bind_some, hK.mr (f := 2) rfl, Option.bind_some, if_pos (gA_N a52 (by omega) (by omega)), Option.bind_some, hK.mr (f := 3) rfl, Option.bind_some, e3, if_pos (gA_N a53 (by omega) (by omega)), Option.bind_some, nC (by omega), nC (by omega), v1', v2', v4', show b_X8_kinds_72 K 50 (nI s) (nI w) (nI sort) (nI (bK b w)) (nI (bM b w)) (bT b w) 1000 M1 0 0 = _ from q1, Option.bind_some, Option.bind_some, Option.bind_some, Option.bind_some]
          · have g := q2.1.km (k := bK b w) (m := bM b w) (v := bT b w)
            rw [km_id] at g
            exact g
        rcases (show sort = 0 ∨ sort = 1 ∨ sort = 2 by omega) with rfl | rfl | rfl
        · obtain ⟨M1, p1, f1⟩ := p_fitting (o := 0) (e := 6) (ch := 6) (w := nI w) (cl := ce s) (c := fun k => kdB b w k) (tx := tx) (tn := tn) hK s1 (hs5 s s1) (by omega) (by omega) hT (fun k hk => by rw [vI_0]; exact ⟨⟨TH_6 hK hW (by omega) hk, kdB_W hW hk, hd⟩, hl⟩) hB hS hXs (hs2 s s1).1 (hs2 s s1).2
          obtain ⟨M2, r1, r2, r3⟩ := ref M1 f1
          refine AL.q (r := ftF (fun k => fitB (tx (bLw b)) (kcB b w 0 k) (sz s) (ce s)) (kcE b 0)) h (M1 := M1) (M2 := M2) ?_ f1 r1 r2 r3
          show b_X7_kinds K M 0 (nI s) (nI w) (nI 0) = _
          unfold b_X7_kinds
          rw [if_pos hK.o0, p_refusal hK hs1, Option.bind_some, if_pos c, hK.r00, Option.bind_some, if_pos hK.o7, c_has, Option.bind_some, if_pos c0, if_pos (show nI 0 = (0 : Int32) from rfl), hK.r04, Option.bind_some, if_pos (hK.q40 s1).1, (hK.q40 s1).2, Option.bind_some, show b_X7_fitting K M 0 (41 + 2 * s) 6 (nI w) 0 6 = _ from p1, Option.bind_some]
          rfl
        · obtain ⟨M1, p1, f1⟩ := p_fitting (o := 0) (e := 10) (ch := 7) (w := nI w) (cl := ce s) (c := fun k => moB b w k) (tx := tx) (tn := tn) hK s1 (hs5 s s1) (by omega) (by omega) hT (fun k hk => by rw [vI_0]; exact ⟨⟨TH_7 hK hW (by omega) hk, moB_W hW hk, hd⟩, hl⟩) hB hS hXs (hs2 s s1).1 (hs2 s s1).2
          obtain ⟨M2, r1, r2, r3⟩ := ref M1 f1
          refine AL.q (r := ftF (fun k => fitB (tx (bLw b)) (kcB b w 1 k) (sz s) (ce s)) (kcE b 1)) h (M1 := M1) (M2 := M2) ?_ f1 r1 r2 r3
          show b_X7_kinds K M 0 (nI s) (nI w) (nI 1) = _
          unfold b_X7_kinds
          rw [if_pos hK.o0, p_refusal hK hs1, Option.bind_some, if_pos c, hK.r00, Option.bind_some, if_pos hK.o7, c_has, Option.bind_some, if_pos c0, if_neg (show ¬ nI 1 = (0 : Int32) by decide), if_pos (show nI 1 = (1 : Int32) from rfl), hK.r04, Option.bind_some, if_pos (hK.q40 s1).1, (hK.q40 s1).2, Option.bind_some, show b_X7_fitting K M 0 (41 + 2 * s) 7 (nI w) 0 10 = _ from p1, Option.bind_some]
          rfl
        · obtain ⟨M1, p1, f1⟩ := p_fitting (o := 1) (e := bE b + 1) (ch := 5) (w := nI w) (cl := ce s) (c := fun k => toB b w (vI 1 k)) (tx := tx) (tn := tn) hK s1 (hs5 s s1) (by omega) (by omega) hT (fun k hk => ⟨CH_5 hK hW hd hw (vI_1 (by omega)), hl⟩) hB hS hXs (hs2 s s1).1 (hs2 s s1).2
          obtain ⟨M2, r1, r2, r3⟩ := ref M1 f1
          refine AL.q (r := ftF (fun k => fitB (tx (bLw b)) (kcB b w 2 k) (sz s) (ce s)) (kcE b 2)) h (M1 := M1) (M2 := M2) ?_ f1 r1 r2 r3
          have e1 : vI 1 (bE b + 1) = nI (bE b) := subN (by omega)
          rw [e1] at p1
          show b_X7_kinds K M 0 (nI s) (nI w) (nI 2) = _
          unfold b_X7_kinds
          rw [if_pos hK.o0, p_refusal hK hs1, Option.bind_some, if_pos c, hK.r00, Option.bind_some, if_pos hK.o7, c_has, Option.bind_some, if_pos c0, if_neg (show ¬ nI 2 = (0 : Int32) by decide), if_neg (show ¬ nI 2 = (1 : Int32) by decide), if_pos (show nI 2 = (2 : Int32) from rfl), hK.r04, Option.bind_some, if_pos (hK.q40 s1).1, (hK.q40 s1).2, Option.bind_some, hB.1.1, show b_X7_fitting K M 0 (41 + 2 * s) 5 (nI w) (-1) (nI (bE b)) = _ from p1, Option.bind_some]
          rfl
      · have hne : ∀ i, i ≤ 2 → x3 ≠ nI i := fun i hi e => c1 (by rw [e]; exact ⟨ge0 (by omega), by rw [show (2 : Int32) = nI 2 from rfl, leN (by omega) (by omega)]; exact hi⟩)
        refine AL.no (r := -7) h ?_ ?_
        · show b_X7_kinds K M 0 (nI s) (nI w) x3 = _
          unfold b_X7_kinds
          rw [if_pos hK.o0, p_refusal hK hs1, Option.bind_some, if_pos c, hK.r00, Option.bind_some, if_pos hK.o7, c_has, Option.bind_some, if_pos c0, if_neg (show ¬ x3 = (0 : Int32) from hne 0 (by omega)), if_neg (show ¬ x3 = (1 : Int32) from hne 1 (by omega)), if_neg (show ¬ x3 = (2 : Int32) from hne 2 (by omega))]
        · show b_X8_kinds K M 50 (nI s) (nI w) x3 = _
          unfold b_X8_kinds
          rw [if_pos hK.mo, q_wrong hK hs3, Option.bind_some, if_pos c, m_has, Option.bind_some, if_pos c0, q_in, Option.bind_some, ifn c1]
    · refine AL.no (r := -5) h ?_ ?_
      · show b_X7_kinds K M 0 (nI s) x2 x3 = _
        unfold b_X7_kinds
        rw [if_pos hK.o0, p_refusal hK hs1, Option.bind_some, if_pos c, hK.r00, Option.bind_some, if_pos hK.o7, c_has, Option.bind_some, if_neg c0]
      · show b_X8_kinds K M 50 (nI s) x2 x3 = _
        unfold b_X8_kinds
        rw [if_pos hK.mo, q_wrong hK hs3, Option.bind_some, if_pos c, m_has, Option.bind_some, if_neg c0]
  · refine AL.no (r := rfS so x1) h ?_ ?_
    · show b_X7_kinds K M 0 x1 x2 x3 = _
      unfold b_X7_kinds
      rw [if_pos hK.o0, p_refusal hK hs1, Option.bind_some, if_neg c]
    · show b_X8_kinds K M 50 x1 x2 x3 = _
      unfold b_X8_kinds
      rw [if_pos hK.mo, q_wrong hK hs3, Option.bind_some, if_neg c]
