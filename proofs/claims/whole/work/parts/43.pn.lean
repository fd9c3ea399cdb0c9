/-! the class: the first day that is otherwise; on which day first -/
def foF (x : Tx) (b : Bk) (c : Nat → Int32) : Nat → Nat → Int32
  | 0, _ => -1
  | f + 1, i => if heB x (dI x noT b (i + 1)).1 = c i then foF x b c f (i + 1) else nI i
def fiF (x : Tx) (b : Bk) (sel : Bk → Int32) (o : Nat) : Nat → Nat → Int32
  | 0, _ => -1
  | f + 1, i => if bit (sel (dI x noT b (i + 1)).1) o = 1 then nI i else fiF x b sel o f (i + 1)
/-- one plain day of the thought, in the row of days -/
theorem p_dayI {K : yK} {M : yM} {b : Bk} {x : Tx} {i : Nat} (hK : KSh K) (hW : WX b) (hd : bDy b + i + 1 < 2000) (hB : BR M 25 (dI x noT b i).1) (hS : BS M 25 (dI x noT b i).1) (hX : xT K M (bLw b) x) (hx : TxW x) :
    ∃ M1 M2, b_X0_passDay K M 25 = some M1 ∧ b_X0_itself K M1 25 = some (itsB x (dI x noT b (i + 1)).1 (bE (dI x noT b (i + 1)).1), M2) ∧ b_X0_held K M2 25 (itsB x (dI x noT b (i + 1)).1 (bE (dI x noT b (i + 1)).1)) = some (heB x (dI x noT b (i + 1)).1) ∧ BR M2 25 (dI x noT b (i + 1)).1 ∧ BS M2 25 (dI x noT b (i + 1)).1 ∧ Fc M M2 := by
  have wi := dI_W (x := x) (T := noT) hW i (by omega)
  obtain ⟨M1, M2, a1, a2, a3, a4, a5, -, a7⟩ := p_day hK wi.1 (by rw [dI_D]; omega) hB hS (by rw [(dI_S x noT b i).2.2.2.2.2.2.2.2]; exact hX) hx
  exact ⟨M1, M2, a1, a2, a3, a4, a5, a7⟩
def isSh (s : Nat) : Prop := s < 4
theorem KSh.so {K : yK} (h : KSh K) {s : Nat} (hs : s < 4) : gO K (41 + 2 * s) 4 = true ∧ K.2.2 (41 + 2 * s) 0 = some (42 + 2 * s) ∧ isAr K (42 + 2 * s) 40 := by
  rcases (show s = 0 ∨ s = 1 ∨ s = 2 ∨ s = 3 by omega) with rfl | rfl | rfl | rfl
  · exact ⟨h.ob (by decide) rfl, h.rf (by decide) (by decide) rfl, h.ar (by decide) rfl⟩
  · exact ⟨h.ob (by decide) rfl, h.rf (by decide) (by decide) rfl, h.ar (by decide) rfl⟩
  · exact ⟨h.ob (by decide) rfl, h.rf (by decide) (by decide) rfl, h.ar (by decide) rfl⟩
  · exact ⟨h.ob (by decide) rfl, h.rf (by decide) (by decide) rfl, h.ar (by decide) rfl⟩
theorem p_first_loop {K : yK} {x : Tx} {b : Bk} {m s : Nat} {c : Nat → Int32} (hK : KSh K) (hs : s < 4) (hW : WX b) (hx : TxW x) (hm : m ≤ 40) (hd : bDy b ≤ 999) : ∀ (f n i : Nat) (M : yM), i + f = m → f < n → M (41 + 2 * s) 2 = nI m → (∀ j, j < m → M (42 + 2 * s) j = c j) → BR M 25 (dI x noT b i).1 → BS M 25 (dI x noT b i).1 → xT K M (bLw b) x →
    ∃ M', Fc M M' ∧ (Option.bind (b_X7_firstOtherwise_2 K 0 (41 + 2 * s) n M (nI i)) fun x9 => Sum.elim (fun j1 => (some ((-1 : Int32), j1))) (fun r9 => (some r9)) x9) = some (foF x b c f i, M') := by
  obtain ⟨s1, s2, s3⟩ := hK.so hs
  intro f
  induction f with
  | zero =>
    intro n i M hi hn h2 hc hB hS hX
    obtain ⟨n, rfl⟩ : ∃ k, n = k + 1 := ⟨n - 1, by omega⟩
    refine ⟨M, Fc.rf _, ?_⟩
    rw [b_X7_firstOtherwise_2, if_pos s1, h2, iteLe (by omega) (by omega), if_pos (by omega), Option.bind_some]
    rfl
  | succ f ih =>
    intro n i M hi hn h2 hc hB hS hX
    obtain ⟨n, rfl⟩ : ∃ k, n = k + 1 := ⟨n - 1, by omega⟩
    obtain ⟨M1, M2, a1, a2, a3, a4, a5, a7⟩ := p_dayI hK hW (by omega) hB hS hX hx
    rw [b_X7_firstOtherwise_2, if_pos s1, h2, iteLe (by omega) (by omega), if_neg (by omega), if_pos hK.o0, hK.r02, Option.bind_some, if_pos hK.o25, a1, Option.bind_some, a2, Option.bind_some]
    dsimp only
    rw [a3, Option.bind_some, s2, Option.bind_some, if_pos (gA_N s3 (by omega) (by omega)), nC (by omega), foF]
    have eM : M2 (42 + 2 * s) i = c i := by rw [a7 (42 + 2 * s) (by omega) (by omega) (by omega)]; exact hc i (by omega)
    by_cases z : heB x (dI x noT b (i + 1)).1 = c i
    · rw [if_pos (eM.symm ▸ z), if_pos z, Option.bind_some, incN]
      obtain ⟨M', r1, r2⟩ := ih n (i + 1) M2 (by omega) (by omega) (by rw [a7 _ (by omega) (by omega) (by omega)]; exact h2) (fun j hj => by rw [a7 _ (by omega) (by omega) (by omega)]; exact hc j hj) a4 a5 (a7.xT hX)
      exact ⟨M', a7.tr r1, r2⟩
    · rw [if_neg (eM.symm ▸ z), if_neg z, Option.bind_some]
      exact ⟨M2, a7, rfl⟩
theorem p_first {K : yK} {M : yM} {x : Tx} {b : Bk} {m s : Nat} {c : Nat → Int32} (hK : KSh K) (hs : s < 4) (hW : WX b) (hx : TxW x) (hm : m ≤ 40) (hd : bDy b ≤ 999) (h2 : M (41 + 2 * s) 2 = nI m) (hc : ∀ j, j < m → M (42 + 2 * s) j = c j) (hB : BR M 25 b) (hS : BS M 25 b) (hX : xT K M (bLw b) x) : ∃ M', b_X7_firstOtherwise K M 0 (41 + 2 * s) = some (foF x b c m 0, M') ∧ Fc M M' := by
  obtain ⟨M', r1, r2⟩ := p_first_loop hK hs hW hx hm hd m 1000 0 M (by omega) (by omega) h2 hc hB hS hX
  exact ⟨M', r2, r1⟩
def selW (sort : Int32) (x : Tx) (b : Bk) : Int32 := if sort = 0 then heB x b else hdB x b
theorem p_when_loop {K : yK} {x : Tx} {b : Bk} {m o : Nat} {sort : Int32} (hK : KSh K) (hW : WX b) (hx : TxW x) (hm : m ≤ 60) (hd : bDy b ≤ 999) : ∀ (f n i : Nat) (M : yM), i + f = m → f < n → BR M 25 (dI x noT b i).1 → BS M 25 (dI x noT b i).1 → xT K M (bLw b) x →
    ∃ M', Fc M M' ∧ (Option.bind (b_X7_when_66 K 0 sort (nI o) (nI m) n M (nI i)) fun x9 => Sum.elim (fun j18 => (some ((-1 : Int32), j18))) (fun r9 => (some r9)) x9) = some (fiF x b (selW sort x) o f i, M') := by
  intro f
  induction f with
  | zero =>
    intro n i M hi hn hB hS hX
    obtain ⟨n, rfl⟩ : ∃ k, n = k + 1 := ⟨n - 1, by omega⟩
    refine ⟨M, Fc.rf _, ?_⟩
    rw [b_X7_when_66, iteLe (by omega) (by omega), if_pos (by omega), Option.bind_some]
    rfl
  | succ f ih =>
    intro n i M hi hn hB hS hX
    obtain ⟨n, rfl⟩ : ∃ k, n = k + 1 := ⟨n - 1, by omega⟩
    obtain ⟨M1, M2, a1, a2, a3, a4, a5, a7⟩ := p_dayI hK hW (by omega) hB hS hX hx
    have w1 := (dI_W (x := x) (T := noT) hW (i + 1) (by omega)).1
    have a8 := p_canDo hK iB25 w1.1 a4 (heB x (dI x noT b (i + 1)).1)
    have ej : (if sort = 0 then (some (heB x (dI x noT b (i + 1)).1)) else (Option.bind (b_X0_canDo K M2 25 (heB x (dI x noT b (i + 1)).1)) fun r10 => (some r10))) = some (selW sort x (dI x noT b (i + 1)).1) := by
      unfold selW
      by_cases z : sort = 0
      · rw [if_pos z, if_pos z]
      · rw [if_neg z, if_neg z, a8, Option.bind_some]; rfl
    rw [b_X7_when_66, iteLe (by omega) (by omega), if_neg (by omega), if_pos hK.o0, hK.r02, Option.bind_some, if_pos hK.o25, a1, Option.bind_some, a2, Option.bind_some]
    dsimp only
    rw [a3, Option.bind_some, ej, Option.bind_some, fiF]
    by_cases z : bit (selW sort x (dI x noT b (i + 1)).1) o = 1
    · rw [if_pos z, if_pos z, Option.bind_some]
      exact ⟨M2, a7, rfl⟩
    · rw [if_neg z, if_neg z, Option.bind_some, incN]
      obtain ⟨M', r1, r2⟩ := ih n (i + 1) M2 (by omega) (by omega) a4 a5 (a7.xT hX)
      exact ⟨M', a7.tr r1, r2⟩
/-- the watched, by the model -/
theorem fS_is {x : Tx} {b : Bk} {sel : Bk → Int32} {o : Nat} (ho : o < 1000) : ∀ (f i : Nat), i + f < 1000 → (fS x noT b (nI o) sel i = -1 → fS x noT b (nI o) sel (i + f) = fiF x b sel o f i) ∧ (∀ c, c ≠ -1 → fS x noT b (nI o) sel i = c → fS x noT b (nI o) sel (i + f) = c) := by
  intro f
  induction f with
  | zero => exact fun i _ => ⟨fun h => h, fun c _ h => h⟩
  | succ f ih =>
    intro i hi
    have e : i + (f + 1) = i + 1 + f := by omega
    have ho1 : ¬ nI o = -1 := by rw [i_eq, nJ (by omega), i_m1]; omega
    have hi1 : nI i ≠ -1 := by
      intro h
      rw [i_eq, nJ (by omega), i_m1] at h
      omega
    refine ⟨fun h => ?_, fun c hc h => ?_⟩
    · rw [e, fiF]
      by_cases z : bit (sel (dI x noT b (i + 1)).1) o = 1
      · rw [if_pos z]
        refine (ih (i + 1) (by omega)).2 _ hi1 ?_
        show wtF (fS x noT b (nI o) sel i) (nI o) (nI i) (sel (dI x noT b (i + 1)).1) = nI i
        unfold wtF
        rw [if_pos h, if_neg ho1, nC (by omega), if_pos z]
      · rw [if_neg z]
        refine (ih (i + 1) (by omega)).1 ?_
        show wtF (fS x noT b (nI o) sel i) (nI o) (nI i) (sel (dI x noT b (i + 1)).1) = -1
        unfold wtF
        rw [if_pos h, if_neg ho1, nC (by omega), if_neg z]
        exact h
    · rw [e]
      refine (ih (i + 1) (by omega)).2 c hc ?_
      show wtF (fS x noT b (nI o) sel i) (nI o) (nI i) (sel (dI x noT b (i + 1)).1) = c
      unfold wtF
      rw [if_neg (by rw [h]; exact hc)]
      exact h
theorem fS_fi {x : Tx} {b : Bk} {sel : Bk → Int32} {o m : Nat} (ho : o < 1000) (hm : m < 1000) : fS x noT b (nI o) sel m = fiF x b sel o m 0 := by
  have := (fS_is (x := x) (b := b) (sel := sel) ho m 0 (by omega)).1 rfl
  rw [show 0 + m = m by omega] at this
  exact this
