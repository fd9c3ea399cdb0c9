theorem q_byThemselves_loop {K : yK} {b : Bk} {x : Tx} (hK : KSh K) (hW : WX b) (hx : TxW x) : ∀ (f n w : Nat) (M : yM), MR M b → MT M (bLw b) x → w + f = bE b → f < n → ∃ M', b_X8_byThemselves_4 K 50 n M (itsB x b w) (nI w) = some (itsB x b (bE b), M') ∧ ∀ q, q ≠ 67 → q ≠ 68 → M' q = M q := by
  have h12 := hW.1.1
  intro f
  induction f with
  | zero =>
    intro n w M hB hX hw hn
    obtain ⟨n, rfl⟩ : ∃ z, n = z + 1 := ⟨n - 1, by omega⟩
    refine ⟨M, ?_, fun _ _ _ => rfl⟩
    rw [b_X8_byThemselves_4, if_pos hK.mo, hB.1.1, iteLe (by omega) (by omega), if_pos (by omega), show w = bE b by omega]
  | succ f ih =>
    intro n w M hB hX hw hn
    obtain ⟨n, rfl⟩ : ∃ z, n = z + 1 := ⟨n - 1, by omega⟩
    obtain ⟨M1, s1, s2⟩ := q_holdsItself (w := w) hK hW hB hX hx (by omega)
    obtain ⟨M', e1, e2⟩ := ih n (w + 1) M1 (hB.cg (fun q h1 h2 => s2 q (by omega) (by omega))) (hX.cg (s2 57 (by decide) (by decide)) (s2 56 (by decide) (by decide))) (by omega) (by omega)
    refine ⟨M', ?_, fun q h5 h6 => by rw [e2 q h5 h6, s2 q h5 h6]⟩
    have e3 : itsB x b (w + 1) = itsB x b w ||| (if hoB x b w = true then sh1 w else 0) := rfl
    rw [b_X8_byThemselves_4, if_pos hK.mo, hB.1.1, iteLe (by omega) (by omega), if_neg (by omega), s1, Option.bind_some]
    dsimp only
    cases hh : hoB x b w with
    | true =>
      rw [hh, if_pos rfl] at e3
      rw [if_pos rfl, Option.bind_some, Option.bind_some, incN, Option.bind_some, show itsB x b w ||| (1 : Int32) <<< (nI w &&& 31) = itsB x b (w + 1) from e3.symm]
      exact e1
    | false =>
      rw [hh, if_neg (by decide)] at e3
      rw [if_neg (by decide), Option.bind_some, Option.bind_some, incN, Option.bind_some, ← e3]
      exact e1
theorem q_byThemselves {K : yK} {M : yM} {b : Bk} {x : Tx} (hK : KSh K) (hW : WX b) (hB : MR M b) (hX : MT M (bLw b) x) (hx : TxW x) : ∃ M', b_X8_byThemselves K M 50 = some (itsB x b (bE b), M') ∧ ∀ q, q ≠ 67 → q ≠ 68 → M' q = M q := by
  obtain ⟨M', e1, e2⟩ := q_byThemselves_loop hK hW hx (bE b) 1000 0 M hB hX (by omega) (by have := hW.1.1; omega)
  refine ⟨M', ?_, e2⟩
  unfold b_X8_byThemselves
  rw [show b_X8_byThemselves_4 K 50 1000 M 0 0 = some (itsB x b (bE b), M') from e1, Option.bind_some]
/-- what HOLDS, of what holds by itself -/
def heF (b : Bk) (s : Int32) : Nat → Int32
  | 0 => 0
  | w + 1 => heF b s w ||| (if chB b w &&& (s ^^^ (-1 : Int32)) = 0 then sh1 w else 0)
def heB (x : Tx) (b : Bk) : Int32 := heF b (itsB x b (bE b)) (bE b)
theorem p_held {K : yK} {M : yM} {t : Nat} {b : Bk} (hK : KSh K) (ht : isB t) (hW : WB b) (hB : BR M t b) (hS : BS M t b) (s : Int32) : b_X0_held K M t s = some (heF b s (bE b)) := by
  have h12 := hW.1
  have hl : ∀ (f n w : Nat), w + f = bE b → f < n → b_X0_held_4 K M t s n (heF b s w) (nI w) = some (heF b s (bE b)) := by
    intro f
    induction f with
    | zero =>
      intro n w hw hn
      obtain ⟨n, rfl⟩ : ∃ z, n = z + 1 := ⟨n - 1, by omega⟩
      rw [b_X0_held_4, if_pos (hK.bo ht), hB.1.1, iteLe (by omega) (by omega), if_pos (by omega), show w = bE b by omega]
    | succ f ih =>
      intro n w hw hn
      obtain ⟨n, rfl⟩ : ∃ z, n = z + 1 := ⟨n - 1, by omega⟩
      have e3 : heF b s (w + 1) = heF b s w ||| (if chB b w &&& (s ^^^ (-1 : Int32)) = 0 then sh1 w else 0) := rfl
      rw [b_X0_held_4, if_pos (hK.bo ht), hB.1.1, iteLe (by omega) (by omega), if_neg (by omega), hK.br ht (f := 6) (by omega), Option.bind_some, show t + 1 + 6 = t + 7 by omega, if_pos (gA_N (hK.b7 ht) (by omega) (by omega)), nC (by omega), hS.2 w (by omega)]
      by_cases c : chB b w &&& (s ^^^ (-1 : Int32)) = 0
      · rw [if_pos c] at e3
        rw [if_pos c, Option.bind_some, Option.bind_some, incN, Option.bind_some, show heF b s w ||| (1 : Int32) <<< (nI w &&& 31) = heF b s (w + 1) from e3.symm]
        exact ih n (w + 1) (by omega) (by omega)
      · rw [if_neg c, orI_0] at e3
        rw [if_neg c, Option.bind_some, incN, Option.bind_some, ← e3]
        exact ih n (w + 1) (by omega) (by omega)
  unfold b_X0_held
  rw [show b_X0_held_4 K M t s 1000 0 0 = some (heF b s (bE b)) from hl (bE b) 1000 0 (by omega) (by omega), Option.bind_some]
theorem q_holding {K : yK} {M : yM} {b : Bk} {x : Tx} (hK : KSh K) (hW : WX b) (hB : MR M b) (hX : MT M (bLw b) x) (hx : TxW x) : ∃ M', b_X8_holding K M 50 = some (heB x b, M') ∧ ∀ q, q ≠ 67 → q ≠ 68 → M' q = M q := by
  have h12 := hW.1.1
  obtain ⟨M1, s1, s2⟩ := q_byThemselves hK hW hB hX hx
  have hB1 : MR M1 b := hB.cg (fun q h1 h2 => s2 q (by omega) (by omega))
  generalize hs : itsB x b (bE b) = s at s1
  have hl : ∀ (f n w : Nat), w + f = bE b → f < n → b_X8_holding_9 K M1 50 s n (heF b s w) (nI w) = some (heF b s (bE b)) := by
    intro f
    induction f with
    | zero =>
      intro n w hw hn
      obtain ⟨n, rfl⟩ : ∃ z, n = z + 1 := ⟨n - 1, by omega⟩
      rw [b_X8_holding_9, if_pos hK.mo, hB1.1.1, iteLe (by omega) (by omega), if_pos (by omega), show w = bE b by omega]
    | succ f ih =>
      intro n w hw hn
      obtain ⟨n, rfl⟩ : ∃ z, n = z + 1 := ⟨n - 1, by omega⟩
      have e3 : heF b s (w + 1) = heF b s w ||| (if chB b w &&& (s ^^^ (-1 : Int32)) = 0 then sh1 w else 0) := rfl
      rw [b_X8_holding_9, if_pos hK.mo, hB1.1.1, iteLe (by omega) (by omega), if_neg (by omega), q_chainOf hK hW.1 hB1.me (by omega), Option.bind_some]
      by_cases c : chB b w &&& (s ^^^ (-1 : Int32)) = 0
      · rw [if_pos c] at e3
        rw [if_pos c, Option.bind_some, Option.bind_some, incN, Option.bind_some, show heF b s w ||| (1 : Int32) <<< (nI w &&& 31) = heF b s (w + 1) from e3.symm]
        exact ih n (w + 1) (by omega) (by omega)
      · rw [if_neg c] at e3
        rw [if_neg c, Option.bind_some, Option.bind_some, incN, Option.bind_some, ← e3]
        exact ih n (w + 1) (by omega) (by omega)
  refine ⟨M1, ?_, s2⟩
  unfold b_X8_holding heB
  rw [if_pos hK.mo, s1, Option.bind_some, hs]
  dsimp only
  rw [show b_X8_holding_9 K M1 50 s 1000 0 0 = some (heF b s (bE b)) from hl (bE b) 1000 0 (by omega) (by omega), Option.bind_some]
/-- DEEDS that can be DONE -/
def caF (b : Bk) (s : Int32) : Nat → Int32
  | 0 => 0
  | d + 1 => caF b s d ||| (if bDs b d &&& (s ^^^ (-1 : Int32)) = 0 then sh1 d else 0)
theorem p_canDo {K : yK} {M : yM} {t : Nat} {b : Bk} (hK : KSh K) (ht : isB t) (hW : WB b) (hB : BR M t b) (s : Int32) : b_X0_canDo K M t s = some (caF b s (bDn b)) := by
  have h6 : bDn b ≤ 6 := hW.2.2.1
  have hl : ∀ (f n w : Nat), w + f = bDn b → f < n → b_X0_canDo_4 K M t s n (caF b s w) (nI w) = some (caF b s (bDn b)) := by
    intro f
    induction f with
    | zero =>
      intro n w hw hn
      obtain ⟨n, rfl⟩ : ∃ z, n = z + 1 := ⟨n - 1, by omega⟩
      rw [b_X0_canDo_4, if_pos (hK.bo ht), hB.1.2.1, iteLe (by omega) (by omega), if_pos (by omega), show w = bDn b by omega]
    | succ f ih =>
      intro n w hw hn
      obtain ⟨n, rfl⟩ : ∃ z, n = z + 1 := ⟨n - 1, by omega⟩
      have e3 : caF b s (w + 1) = caF b s w ||| (if bDs b w &&& (s ^^^ (-1 : Int32)) = 0 then sh1 w else 0) := rfl
      rw [b_X0_canDo_4, if_pos (hK.bo ht), hB.1.2.1, iteLe (by omega) (by omega), if_neg (by omega), hK.br ht (f := 7) (by omega), Option.bind_some, show t + 1 + 7 = t + 8 by omega, if_pos (gA_N (hK.b8 ht) (by omega) (by omega)), nC (by omega), hB.2.2 w (by omega)]
      by_cases c : bDs b w &&& (s ^^^ (-1 : Int32)) = 0
      · rw [if_pos c] at e3
        rw [if_pos c, Option.bind_some, Option.bind_some, incN, Option.bind_some, show caF b s w ||| (1 : Int32) <<< (nI w &&& 31) = caF b s (w + 1) from e3.symm]
        exact ih n (w + 1) (by omega) (by omega)
      · rw [if_neg c, orI_0] at e3
        rw [if_neg c, Option.bind_some, incN, Option.bind_some, ← e3]
        exact ih n (w + 1) (by omega) (by omega)
  unfold b_X0_canDo
  rw [show b_X0_canDo_4 K M t s 1000 0 0 = some (caF b s (bDn b)) from hl (bDn b) 1000 0 (by omega) (by omega), Option.bind_some]
theorem q_doneBy {K : yK} {M : yM} {b : Bk} (hK : KSh K) (hW : WB b) (hB : MR M b) (s : Int32) : b_X8_doneBy K M 50 s = some (caF b s (bDn b)) := by
  have h6 : bDn b ≤ 6 := hW.2.2.1
  have hl : ∀ (f n w : Nat), w + f = bDn b → f < n → b_X8_doneBy_4 K M 50 s n (caF b s w) (nI w) = some (caF b s (bDn b)) := by
    intro f
    induction f with
    | zero =>
      intro n w hw hn
      obtain ⟨n, rfl⟩ : ∃ z, n = z + 1 := ⟨n - 1, by omega⟩
      rw [b_X8_doneBy_4, if_pos hK.mo, hB.1.2.1, iteLe (by omega) (by omega), if_pos (by omega), show w = bDn b by omega]
    | succ f ih =>
      intro n w hw hn
      obtain ⟨n, rfl⟩ : ∃ z, n = z + 1 := ⟨n - 1, by omega⟩
      have e3 : caF b s (w + 1) = caF b s w ||| (if bDs b w &&& (s ^^^ (-1 : Int32)) = 0 then sh1 w else 0) := rfl
      rw [b_X8_doneBy_4, if_pos hK.mo, hB.1.2.1, iteLe (by omega) (by omega), if_neg (by omega), hK.mr (f := 5) rfl, Option.bind_some, if_pos (gA_N (hK.ar (p := 54) (n := 6) (by decide) rfl) (by omega) (by omega)), nC (by omega), hB.2.2 w (by omega)]
      by_cases c : bDs b w &&& (s ^^^ (-1 : Int32)) = 0
      · rw [if_pos c] at e3
        rw [if_pos c, Option.bind_some, Option.bind_some, incN, Option.bind_some, show caF b s w ||| (1 : Int32) <<< (nI w &&& 31) = caF b s (w + 1) from e3.symm]
        exact ih n (w + 1) (by omega) (by omega)
      · rw [if_neg c] at e3
        rw [if_neg c, Option.bind_some, Option.bind_some, incN, Option.bind_some, ← e3]
        exact ih n (w + 1) (by omega) (by omega)
  unfold b_X8_doneBy
  rw [show b_X8_doneBy_4 K M 50 s 1000 0 0 = some (caF b s (bDn b)) from hl (bDn b) 1000 0 (by omega) (by omega), Option.bind_some]
