/-! one call of the law, both sides -/
def OKs (j : Nat) (o : Option (Int32 × yK × yM)) : Prop := ∃ r, o = some r ∧ r.1 = nI (j + 7) ∧ IE r.2.1 r.2.2
theorem okIf {j : Nat} {c : Prop} [Decidable c] {a b : Option (Int32 × yK × yM)} (h1 : c → OKs j a) (h2 : ¬ c → OKs j b) : OKs j (if c then a else b) := by
  by_cases h : c
  · rw [if_pos h]; exact h1 h
  · rw [if_neg h]; exact h2 h
theorem okG {j : Nat} {c : Prop} [Decidable c] {a b : Option (Int32 × yK × yM)} (h : c) (h1 : OKs j a) : OKs j (if c then a else b) := by
  rw [if_pos h]; exact h1
theorem okE {j : Nat} {K : yK} {M : yM} (h : IE K M) : OKs j (Option.bind (some (nI j + (7 : Int32))) fun v => (some (v, K, M))) := ⟨(nI j + 7, K, M), rfl, addN j 7, h⟩
theorem okAL {j : Nat} {K : yK} {M : yM} {p q : yM → Option (Int32 × yM)} (hK : KSh K) (h : AL K p q M) : OKs j (if gO K 0 6 = true then (Option.bind (p M) fun r => (if gO K 50 7 = true then (Option.bind (q r.2) fun s => (if r.1 = s.1 then (Option.bind (some (nI j + (7 : Int32))) fun v => (some (v, K, s.2))) else none)) else none)) else none) := by
  obtain ⟨r, M1, M2, h1, h2, h3⟩ := h
  rw [if_pos hK.o0, h1, Option.bind_some]
  dsimp only
  rw [if_pos hK.mo, h2, Option.bind_some]
  dsimp only
  rw [if_pos rfl]
  exact okE h3
theorem okAP {j : Nat} {K : yK} {M : yM} {p q : Option Int32} (hK : KSh K) (hI : IE K M) (h : AP p q) : OKs j (if gO K 0 6 = true then (Option.bind p fun r => (if gO K 50 7 = true then (Option.bind q fun s => (if r = s then (Option.bind (some (nI j + (7 : Int32))) fun v => (some (v, K, M))) else none)) else none)) else none) := by
  obtain ⟨r, h1, h2⟩ := h
  rw [if_pos hK.o0, h1, Option.bind_some, if_pos hK.mo, h2, Option.bind_some, if_pos rfl]
  exact okE hI
theorem lgc (a : Int64) : lg_cmp a a = 0 := by
  unfold lg_cmp
  rw [if_neg (Int64.lt_irrefl), if_pos rfl]
theorem okAL6 {j : Nat} {K : yK} {M : yM} {p q : yM → Option (Int64 × yM)} (hK : KSh K) (h : AL K p q M) : OKs j (if gO K 0 6 = true then (Option.bind (p M) fun r => (if gO K 50 7 = true then (Option.bind (q r.2) fun s => (if (lg_cmp r.1 s.1) = 0 then (Option.bind (some (nI j + (7 : Int32))) fun v => (some (v, K, s.2))) else none)) else none)) else none) := by
  obtain ⟨r, M1, M2, h1, h2, h3⟩ := h
  rw [if_pos hK.o0, h1, Option.bind_some]
  dsimp only
  rw [if_pos hK.mo, h2, Option.bind_some]
  dsimp only
  rw [if_pos (lgc r)]
  exact okE h3
theorem okAP6 {j : Nat} {K : yK} {M : yM} {p q : Option Int64} (hK : KSh K) (hI : IE K M) (h : AP p q) : OKs j (if gO K 0 6 = true then (Option.bind p fun r => (if gO K 50 7 = true then (Option.bind q fun s => (if (lg_cmp r s) = 0 then (Option.bind (some (nI j + (7 : Int32))) fun v => (some (v, K, M))) else none)) else none)) else none) := by
  obtain ⟨r, h1, h2⟩ := h
  rw [if_pos hK.o0, h1, Option.bind_some, if_pos hK.mo, h2, Option.bind_some, if_pos (lgc r)]
  exact okE hI
theorem ixG {j k Ln : Nat} (h : j + k < Ln) (hL : Ln ≤ 3584) : ¬ (nI j + nI k) < 0 ∧ (nI j + nI k).toNatClampNeg < Ln := by
  rw [addN, nC (by omega)]
  exact ⟨nI_pos (by omega), h⟩
theorem ixG0 {j Ln : Nat} (h : j < Ln) (hL : Ln ≤ 3584) : ¬ nI j < 0 ∧ (nI j).toNatClampNeg < Ln := by
  rw [nC (by omega)]
  exact ⟨nI_pos (by omega), h⟩
set_option maxHeartbeats 4000000 in
set_option maxRecDepth 10000 in
theorem p_step (xs : Nat → Int32) (Ln : Nat) (K : yK) (M : yM) (j : Nat) (hI : IE K M) (h1 : j + 7 ≤ Ln) (h2 : Ln ≤ 3584) : OKs j (b_law_it xs Ln K M 0 50 (nI j)) := by
  have hIE := hI
  obtain ⟨b, ib, im, tn, ts, tx, tp, so, sz, ce, h⟩ := hI
  have hK : KSh K := h.1.1.1
  have g1 : ¬ (nI j + (1 : Int32)) < 0 ∧ (nI j + (1 : Int32)).toNatClampNeg < Ln := ixG (k := 1) (by omega) h2
  have g2 : ¬ (nI j + (2 : Int32)) < 0 ∧ (nI j + (2 : Int32)).toNatClampNeg < Ln := ixG (k := 2) (by omega) h2
  have g3 : ¬ (nI j + (3 : Int32)) < 0 ∧ (nI j + (3 : Int32)).toNatClampNeg < Ln := ixG (k := 3) (by omega) h2
  have g4 : ¬ (nI j + (4 : Int32)) < 0 ∧ (nI j + (4 : Int32)).toNatClampNeg < Ln := ixG (k := 4) (by omega) h2
  have g5 : ¬ (nI j + (5 : Int32)) < 0 ∧ (nI j + (5 : Int32)).toNatClampNeg < Ln := ixG (k := 5) (by omega) h2
  have g6 : ¬ (nI j + (6 : Int32)) < 0 ∧ (nI j + (6 : Int32)).toNatClampNeg < Ln := ixG (k := 6) (by omega) h2
  unfold b_law_it
  refine okG (ixG0 (by omega) h2) ?_
  refine okIf (fun _ => ?_) (fun _ => ?_)
  · refine okG g1 ?_
    exact okAP hK hIE (a_count h (xs (nI j + (1 : Int32)).toNatClampNeg))
  refine okIf (fun _ => ?_) (fun _ => ?_)
  · refine okG g1 ?_
    refine okG g2 ?_
    exact okAL hK (a_set h (xs (nI j + (1 : Int32)).toNatClampNeg) (xs (nI j + (2 : Int32)).toNatClampNeg))
  refine okIf (fun _ => ?_) (fun _ => ?_)
  · refine okG g1 ?_
    refine okG g2 ?_
    refine okG g3 ?_
    refine okG g4 ?_
    refine okG g5 ?_
    refine okG g6 ?_
    exact okAL hK (a_feed h (xs (nI j + (1 : Int32)).toNatClampNeg) (xs (nI j + (2 : Int32)).toNatClampNeg) (xs (nI j + (3 : Int32)).toNatClampNeg) (xs (nI j + (4 : Int32)).toNatClampNeg) (xs (nI j + (5 : Int32)).toNatClampNeg) (xs (nI j + (6 : Int32)).toNatClampNeg))
  refine okIf (fun _ => ?_) (fun _ => ?_)
  · obtain ⟨r, K', M1, M2, e1, e2, e3, e4, e5⟩ := a_text h
    have h200 := hK.2.1
    have h71 := hK.1
    rw [if_pos hK.o0, if_pos (by omega), if_pos (by omega), e1, Option.bind_some]
    dsimp only
    rw [if_pos e3, if_pos e4, e2, Option.bind_some]
    dsimp only
    rw [if_pos rfl]
    exact okE e5
  refine okIf (fun _ => ?_) (fun _ => ?_)
  · refine okG g1 ?_
    exact okAL hK (a_force h (xs (nI j + (1 : Int32)).toNatClampNeg))
  refine okIf (fun _ => ?_) (fun _ => ?_)
  · refine okG g1 ?_
    refine okG g2 ?_
    refine okG g3 ?_
    refine okG g4 ?_
    exact okAL hK (a_asks h (xs (nI j + (1 : Int32)).toNatClampNeg) (xs (nI j + (2 : Int32)).toNatClampNeg) (xs (nI j + (3 : Int32)).toNatClampNeg) (xs (nI j + (4 : Int32)).toNatClampNeg))
  refine okIf (fun _ => ?_) (fun _ => ?_)
  · refine okG g1 ?_
    refine okG g2 ?_
    refine okG g3 ?_
    exact okAL hK (a_word h (xs (nI j + (1 : Int32)).toNatClampNeg) (xs (nI j + (2 : Int32)).toNatClampNeg) (xs (nI j + (3 : Int32)).toNatClampNeg))
  refine okIf (fun _ => ?_) (fun _ => ?_)
  · refine okG g1 ?_
    refine okG g2 ?_
    exact okAP hK hIE (a_told h (xs (nI j + (1 : Int32)).toNatClampNeg) (xs (nI j + (2 : Int32)).toNatClampNeg))
  refine okIf (fun _ => ?_) (fun _ => ?_)
  · refine okG g1 ?_
    refine okG g2 ?_
    refine okG g3 ?_
    exact okAL hK (a_put h (xs (nI j + (1 : Int32)).toNatClampNeg) (xs (nI j + (2 : Int32)).toNatClampNeg) (xs (nI j + (3 : Int32)).toNatClampNeg))
  refine okIf (fun _ => ?_) (fun _ => ?_)
  · exact okAL hK (a_live h)
  refine okIf (fun _ => ?_) (fun _ => ?_)
  · refine okG g1 ?_
    exact okAL hK (a_now h (xs (nI j + (1 : Int32)).toNatClampNeg))
  refine okIf (fun _ => ?_) (fun _ => ?_)
  · refine okG g1 ?_
    exact okAL hK (a_deed h (xs (nI j + (1 : Int32)).toNatClampNeg))
  refine okIf (fun _ => ?_) (fun _ => ?_)
  · refine okG g1 ?_
    exact okAP hK hIE (a_needs h (xs (nI j + (1 : Int32)).toNatClampNeg))
  refine okIf (fun _ => ?_) (fun _ => ?_)
  · refine okG g1 ?_
    exact okAL hK (a_done h (xs (nI j + (1 : Int32)).toNatClampNeg))
  refine okIf (fun _ => ?_) (fun _ => ?_)
  · refine okG g1 ?_
    refine okG g2 ?_
    exact okAL hK (a_run h (xs (nI j + (1 : Int32)).toNatClampNeg) (xs (nI j + (2 : Int32)).toNatClampNeg))
  refine okIf (fun _ => ?_) (fun _ => ?_)
  · refine okG g1 ?_
    refine okG g2 ?_
    refine okG g3 ?_
    exact okAL hK (a_when h (xs (nI j + (1 : Int32)).toNatClampNeg) (xs (nI j + (2 : Int32)).toNatClampNeg) (xs (nI j + (3 : Int32)).toNatClampNeg))
  refine okIf (fun _ => ?_) (fun _ => ?_)
  · refine okG g1 ?_
    refine okG g2 ?_
    exact okAL hK (a_begin h (xs (nI j + (1 : Int32)).toNatClampNeg) (xs (nI j + (2 : Int32)).toNatClampNeg))
  refine okIf (fun _ => ?_) (fun _ => ?_)
  · refine okG g1 ?_
    refine okG g2 ?_
    exact okAL hK (a_lobby h (xs (nI j + (1 : Int32)).toNatClampNeg) (xs (nI j + (2 : Int32)).toNatClampNeg))
  refine okIf (fun _ => ?_) (fun _ => ?_)
  · refine okG g1 ?_
    refine okG g2 ?_
    exact okAL hK (a_soup h (xs (nI j + (1 : Int32)).toNatClampNeg) (xs (nI j + (2 : Int32)).toNatClampNeg))
  refine okIf (fun _ => ?_) (fun _ => ?_)
  · refine okG g1 ?_
    refine okG g2 ?_
    refine okG g3 ?_
    exact okAL hK (a_road h (xs (nI j + (1 : Int32)).toNatClampNeg) (xs (nI j + (2 : Int32)).toNatClampNeg) (xs (nI j + (3 : Int32)).toNatClampNeg))
  refine okIf (fun _ => ?_) (fun _ => ?_)
  · refine okG g1 ?_
    exact okAP hK hIE (a_chain h (xs (nI j + (1 : Int32)).toNatClampNeg))
  refine okIf (fun _ => ?_) (fun _ => ?_)
  · exact okAP hK hIE (a_rings h)
  refine okIf (fun _ => ?_) (fun _ => ?_)
  · refine okG g1 ?_
    exact okAP hK hIE (a_longest h (xs (nI j + (1 : Int32)).toNatClampNeg))
  refine okIf (fun _ => ?_) (fun _ => ?_)
  · refine okG g1 ?_
    exact okAL hK (a_judge h (xs (nI j + (1 : Int32)).toNatClampNeg))
  refine okIf (fun _ => ?_) (fun _ => ?_)
  · refine okG g1 ?_
    exact okAL hK (a_begins h (xs (nI j + (1 : Int32)).toNatClampNeg))
  refine okIf (fun _ => ?_) (fun _ => ?_)
  · refine okG g1 ?_
    refine okG g2 ?_
    refine okG g3 ?_
    exact okAL hK (a_kinds h (xs (nI j + (1 : Int32)).toNatClampNeg) (xs (nI j + (2 : Int32)).toNatClampNeg) (xs (nI j + (3 : Int32)).toNatClampNeg))
  refine okIf (fun _ => ?_) (fun _ => ?_)
  · refine okG g1 ?_
    exact okAL hK (a_skipped h (xs (nI j + (1 : Int32)).toNatClampNeg))
  refine okIf (fun _ => ?_) (fun _ => ?_)
  · refine okG g1 ?_
    exact okAL hK (a_laws h (xs (nI j + (1 : Int32)).toNatClampNeg))
  refine okIf (fun _ => ?_) (fun _ => ?_)
  · refine okG g1 ?_
    refine okG g2 ?_
    exact okAL hK (a_film h (xs (nI j + (1 : Int32)).toNatClampNeg) (xs (nI j + (2 : Int32)).toNatClampNeg))
  refine okIf (fun _ => ?_) (fun _ => ?_)
  · refine okG g1 ?_
    refine okG g2 ?_
    refine okG g3 ?_
    exact okAL hK (a_drawn h (xs (nI j + (1 : Int32)).toNatClampNeg) (xs (nI j + (2 : Int32)).toNatClampNeg) (xs (nI j + (3 : Int32)).toNatClampNeg))
  refine okIf (fun _ => ?_) (fun _ => ?_)
  · refine okG g1 ?_
    refine okG g2 ?_
    refine okG g3 ?_
    refine okG g4 ?_
    refine okG g5 ?_
    exact okAL6 hK (a_odds h (xs (nI j + (1 : Int32)).toNatClampNeg) (xs (nI j + (2 : Int32)).toNatClampNeg) (xs (nI j + (3 : Int32)).toNatClampNeg) (xs (nI j + (4 : Int32)).toNatClampNeg) (xs (nI j + (5 : Int32)).toNatClampNeg))
  refine okIf (fun _ => ?_) (fun _ => ?_)
  · exact okAL hK (a_image h)
  refine okIf (fun _ => ?_) (fun _ => ?_)
  · exact okAL hK (a_back h)
  refine okIf (fun _ => ?_) (fun _ => ?_)
  · refine okG g1 ?_
    refine okG g2 ?_
    refine okG g3 ?_
    exact okAL hK (a_sheet h (xs (nI j + (1 : Int32)).toNatClampNeg) (xs (nI j + (2 : Int32)).toNatClampNeg) (xs (nI j + (3 : Int32)).toNatClampNeg))
  refine okIf (fun _ => ?_) (fun _ => ?_)
  · refine okG g1 ?_
    refine okG g2 ?_
    refine okG g3 ?_
    exact okAL hK (a_cell h (xs (nI j + (1 : Int32)).toNatClampNeg) (xs (nI j + (2 : Int32)).toNatClampNeg) (xs (nI j + (3 : Int32)).toNatClampNeg))
  refine okIf (fun _ => ?_) (fun _ => ?_)
  · refine okG g1 ?_
    refine okG g2 ?_
    refine okG g3 ?_
    refine okG g4 ?_
    refine okG g5 ?_
    exact okAL hK (a_copy h (xs (nI j + (1 : Int32)).toNatClampNeg) (xs (nI j + (2 : Int32)).toNatClampNeg) (xs (nI j + (3 : Int32)).toNatClampNeg) (xs (nI j + (4 : Int32)).toNatClampNeg) (xs (nI j + (5 : Int32)).toNatClampNeg))
  refine okIf (fun _ => ?_) (fun _ => ?_)
  · refine okG g1 ?_
    refine okG g2 ?_
    refine okG g3 ?_
    refine okG g4 ?_
    exact okAL hK (a_wordsBy h (xs (nI j + (1 : Int32)).toNatClampNeg) (xs (nI j + (2 : Int32)).toNatClampNeg) (xs (nI j + (3 : Int32)).toNatClampNeg) (xs (nI j + (4 : Int32)).toNatClampNeg))
  refine okIf (fun _ => ?_) (fun _ => ?_)
  · refine okG g1 ?_
    refine okG g2 ?_
    exact okAP6 hK hIE (a_taken h (xs (nI j + (1 : Int32)).toNatClampNeg) (xs (nI j + (2 : Int32)).toNatClampNeg))
  exact okE hIE
