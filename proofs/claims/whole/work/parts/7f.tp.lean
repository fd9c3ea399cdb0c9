def txt0 : List Nat := [114, 101, 97, 100, 115, 32, 49, 48, 32, 59, 32, 104, 111, 108, 100, 115, 32, 49, 32, 59, 32, 119, 111, 114, 116, 104, 32, 53, 32, 43, 32, 119, 111, 114, 100, 115, 32, 59]
def v0 (i : Nat) : Nat := txt0.getD i 0 % 256
theorem v0_B : VB v0 := fun _ => Nat.mod_lt _ (by decide)
theorem rAll {n : Nat} {f : Nat → Bool} (h : (List.range n).all f = true) : ∀ i, i < n → f i = true := fun i hi => List.all_eq_true.mp h i (List.mem_range.mpr hi)
def ckA (K : yK) : Bool := decide (K.1 = 71 ∧ K.2.2 1 0 = some 3) && (List.range 71).all (fun p => decide (K.2.1 p = kdT.getD p (0, 0)))
def ckR (K : yK) : Bool := (List.range 71).all (fun p => decide (p = 1) || (List.range 42).all (fun f => decide (K.2.2 p f = rfT p f)))
def ckB (M : yM) : Bool := decide (((M 7 8 = 0 ∧ M 7 9 = 0 ∧ M 7 10 = 0 ∧ M 7 11 = 0 ∧ M 7 12 = -1 ∧ M 7 13 = 0 ∧ M 7 14 = 0 ∧ M 7 15 = 0) ∧ M 13 0 = 0) ∧
  (M 0 6 = 0 ∧ M 0 7 = 1 ∧ M 0 8 = 0) ∧ (M 3 1 = 1 ∧ M 3 2 = 2 ∧ M 2 0 = 10 ∧ M 2 1 = 1 ∧ M 2 2 = 5 ∧ M 2 3 = -266 ∧ M 2 4 = -43))
def ckC (M : yM) : Bool := (List.range 4).all (fun s => decide (M (41 + 2 * s) 1 = -1 ∧ M (41 + 2 * s) 2 = 0)) && decide ((M 50 0 = 0 ∧ M 50 4 = 0 ∧ M 50 6 = 0 ∧ M 50 7 = 0 ∧ M 50 8 = -1 ∧ M 50 9 = 0 ∧ M 50 10 = 0 ∧ M 50 16 = 0) ∧ (M 50 49 = -1 ∧ M 50 50 = -1 ∧ M 50 12 = 38 ∧ M 50 15 = 0 ∧ M 50 17 = 0))
def ckD (M : yM) : Bool := (List.range 38).all (fun i => decide (M 55 i = nI (v0 i))) && ((List.range 96).all (fun i => decide (M 65 i = wds.getD i 0)) && (List.range 4).all (fun s => decide (M 61 s = -1 ∧ M 62 s = 0)))
def oB (o : Option (yK × yM)) (f : yK × yM → Bool) : Bool := match o with | some r => f r | none => false
theorem oB_of {o : Option (yK × yM)} {f : yK × yM → Bool} (h : oB o f = true) : ∃ r, o = some r ∧ f r = true := by
  cases o with
  | none => exact absurd h Bool.false_ne_true
  | some r => exact ⟨r, rfl, h⟩
theorem e78 : oB (b_X7_init (yKn K00 (9, 0)) (yMn K00 M00) 0) (fun r => decide (r.1.1 = 50) && oB (b_X8_init0 (yKn r.1 (10, 0)) (yMn r.1 r.2) 50) (fun s => ckA s.1 && ckR s.1 && ckB s.2 && ckC s.2 && ckD s.2)) = true := by decide +kernel
/-! the first text -/
def sB (x : SYs ⊕ (Option Ot × Nat)) (f : Ot → Nat → Bool) : Bool := match x with | .inr (some o, i) => f o i | _ => false
theorem sB_of {x : SYs ⊕ (Option Ot × Nat)} {f : Ot → Nat → Bool} (h : sB x f = true) : ∃ o i, x = .inr (some o, i) ∧ f o i = true := by
  rcases x with s | ⟨_ | o, i⟩
  · exact absurd h Bool.false_ne_true
  · exact absurd h Bool.false_ne_true
  · exact ⟨o, i, rfl, h⟩
theorem eT : sB (rn (tkT v0 38) (nvT v0 38) 60 (0 + 1, true, true, [], 0, out0)) (fun o1 i1 => sB (rn (tkT v0 38) (nvT v0 38) 60 (i1 + 1, true, true, [], 0, o1)) (fun o2 i2 => sB (rn (tkT v0 38) (nvT v0 38) 60 (i2 + 1, true, true, [], 0, o2)) (fun o3 i3 => decide ((tkT v0 38 0 = 256 ∧ tkT v0 38 i1 = 257 ∧ tkT v0 38 i2 = 258 ∧ tkT v0 38 i3 = 0) ∧ (o1.1 = 1 ∧ o2.1 = 2 ∧ o3.1 = 5) ∧ o3.2 0 = 100010 ∧ o3.2 1 = 100001 ∧ o3.2 2 = 100005 ∧ o3.2 3 = 4 ∧ o3.2 4 = 16)))) = true := by decide +kernel
theorem tx_0 : ∃ o1 o2 o3, TXo (tkT v0 38) (nvT v0 38) o1 o2 o3 ∧ (o1.1 = 1 ∧ o2.1 = 2 ∧ o3.1 = 5) ∧ o3.2 0 = 100010 ∧ o3.2 1 = 100001 ∧ o3.2 2 = 100005 ∧ o3.2 3 = 4 ∧ o3.2 4 = 16 := by
  obtain ⟨o1, i1, h1, h⟩ := sB_of eT
  obtain ⟨o2, i2, h2, h⟩ := sB_of h
  obtain ⟨o3, i3, h3, h⟩ := sB_of h
  obtain ⟨⟨a1, a2, a3, a4⟩, b, c⟩ := of_decide_eq_true h
  exact ⟨o1, o2, o3, ⟨i1, i2, i3, ⟨a1, 60, h1⟩, ⟨a2, 60, h2⟩, ⟨a3, 60, h3⟩, a4⟩, b, c⟩
theorem tx_W {o1 o2 o3 : Ot} (b : o1.1 = 1 ∧ o2.1 = 2 ∧ o3.1 = 5) (c : o3.2 0 = 100010 ∧ o3.2 1 = 100001 ∧ o3.2 2 = 100005 ∧ o3.2 3 = 4 ∧ o3.2 4 = 16) : TxW (mkX o1 o2 o3) := by
  obtain ⟨b1, b2, b3⟩ := b
  obtain ⟨c0, c1, c2, c3, c4⟩ := c
  refine ⟨rfl, Nat.zero_le _, ?_, ?_, ?_, fun p hp => ?_⟩
  · show o1.1 ≤ o2.1
    omega
  · show o2.1 ≤ o3.1
    omega
  · show o3.1 ≤ 159
    omega
  · rcases (show p = 0 ∨ p = 1 ∨ p = 2 by omega) with rfl | rfl | rfl
    · show okR o3.2 (o1.1 - 0) 0 0
      rw [b1]
      show dok (o3.2 0) 0 ∧ dep (o3.2 0) 0 = 1
      rw [c0]
      exact ⟨.inl ⟨by decide, by decide⟩, rfl⟩
    · show okR o3.2 (o2.1 - o1.1) o1.1 0
      rw [b1, b2]
      show dok (o3.2 1) 0 ∧ dep (o3.2 1) 0 = 1
      rw [c1]
      exact ⟨.inl ⟨by decide, by decide⟩, rfl⟩
    · show okR o3.2 (o3.1 - o2.1) o2.1 0
      rw [b2, b3]
      show dok (o3.2 2) 0 ∧ dok (o3.2 3) (dep (o3.2 2) 0) ∧ dok (o3.2 4) (dep (o3.2 3) (dep (o3.2 2) 0)) ∧ dep (o3.2 4) (dep (o3.2 3) (dep (o3.2 2) 0)) = 1
      rw [c2, c3, c4]
      exact ⟨.inl ⟨by decide, by decide⟩, .inr (.inl (by decide)), .inr (.inr (.inr ⟨.inr (.inr ⟨by decide, by decide⟩), by decide⟩)), rfl⟩
theorem rfT_hi {p f : Nat} (h : 42 ≤ f) : rfT p f = none := by
  have e : ∀ k, k < 42 → (f = k) = False := fun k hk => eq_false (by omega)
  unfold rfT rfB
  simp [e, show ¬ f < 8 by omega]
def b00 : Bk := (0, fun _ => 0, fun _ => 0, fun _ => 0, fun _ => 0, fun _ => 0, 0, fun _ => 0, 0, 0, -1, 0, 0, 0)
theorem p_start : ∃ r, b_law_pre K00 M00 = some r ∧ r.1 = 0 ∧ r.2.1 = 50 ∧ IE r.2.2.1 r.2.2.2 := by
  obtain ⟨r7, h7, h⟩ := oB_of e78
  obtain ⟨h50, h⟩ := Bool.and_eq_true_iff.mp h
  have h50 := of_decide_eq_true h50
  obtain ⟨⟨K, M⟩, h8, h⟩ := oB_of h
  obtain ⟨h, hD⟩ := Bool.and_eq_true_iff.mp h
  obtain ⟨h, hC⟩ := Bool.and_eq_true_iff.mp h
  obtain ⟨h, hBb⟩ := Bool.and_eq_true_iff.mp h
  obtain ⟨hA, hR⟩ := Bool.and_eq_true_iff.mp h
  unfold ckA at hA
  unfold ckR at hR
  unfold ckB at hBb
  unfold ckC at hC
  unfold ckD at hD
  obtain ⟨hA, k2⟩ := Bool.and_eq_true_iff.mp hA
  obtain ⟨k1, k3⟩ := of_decide_eq_true hA
  have k2 : ∀ p, p < 71 → K.2.1 p = kdT.getD p (0, 0) := fun p hp => of_decide_eq_true (rAll k2 p hp)
  have k4 : ∀ p, p < 71 → p ≠ 1 → ∀ f, f < 42 → K.2.2 p f = rfT p f := fun p hp hp1 f hf => by
    rcases Bool.or_eq_true_iff.mp (rAll hR p hp) with z | z
    · exact absurd (of_decide_eq_true z) hp1
    · exact of_decide_eq_true (rAll z f hf)
  obtain ⟨⟨a1, a2⟩, a3, a4⟩ := of_decide_eq_true hBb
  obtain ⟨a5, hC⟩ := Bool.and_eq_true_iff.mp hC
  have a5 : ∀ s, s < 4 → M (41 + 2 * s) 1 = -1 ∧ M (41 + 2 * s) 2 = 0 := fun s hs => of_decide_eq_true (rAll a5 s hs)
  obtain ⟨a6, a7, a8, a9, a10, a11⟩ := of_decide_eq_true hC
  obtain ⟨a12, hD⟩ := Bool.and_eq_true_iff.mp hD
  obtain ⟨a13, a14⟩ := Bool.and_eq_true_iff.mp hD
  have a12 : ∀ i, i < 38 → M 55 i = nI (v0 i) := fun i hi => of_decide_eq_true (rAll a12 i hi)
  have a13 : ∀ i, i < 96 → M 65 i = wds.getD i 0 := fun i hi => of_decide_eq_true (rAll a13 i hi)
  have a14 : ∀ s, s < 4 → M 61 s = -1 ∧ M 62 s = 0 := fun s hs => of_decide_eq_true (rAll a14 s hs)
  have hHB : HB K := w_X8 (HB.n (w_X7 (HB.n (fun _ _ _ => rfl)) _ h7)) _ h8
  have hK : KSh K := ⟨by show 71 ≤ K.1; have : K.1 = 71 := k1; omega, by have : K.1 = 71 := k1; omega, k2, fun p f hp hp1 => by
    rcases Nat.lt_or_ge f 42 with z | z
    · exact k4 p hp hp1 f z
    · rw [rfT_hi z]; exact hHB p f z⟩
  have hk1 : K.1 = 71 := k1
  obtain ⟨o1, o2, o3, t1, t2, t3⟩ := tx_0
  have tw := tx_W t2 t3
  obtain ⟨b1, b2, b3⟩ := t2
  obtain ⟨c0, c1, c2, c3, c4⟩ := t3
  have sm : SM v0 38 M := ⟨a9, a12, a13⟩
  obtain ⟨R, r1, r2, r3, r4, r5, r6, -, -⟩ := (q_text (k := 0) hK (by decide) (T_ok (v := v0) (ts := 38) (by decide)) (q_next hK v0_B (by decide)) (SM_fl v0 38) rfl sm a10).1 o1 o2 o3 t1
  have hIE : IE K R := by
    refine ⟨b00, b00, false, 1, 0, fun _ => mkX o1 o2 o3, fun _ => 0, fun _ => -1, fun _ => 0, fun _ _ => 0, ⟨⟨hK, by omega⟩, ⟨?_, by decide, by decide⟩, ⟨fun _ _ => tw, by decide, by decide⟩, ⟨by decide, fun i hi => absurd hi (Nat.not_lt_zero _)⟩, fun z => absurd z Bool.false_ne_true, fun s hs => ⟨Nat.zero_le _, .inl rfl⟩⟩, ⟨⟨⟨?_, fun w hw => absurd hw (Nat.not_lt_zero _), fun d hd => absurd hd (Nat.not_lt_zero _)⟩, fun w hw => ?_, fun w hw => absurd hw (Nat.not_lt_zero _)⟩, fun z => absurd z Bool.false_ne_true, ?_, fun i hi => absurd hi (Nat.not_lt_zero _), fun l hl => ?_, fun s hs => ?_⟩, ⟨⟨⟨?_, fun w hw => absurd hw (Nat.not_lt_zero _), fun d hd => absurd hd (Nat.not_lt_zero _)⟩, ?_, ?_, fun l hl => ?_⟩, fun z => absurd z Bool.false_ne_true, ⟨r4, r3, ?_⟩, fun i hi => absurd hi (Nat.not_lt_zero _), fun i hi => ?_, fun s hs => ?_⟩⟩
    · exact ⟨⟨by decide, fun w hw => absurd hw (Nat.not_lt_zero _), by decide, by decide, by decide, .inl rfl⟩, by decide, bB_0 12, bB_0 0, fun d hd => absurd hd (Nat.not_lt_zero _)⟩
    · rw [r6 7 (by decide) (by decide) (by decide) (by decide)]; exact a1
    · rw [r6 (7 + 6) (by decide) (by decide) (by decide) (by decide)]
      rw [show w = 0 from Nat.le_zero.mp hw]; exact a2
    · rw [r6 0 (by decide) (by decide) (by decide) (by decide)]; exact a3
    · rw [show l = 0 by omega]
      refine ⟨3, 2, k3, hK.ob (by decide) rfl, hK.rf (by decide) (by decide) rfl, ?_, .inl rfl, .inl rfl, ?_, ?_, fun i hi => ?_⟩
      · show isAr K 2 o3.1
        rw [b3]; exact hK.ar (by decide) rfl
      · rw [r6 3 (by decide) (by decide) (by decide) (by decide)]
        show M 3 1 = nI o1.1
        rw [b1]; exact a4.1
      · rw [r6 3 (by decide) (by decide) (by decide) (by decide)]
        show M 3 2 = nI o2.1
        rw [b2]; exact a4.2.1
      · rw [r6 2 (by decide) (by decide) (by decide) (by decide)]
        have hi : i < o3.1 := hi
        rw [b3] at hi
        show M 2 i = xc (o3.2 i)
        rcases (show i = 0 ∨ i = 1 ∨ i = 2 ∨ i = 3 ∨ i = 4 by omega) with rfl | rfl | rfl | rfl | rfl
        · rw [c0]; exact a4.2.2.1
        · rw [c1]; exact a4.2.2.2.1
        · rw [c2]; exact a4.2.2.2.2.1
        · rw [c3]; exact a4.2.2.2.2.2.1
        · rw [c4]; exact a4.2.2.2.2.2.2
    · rw [r6 (41 + 2 * s) (by omega) (by omega) (by omega) (by omega)]
      exact ⟨(a5 s hs).1, (a5 s hs).2, fun j hj => absurd hj (Nat.not_lt_zero _)⟩
    · rw [r5 0 (by decide) (by decide) (by decide), r5 4 (by decide) (by decide) (by decide), r5 6 (by decide) (by decide) (by decide), r5 7 (by decide) (by decide) (by decide), r5 8 (by decide) (by decide) (by decide), r5 9 (by decide) (by decide) (by decide), r5 10 (by decide) (by decide) (by decide), r5 16 (by decide) (by decide) (by decide)]; exact a6
    · rw [r5 49 (by decide) (by decide) (by decide)]; exact a7
    · rw [r5 50 (by decide) (by decide) (by decide)]; exact a8
    · rw [show l = 0 by omega]; exact r2
    · rw [r5 17 (by decide) (by decide) (by decide)]; exact a11
    · rw [r6 65 (by decide) (by decide) (by decide) (by decide)]; exact a13 i hi
    · rw [r6 61 (by decide) (by decide) (by decide) (by decide), r6 62 (by decide) (by decide) (by decide) (by decide)]
      exact ⟨(a14 s hs).1, (a14 s hs).2, fun j hj => absurd hj (Nat.not_lt_zero _)⟩
  refine ⟨(0, 50, K, R), ?_, rfl, rfl, hIE⟩
  · unfold b_law_pre
    rw [if_pos (show K00.1 < 1000000 by decide), Option.bind_some, Option.bind_some, Option.bind_some, if_pos (show K00.1 < (yKn K00 (9, 0)).1 by decide), show b_X7_init (yKn K00 (9, 0)) (yMn K00 M00) K00.1 = some r7 from h7, Option.bind_some, h50, if_pos (by decide), if_pos (show K00.1 < 50 by decide), Option.bind_some, Option.bind_some, Option.bind_some, if_pos (show 50 < (yKn r7.1 (10, 0)).1 by show 50 < r7.1.1 + 1; omega), if_pos (show K00.1 < (yKn r7.1 (10, 0)).1 by show 0 < r7.1.1 + 1; omega)]
    unfold b_X8_init
    rw [h8, Option.bind_some]
    dsimp only
    rw [r1, Option.bind_some, Option.bind_some]
    dsimp only
    rw [if_pos (by omega)]
    rfl
