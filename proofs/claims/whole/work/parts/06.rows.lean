section
variable {X : yX} {cc : ByteArray} {own nm : String} {rm : Room} {N : Nat} {K : yK} {M : yM} {k n pc : Nat} {L : List (Nat × Value)} {st : List Value}
theorem y_widen {k' n' : Nat} (hk : k ≤ k') (hn : n ≤ n') (kk : Y X K M k' n' pc L st) : Y X K M k n pc L st := by
  obtain ⟨p, l, e, R, s, m, args, below, meth, c, D, cA, A, ad0, n0, nL, Q⟩ := X
  intro ad H locs ls h1 h2 h3 h4 h5 h6
  exact W.widen hk hn (kk ad H locs ls h1 h2 h3 h4 h5 h6)
/-- fewer listed locals -/
theorem y_sub {L' : List (Nat × Value)} (h : ∀ q ∈ L', yLk L q.1 = some q.2) (kk : Y X K M k n pc L' st) : Y X K M k n pc L st := by
  obtain ⟨p, l, e, R, s, m, args, below, meth, c, D, cA, A, ad0, n0, nL, Q⟩ := X
  intro ad H locs ls h1 h2 h3 h4 h5 h6
  refine kk ad H locs ls h1 h2 h3 h4 h5 ⟨h6.1, h6.2.1, fun q hq => ?_⟩
  obtain ⟨z, hz, rfl⟩ := List.mem_map.mp hq
  exact yLk_at h6 (h z hz)
def yFd (own : String) (idx ci f : Nat) (r : Bool) : Prop := ci < 8 ∧ f < yNf ci ∧ yIsR ci f = r ∧ Cond.fieldLink own idx (yTab ci f).1 (yTab ci f).2.1 (yTab ci f).2.2.1 ∈ yT
def ySel (L : List (Nat × Value)) (is : List Nat) : List (Nat × Value) := is.filterMap (fun i => (yLk L i).map (fun v => (i, v)))
theorem y_sel {L' : List (Nat × Value)} (is : List Nat) (h : ySel L is = L') (kk : Y X K M k n pc L' st) : Y X K M k n pc L st := by
  refine y_sub (fun q hq => ?_) kk
  subst h
  obtain ⟨i, -, hi⟩ := List.mem_filterMap.mp hq
  cases hv : yLk L i with
  | none => rw [hv] at hi; cases hi
  | some v => rw [hv] at hi; cases hi; exact hv
theorem y_mem {M' : yM} (h : M = M') (kk : Y X K M' k n pc L st) : Y X K M k n pc L st := h ▸ kk
theorem y_lcmp (C : yCx X cc own nm rm N) {x y : Int64} (hd : decode cc pc = .ok (.lcmp, 1)) (kk : Y X K M k n (pc + 1) L (.int (lg_cmp x y) :: st)) : Y X K M k n pc L (.long y :: .long x :: st) := by
  obtain ⟨p, l, e, R, s, m, args, below, meth, c, D, cA, A, ad0, n0, nL, Q⟩ := X
  obtain ⟨hx, hb, hml, hown, hts, hK, hA, hR, hnL, hlk, hnm, hn0, hXs⟩ := id C
  intro ad H locs ls h1 h2 h3 h4 h5 h6
  exact W.lcmp hx hb hd (kk ad H locs ls h1 h2 h3 h4 h5 h6)
theorem y_above (C : yCx X cc own nm rm N) {i : Int32} (hg : (0 ≤ i ∧ i < 6)) (hd : decode cc pc = .ok (.iaload, 1)) (kk : Y X K M k n (pc + 1) L (.int (yAb.getD i.toNatClampNeg 0) :: st)) : Y X K M k n pc L (.int i :: .ref 1000000 :: st) := by
  obtain ⟨p, l, e, R, s, m, args, below, meth, c, D, cA, A, ad0, n0, nL, Q⟩ := X
  obtain ⟨hx, hb, hml, hown, hts, hK, hA, hR, hnL, hlk, hnm, hn0, hXs⟩ := id C
  obtain ⟨⟨-, z2⟩, -⟩ := hXs
  obtain ⟨j, hj, rfl⟩ : ∃ j : Nat, j < 6 ∧ i = nI j := by
    obtain ⟨j, hj, rfl⟩ := nI_of (x := i) (Int32.not_lt.mpr hg.1)
    refine ⟨j, ?_, rfl⟩
    rcases Nat.lt_or_ge j 6 with q | q
    · exact q
    · exact absurd hg.2 (nI_nlt (a := j) (b := 6) q hj)
  intro ad H locs ls h1 h2 h3 h4 h5 h6
  obtain ⟨cell, t1, t2, t3, t4, t5, t6, t7⟩ := z2.kept h5.2.1
  have e1 : ad 1000000 = ad0 1000000 := h1.2 _ (Or.inr h2.1)
  have e2 : (nI j).toNatClampNeg = j := nI_clamp (by omega)
  rw [e2] at kk
  refine W.iald (v := .int (yAb.getD j 0)) hx hb (by rw [← e1] at t1; exact t1) t2 t3 ?_ (by rw [e2]; exact t6 j hj) rfl rfl hd (kk ad H locs ls h1 h2 h3 h4 h5 h6)
  rw [e2]
  exact fun z => z.elim (nI_pos (by omega)) (fun z => by omega)
theorem y_getAbove (C : yCx X cc own nm rm N) {idx : Nat} (hw : Cond.fieldLink own idx RX2 "ABOVE" "[I" ∈ yT) (hd : decode cc pc = .ok (.getstatic idx, 3)) (kk : Y X K M k n (pc + 3) L (.ref 1000000 :: st)) : Y X K M k n pc L st := by
  obtain ⟨p, l, e, R, s, m, args, below, meth, c, D, cA, A, ad0, n0, nL, Q⟩ := X
  obtain ⟨hx, hb, hml, hown, hts, hK, hA, hR, hnL, hlk, hnm, hn0, hXs⟩ := id C
  intro ad H locs ls h1 h2 h3 h4 h5 h6
  have e1 : ad 1000000 = ad0 1000000 := h1.2 _ (Or.inr h2.1)
  have k9 := kk ad H locs ls h1 h2 h3 h4 h5 h6
  rw [List.map_cons, show yV ad (.ref 1000000) = .ref (ad0 1000000) by rw [← e1]; rfl] at k9
  exact va_gets hx hb hXs.1.1 h5 hown (hts _ hw) (fun _ z => z) hd k9
theorem y_ldcS (C : yCx X cc own nm rm N) {i : Nat} (hi : i < 12) (ho : own = RX6) (hd : decode cc pc = .ok (.ldc (yTi i), 2)) (kk : Y X K M k n (pc + 2) L (.ref (1000001 + i) :: st)) : Y X K M k n pc L st := by
  obtain ⟨p, l, e, R, s, m, args, below, meth, c, D, cA, A, ad0, n0, nL, Q⟩ := X
  obtain ⟨hx, hb, hml, hown, hts, hK, hA, hR, hnL, hlk, hnm, hn0, hXs⟩ := id C
  intro ad H locs ls h1 h2 h3 h4 h5 h6
  have e1 : ad (1000001 + i) = ad0 (1000001 + i) := h1.2 _ (Or.inr (by have := h2.1; omega))
  have k9 := kk ad H locs ls h1 h2 h3 h4 h5 h6
  rw [List.map_cons, show yV ad (.ref (1000001 + i)) = .ref (ad0 (1000001 + i)) by rw [← e1]; rfl] at k9
  exact va_ldcS hx hb hown (by rw [ho]; exact hXs.2.2.2.2.1 i hi) hd k9
theorem yE_obj {cA : Nat → ClassId} {ad : Nat → Nat} {t : Nat × Nat} {ci : Nat} {r : Nat → Option Nat} {v : Nat → Int32} (h : t.1 = ci + 3) : yE cA ad t r v = .inr (ci, yFs ad ci r v) := by
  rw [yE, if_neg (by omega), if_neg (by omega), h]
  simp
theorem yE_int {cA : Nat → ClassId} {ad : Nat → Nat} {t : Nat × Nat} {r : Nat → Option Nat} {v : Nat → Int32} (h : t.1 = 0) : yE cA ad t r v = .inl (cA 0, t.2, .inl v) := by
  rw [yE, if_pos h]
theorem yE_ref {cA : Nat → ClassId} {ad : Nat → Nat} {t : Nat × Nat} {z : Nat} {r : Nat → Option Nat} {v : Nat → Int32} (h : t.1 = z) (h1 : z ≠ 0) (h2 : z < 3) : yE cA ad t r v = .inl (cA z, t.2, .inr (.inr (.inr (.inr (fun i => (r i).map ad))))) := by
  rw [yE, if_neg (by omega), if_pos (by omega), h]
theorem y_geti (C : yCx X cc own nm rm N) {p0 ci f idx : Nat} (hf : yFd own idx ci f false) (hg : gO K p0 ci = true) (hd : decode cc pc = .ok (.getfield idx, 3)) (kk : Y X K M k n (pc + 3) L (.int (M p0 f) :: st)) : Y X K M k n pc L (.ref p0 :: st) := by
  obtain ⟨p, l, e, R, s, m, args, below, meth, c, D, cA, A, ad0, n0, nL, Q⟩ := X
  obtain ⟨hx, hb, hml, hown, hts, hK, hA, hR, hnL, hlk, hnm, hn0, hXs⟩ := id C
  obtain ⟨f1, f2, f3, f4⟩ := hf
  intro ad H locs ls h1 h2 h3 h4 h5 h6
  exact va_get (D := D) (ci := ci) (v := .int (M p0 f)) hx hb hts (yIn f1) hown hK h3 p0 (yW_obj (gO_s hg).1 (gO_s hg).2) (yCl_at f1) f f2 (hts _ f4) (fun _ z => z) (yFs_i f2 f3) hd (kk ad H locs ls h1 h2 h3 h4 h5 h6)
theorem y_getr (C : yCx X cc own nm rm N) {p0 ci f idx q : Nat} (hf : yFd own idx ci f true) (hg : gO K p0 ci = true) (hq : K.2.2 p0 f = some q) (hd : decode cc pc = .ok (.getfield idx, 3)) (kk : Y X K M k n (pc + 3) L (.ref q :: st)) : Y X K M k n pc L (.ref p0 :: st) := by
  obtain ⟨p, l, e, R, s, m, args, below, meth, c, D, cA, A, ad0, n0, nL, Q⟩ := X
  obtain ⟨hx, hb, hml, hown, hts, hK, hA, hR, hnL, hlk, hnm, hn0, hXs⟩ := id C
  obtain ⟨f1, f2, f3, f4⟩ := hf
  intro ad H locs ls h1 h2 h3 h4 h5 h6
  exact va_get (D := D) (ci := ci) (v := .ref (ad q)) hx hb hts (yIn f1) hown hK h3 p0 (yW_obj (gO_s hg).1 (gO_s hg).2) (yCl_at f1) f f2 (hts _ f4) (fun _ z => z) (yFs_r f2 f3 hq) hd (kk ad H locs ls h1 h2 h3 h4 h5 h6)
theorem yW_puti {cA : Nat → ClassId} {ad : Nat → Nat} {p0 ci f : Nat} {v : Int32} (f2 : f < yNf ci) (f3 : yIsR ci f = false) (hg : (K.2.1 p0).1 = ci + 3) : (yW cA ad K M).set p0 (ad p0, .inr (ci, (yFs ad ci (K.2.2 p0) (M p0)).set f (.int v))) = yW cA ad K (yS M p0 f v) := by
  refine yW_set rfl (fun q _ hq => by rw [yS_ne _ _ _ hq]) ?_
  rw [yE_obj hg]
  congr 2
  refine (yFs_set ?_ (fun j hj => ⟨rfl, ?_⟩)).symm
  · rw [yFs_i f2 f3, yS_self]; simp
  · rw [yS_self]; simp [hj]
theorem yW_putr {cA : Nat → ClassId} {ad : Nat → Nat} {p0 ci f q : Nat} (f2 : f < yNf ci) (f3 : yIsR ci f = true) (hg : (K.2.1 p0).1 = ci + 3) : (yW cA ad K M).set p0 (ad p0, .inr (ci, (yFs ad ci (K.2.2 p0) (M p0)).set f (.ref (ad q)))) = yW cA ad (yKr K p0 f q) M := by
  refine yW_set rfl (fun a _ ha => by simp [yKr, ha]) ?_
  rw [yE_obj (by exact hg)]
  congr 2
  refine (yFs_set ?_ (fun j hj => ⟨by simp [yKr, hj], rfl⟩)).symm
  rw [yFs_r f2 f3 (q := q) (by simp [yKr])]
theorem y_puti (C : yCx X cc own nm rm N) {p0 ci f idx : Nat} {v : Int32} (hf : yFd own idx ci f false) (hfin : (yTab ci f).2.2.2 = false) (hg : gO K p0 ci = true) (hn : narrow (yTy ci f) (.int v) = .int v) (hfit : fits (yTy ci f) (.int v) = true) (hd : decode cc pc = .ok (.putfield idx, 3)) {M' : yM} (hM : yS M p0 f v = M') (kk : Y X K M' k n (pc + 3) L st) : Y X K M k n pc L (.int v :: .ref p0 :: st) := by
  obtain ⟨p, l, e, R, s, m, args, below, meth, c, D, cA, A, ad0, n0, nL, Q⟩ := X
  obtain ⟨hx, hb, hml, hown, hts, hK, hA, hR, hnL, hlk, hnm, hn0, hXs⟩ := id C
  obtain ⟨f1, f2, f3, f4⟩ := hf
  intro ad H locs ls h1 h2 h3 h4 h5 h6
  refine va_put (D := D) (ci := ci) (v := .int v) (ty := yTy ci f) hx hb hts (yIn f1) (yTy ci) (yTy_ok f1) (yNm_ok f1) hown hK h3 h4 h5 p0 (yW_obj (gO_s hg).1 (gO_s hg).2) (yCl_at f1) f f2 (hts _ f4) (fun _ z => z) hfin (yTy_ok f1 f f2) hn hfit (by rw [yFs_len]; exact f2) hd (fun H1 locs1 g3 g4 g5 => ?_)
  rw [yW_puti f2 f3 (gO_s hg).2, hM] at g3 g4
  exact kk ad H1 locs1 ls h1 h2 g3 g4 g5 h6
theorem y_putFi (C : yCx X cc own "<init>" rm N) {p0 ci f idx : Nat} {v : Int32} (hf : yFd own idx ci f false) (hfin : (yTab ci f).2.2.2 = true) (hdecl : (yTab ci f).1 = own) (hg : gO K p0 ci = true) (hn : narrow (yTy ci f) (.int v) = .int v) (hfit : fits (yTy ci f) (.int v) = true) (hd : decode cc pc = .ok (.putfield idx, 3)) {M' : yM} (hM : yS M p0 f v = M') (kk : Y X K M' k n (pc + 3) L st) : Y X K M k n pc L (.int v :: .ref p0 :: st) := by
  obtain ⟨p, l, e, R, s, m, args, below, meth, c, D, cA, A, ad0, n0, nL, Q⟩ := X
  obtain ⟨hx, hb, hml, hown, hts, hK, hA, hR, hnL, hlk, hnm, hn0, hXs⟩ := id C
  obtain ⟨f1, f2, f3, f4⟩ := hf
  intro ad H locs ls h1 h2 h3 h4 h5 h6
  refine va_putF (D := D) (ci := ci) (v := .int v) (ty := yTy ci f) hx hb hts (yIn f1) (yTy ci) (yTy_ok f1) (yNm_ok f1) hown hK h3 h4 h5 p0 (yW_obj (gO_s hg).1 (gO_s hg).2) (yCl_at f1) f f2 (hts _ f4) (fun _ z => z) hfin hnm hdecl (yTy_ok f1 f f2) hn hfit (by rw [yFs_len]; exact f2) hd (fun H1 locs1 g3 g4 g5 => ?_)
  rw [yW_puti f2 f3 (gO_s hg).2, hM] at g3 g4
  exact kk ad H1 locs1 ls h1 h2 g3 g4 g5 h6
theorem yOK_r {p f q : Nat} (h : yOK K) (hq : q < K.1) : yOK (yKr K p f q) := by
  refine ⟨h.1, fun a b z ha hz => ?_⟩
  by_cases e : a = p ∧ b = f
  · simp only [yKr, if_pos e] at hz
    cases hz
    exact hq
  · simp only [yKr, if_neg e] at hz
    exact h.2 a b z ha hz
theorem y_putFr (C : yCx X cc own "<init>" rm N) {p0 ci f idx q : Nat} (hf : yFd own idx ci f true) (hfin : (yTab ci f).2.2.2 = true) (hdecl : (yTab ci f).1 = own) (hg : gO K p0 ci = true) (hq : q < K.1) (hn : narrow (yTy ci f) (.ref 0) = .ref 0) (hfit : fits (yTy ci f) (.ref 0) = true) (hd : decode cc pc = .ok (.putfield idx, 3)) (kk : Y X (yKr K p0 f q) M k n (pc + 3) L st) : Y X K M k n pc L (.ref q :: .ref p0 :: st) := by
  obtain ⟨p, l, e, R, s, m, args, below, meth, c, D, cA, A, ad0, n0, nL, Q⟩ := X
  obtain ⟨hx, hb, hml, hown, hts, hK, hA, hR, hnL, hlk, hnm, hn0, hXs⟩ := id C
  obtain ⟨f1, f2, f3, f4⟩ := hf
  intro ad H locs ls h1 h2 h3 h4 h5 h6
  refine va_putF (D := D) (ci := ci) (v := .ref (ad q)) (ty := yTy ci f) hx hb hts (yIn f1) (yTy ci) (yTy_ok f1) (yNm_ok f1) hown hK h3 h4 h5 p0 (yW_obj (gO_s hg).1 (gO_s hg).2) (yCl_at f1) f f2 (hts _ f4) (fun _ z => z) hfin hnm hdecl (yTy_ok f1 f f2) (by revert hn; cases yTy ci f <;> intro hn <;> first | rfl | cases hn) (by revert hfit; cases yTy ci f <;> intro hfit <;> first | rfl | cases hfit) (by rw [yFs_len]; exact f2) hd (fun H1 locs1 g3 g4 g5 => ?_)
  rw [yW_putr f2 f3 (gO_s hg).2] at g3 g4
  exact kk ad H1 locs1 ls h1 (yOK_r h2 hq) g3 g4 g5 h6
theorem y_iald (C : yCx X cc own nm rm N) {p0 : Nat} {i : Int32} (hg : gA K p0 i = true) (hd : decode cc pc = .ok (.iaload, 1)) (kk : Y X K M k n (pc + 1) L (.int (M p0 i.toNatClampNeg) :: st)) : Y X K M k n pc L (.int i :: .ref p0 :: st) := by
  obtain ⟨p, l, e, R, s, m, args, below, meth, c, D, cA, A, ad0, n0, nL, Q⟩ := X
  obtain ⟨hx, hb, hml, hown, hts, hK, hA, hR, hnL, hlk, hnm, hn0, hXs⟩ := id C
  obtain ⟨g1, g2, g3, g4⟩ := gA_s hg
  intro ad H locs ls h1 h2 h3 h4 h5 h6
  exact va_iald (D := D) hx hb hK h3 p0 0 (yW_int g1 g2) rfl (fun z => z.elim g3 (fun z => absurd z (Nat.not_le.mpr g4))) hd (kk ad H locs ls h1 h2 h3 h4 h5 h6)
theorem y_iast (C : yCx X cc own nm rm N) {p0 : Nat} {i v : Int32} (hg : gA K p0 i = true) (hd : decode cc pc = .ok (.iastore, 1)) {M' : yM} (hM : yS M p0 i.toNatClampNeg v = M') (kk : Y X K M' k n (pc + 1) L st) : Y X K M k n pc L (.int v :: .int i :: .ref p0 :: st) := by
  obtain ⟨p, l, e, R, s, m, args, below, meth, c, D, cA, A, ad0, n0, nL, Q⟩ := X
  obtain ⟨hx, hb, hml, hown, hts, hK, hA, hR, hnL, hlk, hnm, hn0, hXs⟩ := id C
  obtain ⟨g1, g2, g3, g4⟩ := gA_s hg
  intro ad H locs ls h1 h2 h3 h4 h5 h6
  refine va_iast (D := D) hx hb hK h3 h4 h5 p0 0 (yW_int g1 g2) rfl (fun z => z.elim g3 (fun z => absurd z (Nat.not_le.mpr g4))) hd (fun H1 locs1 e3 e4 e5 => ?_)
  have ee : (yW cA ad K M).set p0 (ad p0, .inl (cA 0, (K.2.1 p0).2, .inl (upd (M p0) i.toNatClampNeg v))) = yW cA ad K (yS M p0 i.toNatClampNeg v) := by
    refine yW_set rfl (fun q _ hq => by rw [yS_ne _ _ _ hq]) ?_
    rw [yE_int g2, yS_self]
    rfl
  rw [ee, hM] at e3 e4
  exact kk ad H1 locs1 ls h1 h2 e3 e4 e5 h6
theorem y_alen (C : yCx X cc own nm rm N) {p0 : Nat} (hg : gI K p0 = true) (hd : decode cc pc = .ok (.arraylength, 1)) (kk : Y X K M k n (pc + 1) L (.int (Int32.ofNat (K.2.1 p0).2) :: st)) : Y X K M k n pc L (.ref p0 :: st) := by
  obtain ⟨p, l, e, R, s, m, args, below, meth, c, D, cA, A, ad0, n0, nL, Q⟩ := X
  obtain ⟨hx, hb, hml, hown, hts, hK, hA, hR, hnL, hlk, hnm, hn0, hXs⟩ := id C
  obtain ⟨g1, g2⟩ := gI_s hg
  intro ad H locs ls h1 h2 h3 h4 h5 h6
  exact va_alen (D := D) hx hb hK h3 p0 0 (yW_int g1 g2) rfl rfl hd (kk ad H locs ls h1 h2 h3 h4 h5 h6)
def gT (K : yK) (p t : Nat) : Bool := decide (p < K.1 ∧ (K.2.1 p).1 = t)
theorem gT_s {p t : Nat} (h : gT K p t = true) : p < K.1 ∧ (K.2.1 p).1 = t := of_decide_eq_true h
def yTc (t : Nat) : String := if t = 1 then RX3 else RX5
theorem yTys_at {cA : Nat → ClassId} {t : Nat} (h1 : t ≠ 0) (h2 : t < 3) : (yTys cA)[t]? = some (cA t, .object (yTc t)) := by
  rcases (show t = 1 ∨ t = 2 by omega) with rfl | rfl <;> rfl
theorem y_alenQ (C : yCx X cc own nm rm N) {p0 t : Nat} (ht : t ≠ 0 ∧ t < 3) (hg : gT K p0 t = true) (hd : decode cc pc = .ok (.arraylength, 1)) (kk : Y X K M k n (pc + 1) L (.int (Int32.ofNat (K.2.1 p0).2) :: st)) : Y X K M k n pc L (.ref p0 :: st) := by
  obtain ⟨p, l, e, R, s, m, args, below, meth, c, D, cA, A, ad0, n0, nL, Q⟩ := X
  obtain ⟨hx, hb, hml, hown, hts, hK, hA, hR, hnL, hlk, hnm, hn0, hXs⟩ := id C
  obtain ⟨g1, g2⟩ := gT_s hg
  intro ad H locs ls h1 h2 h3 h4 h5 h6
  exact va_alen (D := D) hx hb hK h3 p0 t (yW_ref g1 g2 ht.1 ht.2) (yTys_at ht.1 ht.2) rfl hd (kk ad H locs ls h1 h2 h3 h4 h5 h6)
theorem y_aald (C : yCx X cc own nm rm N) {p0 t q : Nat} {i : Int32} (ht : t ≠ 0 ∧ t < 3) (hg : gQ K p0 t i = true) (hq : K.2.2 p0 i.toNatClampNeg = some q) (hd : decode cc pc = .ok (.aaload, 1)) (kk : Y X K M k n (pc + 1) L (.ref q :: st)) : Y X K M k n pc L (.int i :: .ref p0 :: st) := by
  obtain ⟨p, l, e, R, s, m, args, below, meth, c, D, cA, A, ad0, n0, nL, Q⟩ := X
  obtain ⟨hx, hb, hml, hown, hts, hK, hA, hR, hnL, hlk, hnm, hn0, hXs⟩ := id C
  obtain ⟨g1, g2, g3, g4⟩ := gQ_s hg
  intro ad H locs ls h1 h2 h3 h4 h5 h6
  refine va_aldq (D := D) hx hb hK h3 p0 t (yW_ref g1 g2 ht.1 ht.2) (yTys_at ht.1 ht.2) (fun z => z.elim g3 (fun z => absurd z (Nat.not_le.mpr g4))) hd ?_
  rw [hq]
  exact kk ad H locs ls h1 h2 h3 h4 h5 h6
/-- which class's objects an array of references holds -/
def yTk (t : Nat) : Nat := if t = 1 then 2 else 4
theorem y_aast (C : yCx X cc own nm rm N) {p0 t q : Nat} {i : Int32} (ht : t ≠ 0 ∧ t < 3) (hg : gQ K p0 t i = true) (ho : gO K q (yTk t) = true) (hd : decode cc pc = .ok (.aastore, 1)) (kk : Y X (yKr K p0 i.toNatClampNeg q) M k n (pc + 1) L st) : Y X K M k n pc L (.ref q :: .int i :: .ref p0 :: st) := by
  obtain ⟨p, l, e, R, s, m, args, below, meth, c, D, cA, A, ad0, n0, nL, Q⟩ := X
  obtain ⟨hx, hb, hml, hown, hts, hK, hA, hR, hnL, hlk, hnm, hn0, hXs⟩ := id C
  obtain ⟨g1, g2, g3, g4⟩ := gQ_s hg
  have hkt : yTk t < 8 ∧ yCn (yTk t) = yTc t := by
    rcases (show t = 1 ∨ t = 2 by omega) with rfl | rfl <;> exact ⟨by decide, rfl⟩
  intro ad H locs ls h1 h2 h3 h4 h5 h6
  refine va_astq (D := D) (r := (yCn (yTk t), yTab (yTk t), yNf (yTk t))) hx hb hK h3 h4 h5 p0 t q (yTk t) (yW_ref g1 g2 ht.1 ht.2) (by rw [yTys_at ht.1 ht.2, hkt.2]) (yW_obj (gO_s ho).1 (gO_s ho).2) (yCl_at hkt.1) (fun z => z.elim g3 (fun z => absurd z (Nat.not_le.mpr g4))) hd (fun H1 locs1 e3 e4 e5 => ?_)
  have ee : (yW cA ad K M).set p0 (ad p0, .inl (cA t, (K.2.1 p0).2, .inr (.inr (.inr (.inr (va_up (fun i => (K.2.2 p0 i).map ad) i.toNatClampNeg (some (ad q)))))))) = yW cA ad (yKr K p0 i.toNatClampNeg q) M := by
    refine yW_set rfl (fun a _ ha => by simp [yKr, ha]) ?_
    rw [yE_ref (by exact g2) ht.1 ht.2]
    congr 7
    funext j
    by_cases hj : j = i.toNatClampNeg <;> simp [va_up, yKr, hj]
  rw [ee] at e3 e4
  exact kk ad H1 locs1 ls h1 (yOK_r h2 (gO_s ho).1) e3 e4 e5 h6
theorem y_max (C : yCx X cc own nm rm N) {x y : Int32} {idx : Nat} (hw : Cond.methodLink own idx Lib.Math.max.name ∈ yT ∧ Cond.static Lib.Math.max.name ∈ yT ∧ Cond.initialized "java/lang/Math" ∈ yT ∧ Cond.code Lib.Math.max.name Lib.Math.max.code 2 (some .int) ∈ yT) (hr : 1 ≤ rm.frames ∧ (st.map (fun v => v.category)).sum + 13 ≤ rm.locals ∧ k ≤ rm.cells ∧ n ≤ rm.slots) (hd : decode cc pc = .ok (.invokestatic idx, 3)) (kk : Y X K M k n (pc + 3) L (.int (if x < y then y else x) :: st)) : Y X K M k n pc L (.int y :: .int x :: st) := by
  obtain ⟨p, l, e, R, s, m, args, below, meth, c, D, cA, A, ad0, n0, nL, Q⟩ := X
  obtain ⟨hx, hb, hml, hown, hts, hK, hA, rfl, hnL, hlk, hnm, hn0, hXs⟩ := id C
  obtain ⟨w1, w2, w3, w4⟩ := hw
  intro ad H locs ls h1 h2 h3 h4 h5 h6
  exact va_mmax hx hb (by rw [hml]; exact h6.1.symm) hown (hts _ w1) (hts _ w2) (hts _ w3) (hts _ w4) hr.1 (by rw [List.map_map]; simpa [Function.comp_def, yV_cat] using hr.2.1) hr.2.2.1 hr.2.2.2 hd (kk ad H locs ls h1 h2 h3 h4 h5 h6)
theorem y_min (C : yCx X cc own nm rm N) {x y : Int32} {idx : Nat} (hw : Cond.methodLink own idx Lib.Math.min.name ∈ yT ∧ Cond.static Lib.Math.min.name ∈ yT ∧ Cond.initialized "java/lang/Math" ∈ yT ∧ Cond.code Lib.Math.min.name Lib.Math.min.code 2 (some .int) ∈ yT) (hr : 1 ≤ rm.frames ∧ (st.map (fun v => v.category)).sum + 13 ≤ rm.locals ∧ k ≤ rm.cells ∧ n ≤ rm.slots) (hd : decode cc pc = .ok (.invokestatic idx, 3)) (kk : Y X K M k n (pc + 3) L (.int (if y < x then y else x) :: st)) : Y X K M k n pc L (.int y :: .int x :: st) := by
  obtain ⟨p, l, e, R, s, m, args, below, meth, c, D, cA, A, ad0, n0, nL, Q⟩ := X
  obtain ⟨hx, hb, hml, hown, hts, hK, hA, rfl, hnL, hlk, hnm, hn0, hXs⟩ := id C
  obtain ⟨w1, w2, w3, w4⟩ := hw
  intro ad H locs ls h1 h2 h3 h4 h5 h6
  exact va_mmin hx hb (by rw [hml]; exact h6.1.symm) hown (hts _ w1) (hts _ w2) (hts _ w3) (hts _ w4) hr.1 (by rw [List.map_map]; simpa [Function.comp_def, yV_cat] using hr.2.1) hr.2.2.1 hr.2.2.2 hd (kk ad H locs ls h1 h2 h3 h4 h5 h6)
def gC (K : yK) (a : Nat) (sp : Int32) (b : Nat) (dp z : Int32) : Bool := decide ((a < K.1 ∧ (K.2.1 a).1 = 0) ∧ (b < K.1 ∧ (K.2.1 b).1 = 0) ∧ ¬ sp < 0 ∧ ¬ dp < 0 ∧ ¬ z < 0 ∧ sp.toNatClampNeg + z.toNatClampNeg ≤ (K.2.1 a).2 ∧ dp.toNatClampNeg + z.toNatClampNeg ≤ (K.2.1 b).2)
def yCp (M : yM) (a : Nat) (sp : Int32) (b : Nat) (dp z : Int32) : yM := fun q j => if q = b then va_cpy (M a) (M b) sp.toNatClampNeg dp.toNatClampNeg z.toNatClampNeg j else M q j
theorem y_copy (C : yCx X cc own nm rm N) {a b : Nat} {sp dp z : Int32} {idx : Nat} (hw : Cond.methodLink own idx arraycopyName ∈ yT ∧ Cond.native arraycopyName ∈ yT ∧ Cond.static arraycopyName ∈ yT ∧ Cond.initialized "java/lang/System" ∈ yT) (hr : 1 ≤ rm.frames ∧ (st.map (fun v => v.category)).sum + (nativeFrameWords "java/lang/System" "arraycopy" 5 + 11) ≤ rm.locals) (hg : gC K a sp b dp z = true) (hd : decode cc pc = .ok (.invokestatic idx, 3)) {M' : yM} (hM : yCp M a sp b dp z = M') (kk : Y X K M' k n (pc + 3) L st) : Y X K M k n pc L (.int z :: .int dp :: .ref b :: .int sp :: .ref a :: st) := by
  obtain ⟨p, l, e, R, s, m, args, below, meth, c, D, cA, A, ad0, n0, nL, Q⟩ := X
  obtain ⟨hx, hb, hml, hown, hts, hK, hA, rfl, hnL, hlk, hnm, hn0, hXs⟩ := id C
  obtain ⟨w1, w2, w3, w4⟩ := hw
  obtain ⟨⟨a1, a2⟩, ⟨b1, b2⟩, g1, g2, g3, g4, g5⟩ := of_decide_eq_true hg
  intro ad H locs ls h1 h2 h3 h4 h5 h6
  refine va_copyi (D := D) (ty := .int) hx hb (by rw [hml]; exact h6.1.symm) hown (hts _ w1) (hts _ w2) (hts _ w3) (hts _ w4) hK h3 h4 h5 a b 0 0 (yW_int a1 a2) (yW_int b1 b2) rfl rfl rfl g1 g2 g3 g4 g5 (fun _ _ => rfl) hr.1 (by rw [List.map_map]; simpa [Function.comp_def, yV_cat] using hr.2) hd (fun H1 locs1 e3 e4 e5 => ?_)
  have ee : (yW cA ad K M).set b (ad b, .inl (cA 0, (K.2.1 b).2, .inl (va_cpy (M a) (M b) sp.toNatClampNeg dp.toNatClampNeg z.toNatClampNeg))) = yW cA ad K (yCp M a sp b dp z) := by
    refine yW_set rfl (fun q _ hq => ?_) ?_
    · have e1 : yCp M a sp b dp z q = M q := by funext j; simp [yCp, hq]
      rw [e1]
    · have e1 : yCp M a sp b dp z b = va_cpy (M a) (M b) sp.toNatClampNeg dp.toNatClampNeg z.toNatClampNeg := by funext j; simp [yCp]
      rw [yE_int b2, e1]
  rw [ee, hM] at e3 e4
  exact kk ad H1 locs1 ls h1 h2 e3 e4 e5 h6
end
section
variable {X : yX} {cc : ByteArray} {own nm : String} {rm : Room} {N : Nat} {K : yK} {M : yM} {k n pc : Nat} {L : List (Nat × Value)} {st : List Value}
/-- a value that isn't the place a -/
def yCl (a : Nat) : Value → Bool
  | .ref p => decide (p ≠ a)
  | _ => true
theorem yV_up {ad : Nat → Nat} {a q : Nat} {v : Value} (h : yCl a v = true) : yV (va_up ad a q) v = yV ad v := by
  cases v with
  | ref p =>
    have hp : p ≠ a := of_decide_eq_true h
    simp [yV, va_up, hp]
  | _ => rfl
theorem yW_push {cA : Nat → ClassId} {ad : Nat → Nat} {q : Nat} {t : Nat × Nat} {e : va_E} (hOK : yOK K) (he : yE cA (va_up ad K.1 q) t (fun _ => none) (fun _ => 0) = e) : yW cA ad K M ++ [(q, e)] = yW cA (va_up ad K.1 q) (yKn K t) (yMn K M) := by
  apply List.ext_getElem?
  intro p
  by_cases hp : p < K.1
  · rw [List.getElem?_append_left (by rw [yW_len]; exact hp), yW_at hp, yW_at (show p < (yKn K t).1 from Nat.lt_succ_of_lt hp)]
    have hne : p ≠ K.1 := Nat.ne_of_lt hp
    have e1 : (yKn K t).2.1 p = K.2.1 p := by simp [yKn, hne]
    have e2 : (yKn K t).2.2 p = K.2.2 p := by funext b; simp [yKn, hne]
    have e3 : yMn K M p = M p := by funext b; simp [yMn, hne]
    have e4 : va_up ad K.1 q p = ad p := by simp [va_up, hne]
    have e5 : ∀ i, (K.2.2 p i).map (va_up ad K.1 q) = (K.2.2 p i).map ad := by
      intro i
      cases hz : K.2.2 p i with
      | none => rfl
      | some z =>
        have hz2 := hOK.2 p i z hp hz
        simp [va_up, Nat.ne_of_lt hz2]
    rw [e1, e2, e3, e4]
    congr 2
    unfold yE yFs
    simp only [e5]
  · by_cases hp2 : p = K.1
    · subst hp2
      rw [List.getElem?_append_right (by rw [yW_len]; exact Nat.le_refl _), yW_len, Nat.sub_self, yW_at (show K.1 < (yKn K t).1 from Nat.lt_succ_self _)]
      have e1 : (yKn K t).2.1 K.1 = t := by simp [yKn]
      have e2 : (yKn K t).2.2 K.1 = fun _ => none := by funext b; simp [yKn]
      have e3 : yMn K M K.1 = fun _ => 0 := by funext b; simp [yMn]
      have e4 : va_up ad K.1 q K.1 = q := by simp [va_up]
      rw [e1, e2, e3, e4, he]
      rfl
    · rw [List.getElem?_eq_none (by rw [List.length_append, yW_len]; simp; omega), List.getElem?_eq_none (by rw [yW_len]; show K.1 + 1 ≤ p; omega)]
theorem yOK_n {t : Nat × Nat} (h : yOK K) (hl : K.1 < 1000000) : yOK (yKn K t) := by
  refine ⟨hl, fun a b z ha hz => ?_⟩
  by_cases e : a = K.1
  · simp only [yKn, if_pos e] at hz
    cases hz
  · simp only [yKn, if_neg e] at hz
    have ha2 : a < K.1 := by
      have : a < K.1 + 1 := ha
      omega
    exact Nat.lt_succ_of_lt (h.2 a b z ha2 hz)
theorem yAd_n {ad0 ad : Nat → Nat} {n0 q : Nat} {t : Nat × Nat} (h : yAd ad0 n0 K ad) : yAd ad0 n0 (yKn K t) (va_up ad K.1 q) := by
  have e : (yKn K t).1 = K.1 + 1 := rfl
  refine ⟨by rw [e]; exact Nat.le_succ_of_le h.1, fun p hp => ?_⟩
  rw [e] at hp
  have hne : p ≠ K.1 := by
    have := h.1
    omega
  rw [va_up, if_neg hne]
  exact h.2 p (by omega)
theorem yL_up {ad : Nat → Nat} {a q : Nat} (h : (L.map (fun z => z.2)).all (yCl a) = true) : L.map (fun z => (z.1, yV (va_up ad a q) z.2)) = L.map (fun z => (z.1, yV ad z.2)) := by
  apply List.map_congr_left
  intro z hz
  rw [yV_up (List.all_eq_true.mp h z.2 (List.mem_map.mpr ⟨z, hz, rfl⟩))]
theorem yS_up {ad : Nat → Nat} {a q : Nat} (h : st.all (yCl a) = true) : st.map (yV (va_up ad a q)) = st.map (yV ad) := by
  apply List.map_congr_left
  intro z hz
  exact yV_up (List.all_eq_true.mp h z hz)
def yDf (ci : Nat) : Prop := ∀ j, j < yNf ci → defaultValue (yTy ci j) = vp_V (yFs (fun _ => 0) ci (fun _ => none) (fun _ => 0)) j
theorem yDf_at {ci : Nat} (h : ci < 8) : yDf ci := by
  rcases y_lt8 h with rfl | rfl | rfl | rfl | rfl | rfl | rfl | rfl <;> (unfold yDf; decide +kernel)
theorem yFs_def {ad ad' : Nat → Nat} {ci : Nat} : yFs ad ci (fun _ => none) (fun _ => 0) = yFs ad' ci (fun _ => none) (fun _ => 0) := rfl
theorem y_newO (C : yCx X cc own nm rm N) {ci idx : Nat} (h8 : ci < 8) (hw : Cond.classLink own idx (yCn ci) ∈ yT ∧ Cond.instantiable (yCn ci) (yNf ci) ∈ yT ∧ Cond.initialized (yCn ci) ∈ yT) (hl : K.1 < 1000000) (hr : k + 1 ≤ rm.cells ∧ n + yNf ci ≤ rm.slots) (hc : st.all (yCl K.1) = true ∧ (L.map (fun z => z.2)).all (yCl K.1) = true) (hd : decode cc pc = .ok (.new idx, 3)) (kk : Y X (yKn K (ci + 3, 0)) (yMn K M) (k + 1) (n + yNf ci) (pc + 3) L (.ref K.1 :: st)) : Y X K M k n pc L st := by
  obtain ⟨p, l, e, R, s, m, args, below, meth, c, D, cA, A, ad0, n0, nL, Q⟩ := X
  obtain ⟨hx, hb, hml, hown, hts, hK, hA, rfl, hnL, hlk, hnm, hn0, hXs⟩ := id C
  obtain ⟨w1, w2, w3⟩ := hw
  intro ad H locs ls h1 h2 h3 h4 h5 h6
  refine va_new (D := D) (ci := ci) (fs := yFs ad ci (fun _ => none) (fun _ => 0)) hx hb hts (yIn h8) (yTy ci) (yTy_ok h8) hown (hts _ w1) (hts _ w2) (hts _ w3) hK h3 h4 h5 hA (yCl_at h8) (fun j hj => yDf_at h8 j hj) hr.1 hr.2 hd (fun q H1 e3 e4 e5 => ?_)
  have ee := yW_push (cA := cA) (ad := ad) (q := q) (M := M) (t := (ci + 3, 0)) h2 (yE_obj rfl)
  rw [show yFs (va_up ad K.1 q) ci (fun _ => none) (fun _ => 0) = yFs ad ci (fun _ => none) (fun _ => 0) from rfl] at ee
  rw [ee] at e3 e4
  have k9 := kk (va_up ad K.1 q) H1 locs ls (yAd_n h1) (yOK_n h2 hl) e3 e4 e5 (by rw [yL_up hc.2]; exact h6)
  rw [List.map_cons, yS_up hc.1, show yV (va_up ad K.1 q) (.ref K.1) = .ref q by simp [yV, va_up]] at k9
  exact k9
theorem y_newI (C : yCx X cc own nm rm N) {z : Int32} {N' : Nat} (hw : Cond.arrayClass .int ∈ yT) (hz : ¬ z < 0) (hN : z.toNatClampNeg = N') (hb4 : N' ≤ 1000000) (hl : K.1 < 1000000) (hr : k + 1 ≤ rm.cells ∧ n + N' ≤ rm.slots) (hc : st.all (yCl K.1) = true ∧ (L.map (fun z => z.2)).all (yCl K.1) = true) (hd : decode cc pc = .ok (.newarray .int, 2)) (kk : Y X (yKn K (0, N')) (yMn K M) (k + 1) (n + N') (pc + 2) L (.ref K.1 :: st)) : Y X K M k n pc L (.int z :: st) := by
  obtain ⟨p, l, e, R, s, m, args, below, meth, c, D, cA, A, ad0, n0, nL, Q⟩ := X
  obtain ⟨hx, hb, hml, hown, hts, hK, hA, rfl, hnL, hlk, hnm, hn0, hXs⟩ := id C
  intro ad H locs ls h1 h2 h3 h4 h5 h6
  refine va_newa (D := D) (atype := .int) (a0 := (N', .inl (fun _ => 0))) hx hb (hts _ hw) rfl hK h3 h4 h5 hA (fun _ => rfl) hz hN (by show N' * 4 ≤ 536870912; omega) hr.1 hr.2 hd (fun q cB H1 eK e3 e4 e5 => ?_)
  have hcB : cB = cA 0 := by
    have a1 := (eK.2 3 (cB, .int) rfl).2
    have a2 := (hK.2 0 (cA 0, .int) rfl).2
    exact Option.some.inj (a1.symm.trans a2)
  subst hcB
  have ee := yW_push (cA := cA) (ad := ad) (q := q) (M := M) (t := (0, N')) h2 (yE_int rfl)
  rw [ee] at e3 e4
  have k9 := kk (va_up ad K.1 q) H1 locs ls (yAd_n h1) (yOK_n h2 hl) e3 e4 e5 (by rw [yL_up hc.2]; exact h6)
  rw [List.map_cons, yS_up hc.1, show yV (va_up ad K.1 q) (.ref K.1) = .ref q by simp [yV, va_up]] at k9
  exact k9
theorem y_newQ (C : yCx X cc own nm rm N) {z : Int32} {N' t idx : Nat} (ht : t ≠ 0 ∧ t < 3) (hw : Cond.classLink own idx (yTc t) ∈ yT) (hz : ¬ z < 0) (hN : z.toNatClampNeg = N') (hb4 : N' ≤ 1000000) (hl : K.1 < 1000000) (hr : k + 1 ≤ rm.cells ∧ n + N' ≤ rm.slots) (hc : st.all (yCl K.1) = true ∧ (L.map (fun z => z.2)).all (yCl K.1) = true) (hd : decode cc pc = .ok (.anewarray idx, 3)) (kk : Y X (yKn K (t, N')) (yMn K M) (k + 1) (n + N') (pc + 3) L (.ref K.1 :: st)) : Y X K M k n pc L (.int z :: st) := by
  obtain ⟨p, l, e, R, s, m, args, below, meth, c, D, cA, A, ad0, n0, nL, Q⟩ := X
  obtain ⟨hx, hb, hml, hown, hts, hK, hA, rfl, hnL, hlk, hnm, hn0, hXs⟩ := id C
  have hao : va_AO (yTc t) s := by
    obtain ⟨-, -, -, -, -, -, h8, h9⟩ := hXs
    rcases (show t = 1 ∨ t = 2 by omega) with rfl | rfl
    · exact h8
    · exact h9
  intro ad H locs ls h1 h2 h3 h4 h5 h6
  refine va_newq (D := D) hx hb hown (hts _ hw) hao hK h3 h4 h5 hA hz hN (by omega) hr.1 hr.2 hd (fun q cB H1 eK e3 e4 e5 => ?_)
  have hcB : cB = cA t := by
    have a1 := (eK.2 3 (cB, .object (yTc t)) rfl).2
    have a2 := (hK.2 t (cA t, .object (yTc t)) (yTys_at ht.1 ht.2)).2
    obtain ⟨_, _, -, -, -, b1⟩ := a1
    obtain ⟨_, _, -, -, -, b2⟩ := a2
    exact Option.some.inj (b1.symm.trans b2)
  subst hcB
  have ee := yW_push (cA := cA) (ad := ad) (q := q) (M := M) (t := (t, N')) h2 (yE_ref rfl ht.1 ht.2)
  rw [show (fun i : Nat => (none : Option Nat).map (va_up ad K.1 q)) = fun _ => none from rfl] at ee
  rw [ee] at e3 e4
  have k9 := kk (va_up ad K.1 q) H1 locs ls (yAd_n h1) (yOK_n h2 hl) e3 e4 e5 (by rw [yL_up hc.2]; exact h6)
  rw [List.map_cons, yS_up hc.1, show yV (va_up ad K.1 q) (.ref K.1) = .ref q by simp [yV, va_up]] at k9
  exact k9
theorem y_objInit (C : yCx X cc own nm rm N) {idx p0 : Nat} (hw : Cond.methodLink own idx Lib.objectInit ∈ yT ∧ Cond.instanceMethod Lib.objectInit ∈ yT ∧ Cond.code Lib.objectInit ⟨#[0xb1]⟩ 1 none ∈ yT) (hr : 1 ≤ rm.frames ∧ (st.map (fun v => v.category)).sum + 12 ≤ rm.locals) (hd : decode cc pc = .ok (.invokespecial idx, 3)) (kk : Y X K M k n (pc + 3) L st) : Y X K M k n pc L (.ref p0 :: st) := by
  obtain ⟨p, l, e, R, s, m, args, below, meth, c, D, cA, A, ad0, n0, nL, Q⟩ := X
  obtain ⟨hx, hb, hml, hown, hts, hK, hA, rfl, hnL, hlk, hnm, hn0, hXs⟩ := id C
  obtain ⟨w1, w2, w3⟩ := hw
  intro ad H locs ls h1 h2 h3 h4 h5 h6
  refine W.objInit (a := ad p0) (rest := st.map (yV ad)) hx hb hown (hts _ w1) (hts _ w2) (hts _ w3) rfl (by rw [hml]; exact h6.1) rfl hd hr.1 ?_ (W.eq rfl (kk ad H locs ls h1 h2 h3 h4 h5 h6))
  have e1 : ((st.map (yV ad)).map (fun v => v.category)).sum = (st.map (fun v => v.category)).sum := by rw [List.map_map]; simp [Function.comp_def, yV_cat]
  rw [e1]
  show 2 * 0 + _ + 12 ≤ _
  omega
end
/-! what a method does -/
def yQc (D : va_G) (cA : Nat → ClassId) (ad0 : Nat → Nat) (K0 : yK) (M0 : yM) (v : Option Value) (K' : yK) (M' : yM) : Array Value → State → Outcome → State → Prop := fun _ s oc t =>
  (∃ ad' : Nat → Nat, K0.1 ≤ K'.1 ∧ (∀ p, (p < K0.1 ∨ K'.1 ≤ p) → ad' p = ad0 p) ∧ yOK K' ∧ oc = .returned (v.map (yV ad')) ∧ va_P D vwCl (yW cA ad' K' M') t.heap ∧ va_D (va_A (yW cA ad0 K0 M0) s.heap.size) (yW cA ad' K' M')) ∧ va_F (va_A (yW cA ad0 K0 M0) s.heap.size) s t
def yPc (D : va_G) (cA : Nat → ClassId) (ad : Nat → Nat) (K : yK) (M : yM) (as : List Value) (sz : Nat) : Array Value → State → Prop :=
  va_Pc (as.map (yV ad)) (fun U => U.heap.size = sz ∧ va_P D vwCl (yW cA ad K M) U.heap ∧ va_K D vwCl (yTys cA) U ∧ va_D (fun _ => True) (yW cA ad K M) ∧ yOK K ∧ yXs ad (va_A (yW cA ad K M) sz) U U.heap)
theorem yPc_blind {D : va_G} {cA : Nat → ClassId} {ad : Nat → Nat} {K : yK} {M : yM} {as : List Value} {sz : Nat} : FrameBlind (yPc D cA ad K M as sz) := by
  intro a U g mk q
  obtain ⟨q0, q1, qP, qK, qD, qO, qX⟩ := q
  exact ⟨q0, q1, qP, va_K.moved (u := U) (U := U.calling g mk a) (Vm.Alike.refl U.vm) qK, qD, qO, yXs_c qX⟩
def yMet (y : MethodName) (cc : ByteArray) (nL : Nat) (ret : Option FieldType) (rm : Room) (K : yK) (M : yM) (as : List Value) {ρ : Type} (o : Option ρ) (fin : ρ → Option Value × yK × yM) : Prop :=
  ∀ (l : Launch) (r : ρ), o = some r → ∀ (D : va_G) (cA : Nat → ClassId) (ad : Nat → Nat) (sz : Nat), Met l y (.code y cc nL ret :: yT) rm (yPc D cA ad K M as sz) (yQc D cA ad K M (fin r).1 (fin r).2.1 (fin r).2.2) rm.cells rm.slots (va_A (yW cA ad K M) sz)
def yFi (K : yK) (M : yM) : Int32 → Option Value × yK × yM := fun r => (some (.int r), K, M)
def yFb (K : yK) (M : yM) : Bool → Option Value × yK × yM := fun r => (some (.int (bI r)), K, M)
def yFl (K : yK) (M : yM) : Int64 → Option Value × yK × yM := fun r => (some (.long r), K, M)
def yFr (K : yK) (M : yM) : Nat → Option Value × yK × yM := fun r => (some (.ref r), K, M)
def yFv (K : yK) (M : yM) : Unit → Option Value × yK × yM := fun _ => (none, K, M)
def yP (o : Option Nat) : Value := match o with
  | none => .null
  | some q => .ref q
def yHi : Int32 × yK × yM → Option Value × yK × yM := fun r => (some (.int r.1), r.2.1, r.2.2)
def yHr : Nat × yK × yM → Option Value × yK × yM := fun r => (some (.ref r.1), r.2.1, r.2.2)
def yHo : Option Nat × yK × yM → Option Value × yK × yM := fun r => (some (yP r.1), r.2.1, r.2.2)
def yHv : yK × yM → Option Value × yK × yM := fun r => (none, r.1, r.2)
def yGi (K : yK) : Int32 × yM → Option Value × yK × yM := fun r => (some (.int r.1), K, r.2)
def yGb (K : yK) : Bool × yM → Option Value × yK × yM := fun r => (some (.int (bI r.1)), K, r.2)
def yGl (K : yK) : Int64 × yM → Option Value × yK × yM := fun r => (some (.long r.1), K, r.2)
def yGr (K : yK) : Nat × yM → Option Value × yK × yM := fun r => (some (.ref r.1), K, r.2)
def yGv (K : yK) : yM → Option Value × yK × yM := fun r => (none, K, r)
def yRt (X : yX) (ret : Option FieldType) (K0 : yK) (M0 : yM) (v : Option Value) (K' : yK) (M' : yM) (mc ms : Nat) : Prop :=
  match X with
  | (_, _, _, _, s, _, args, below, meth, _, D, cA, A, ad0, n0, _, Q) => meth.sig.returnType = ret ∧ n0 = K0.1 ∧ A = va_A (yW cA ad0 K0 M0) s.heap.size ∧ Q = MQ below (yQc D cA ad0 K0 M0 v K' M') args s mc ms A
theorem yArgs_map {ad : Nat → Nat} : ∀ (as : List Value) (i : Nat), lv_args i (as.map (yV ad)) = (lv_args i as).map (fun q => (q.1, yV ad q.2))
  | [], _ => rfl
  | v :: t, i => by
    rw [List.map_cons, lv_args, lv_args, List.map_cons, yV_cat]
    rw [yArgs_map t]
theorem ySl_len {ad : Nat → Nat} : ∀ (as : List Value), (lg_sl (as.map (yV ad))).length = (lg_sl as).length
  | [] => rfl
  | v :: t => by
    have := ySl_len (ad := ad) t
    simp only [lg_sl, List.map_cons, List.flatMap_cons, List.length_append, yV_cat] at this ⊢
    rw [this]
    by_cases h : v.category = 2 <;> simp [h]
theorem yM_intro {y : MethodName} {cc : ByteArray} {nL : Nat} {ret : Option FieldType} {rm : Room} {K : yK} {M : yM} {as : List Value} {ρ : Type} {o : Option ρ} {fin : ρ → Option Value × yK × yM} (hy : plainName y.cls = true) (hlen : (lg_sl as).length ≤ nL)
    (body : ∀ (X : yX) (r : ρ), o = some r → yCx X cc y.cls y.name rm nL → yRt X ret K M (fin r).1 (fin r).2.1 (fin r).2.2 rm.cells rm.slots → Y X K M 0 0 0 (lv_args 0 as) []) : yMet y cc nL ret rm K M as o fin := by
  intro l r hr D cA ad sz
  refine Met.ofW (cc := cc) (maxL := nL) (ret := ret) hy rfl ?_
  intro p e s m args below meth c s₁ B hml hv
  obtain ⟨rfl, hsz, hP, hK, hD0, hOK, hXs⟩ := hv
  have hts0 := atoms_spec (ws := .code y cc nL ret :: yT) B.pre
  have hts : ∀ w ∈ yT, w.before (as.map (yV ad)).toArray s = true := fun w hw => hts0 w (List.mem_cons_of_mem _ hw)
  have hown : s.vm.findClass y.cls = some m.cls := findClass_of_methodNamed B.named
  have hnm : meth.name = y.name := (name_of_methodNamed B.named B.method).1
  subst hsz
  have hD := hD0.self (sz := s.heap.size)
  have hl := lv_entry (as.map (yV ad)) (n := nL) (by rw [ySl_len]; exact hlen)
  rw [yArgs_map] at hl
  rw [lg_entry_eq]
  exact body (p, l, e, rm, s, m, (as.map (yV ad)).toArray, below, meth, c, D, cA, va_A (yW cA ad K M) s.heap.size, ad, K.1, nL, MQ below (yQc D cA ad K M (fin r).1 (fin r).2.1 (fin r).2.2) (as.map (yV ad)).toArray s rm.cells rm.slots (va_A (yW cA ad K M) s.heap.size)) r hr
    ⟨B.exec, B.bytes, hml, hown, hts, hK, fun q h => Or.inr h, rfl, rfl, B.notSynchronized, hnm, hOK.1, hXs⟩ ⟨B.returns, rfl, rfl, rfl⟩ ad s.heap [] _ ⟨Nat.le_refl _, fun _ _ => rfl⟩ hOK hP hD va_S.rf hl
section
variable {X : yX} {cc : ByteArray} {own nm : String} {rm : Room} {N : Nat} {K : yK} {M : yM} {k n pc : Nat} {L : List (Nat × Value)} {st : List Value} {ret : Option FieldType} {K0 : yK} {M0 : yM} {mc ms : Nat}
theorem y_zret {x : Int32} {ty : FieldType} (C : yCx X cc own nm rm N) (E : yRt X (some ty) K0 M0 (some (.int x)) K M mc ms) (hn : narrow ty (.int x) = .int x) (h1 : k ≤ mc) (h2 : n ≤ ms) (hd : decode cc pc = .ok (.ireturn, 1)) : Y X K M k n pc L [.int x] := by
  obtain ⟨p, l, e, R, s, m, args, below, meth, c, D, cA, A, ad0, n0, nL, Q⟩ := X
  obtain ⟨hx, hb, hml, hown, hts, hK, hA, hR, hnL, hlk, hnm, hn0, hXs⟩ := id C
  obtain ⟨e1, e2, e3, e4⟩ := E
  intro ad H locs ls g1 g2 g3 g4 g5 g6
  subst e4
  refine W.widen h1 h2 (W.zret (v := x) hx hb e1 hn (fun t ht hW => ⟨⟨ad, by rw [← e2]; exact g1.1, by rw [← e2]; exact g1.2, g2, rfl, by rw [ht]; exact g3, by rw [← e3]; exact g4⟩, ?_⟩) g5.2.2 hd hlk)
  rw [← e3]
  exact g5.F ht
theorem y_iret {x : Int32} (C : yCx X cc own nm rm N) (E : yRt X (some .int) K0 M0 (some (.int x)) K M mc ms) (h1 : k ≤ mc) (h2 : n ≤ ms) (hd : decode cc pc = .ok (.ireturn, 1)) : Y X K M k n pc L [.int x] := y_zret C E rfl h1 h2 hd
theorem y_bret {b : Bool} (C : yCx X cc own nm rm N) (E : yRt X (some .boolean) K0 M0 (some (.int (bI b))) K M mc ms) (h1 : k ≤ mc) (h2 : n ≤ ms) (hd : decode cc pc = .ok (.ireturn, 1)) : Y X K M k n pc L [.int (bI b)] := y_zret C E (bI_n b) h1 h2 hd
theorem y_lret {x : Int64} (C : yCx X cc own nm rm N) (E : yRt X (some .long) K0 M0 (some (.long x)) K M mc ms) (h1 : k ≤ mc) (h2 : n ≤ ms) (hd : decode cc pc = .ok (.lreturn, 1)) : Y X K M k n pc L [.long x] := by
  obtain ⟨p, l, e, R, s, m, args, below, meth, c, D, cA, A, ad0, n0, nL, Q⟩ := X
  obtain ⟨hx, hb, hml, hown, hts, hK, hA, hR, hnL, hlk, hnm, hn0, hXs⟩ := id C
  obtain ⟨e1, e2, e3, e4⟩ := E
  intro ad H locs ls g1 g2 g3 g4 g5 g6
  subst e4
  refine W.widen h1 h2 (W.lret (v := x) hx hb e1 (fun t ht hW => ⟨⟨ad, by rw [← e2]; exact g1.1, by rw [← e2]; exact g1.2, g2, rfl, by rw [ht]; exact g3, by rw [← e3]; exact g4⟩, ?_⟩) g5.2.2 hd hlk)
  rw [← e3]
  exact g5.F ht
theorem y_vret (C : yCx X cc own nm rm N) (E : yRt X none K0 M0 none K M mc ms) (h1 : k ≤ mc) (h2 : n ≤ ms) (hd : decode cc pc = .ok (.return_, 1)) : Y X K M k n pc L [] := by
  obtain ⟨p, l, e, R, s, m, args, below, meth, c, D, cA, A, ad0, n0, nL, Q⟩ := X
  obtain ⟨hx, hb, hml, hown, hts, hK, hA, hR, hnL, hlk, hnm, hn0, hXs⟩ := id C
  obtain ⟨e1, e2, e3, e4⟩ := E
  intro ad H locs ls g1 g2 g3 g4 g5 g6
  subst e4
  refine W.widen h1 h2 (W.vret hx hb e1 (fun t ht hW => ⟨⟨ad, by rw [← e2]; exact g1.1, by rw [← e2]; exact g1.2, g2, rfl, by rw [ht]; exact g3, by rw [← e3]; exact g4⟩, ?_⟩) g5.2.2 hd hlk)
  rw [← e3]
  exact g5.F ht
theorem y_aret {v : Value} {ty : FieldType} (C : yCx X cc own nm rm N) (E : yRt X (some ty) K0 M0 (some v) K M mc ms) (hrt : (∃ z, ty = .object z) ∨ ∃ t, ty = .array t) (hv : v = .null ∨ ∃ q, v = .ref q) (h1 : k ≤ mc) (h2 : n ≤ ms) (hd : decode cc pc = .ok (.areturn, 1)) : Y X K M k n pc L [v] := by
  obtain ⟨p, l, e, R, s, m, args, below, meth, c, D, cA, A, ad0, n0, nL, Q⟩ := X
  obtain ⟨hx, hb, hml, hown, hts, hK, hA, hR, hnL, hlk, hnm, hn0, hXs⟩ := id C
  obtain ⟨e1, e2, e3, e4⟩ := E
  intro ad H locs ls g1 g2 g3 g4 g5 g6
  subst e4
  refine W.widen h1 h2 (W.aret (v := yV ad v) hx hb e1 hrt (by rcases hv with rfl | ⟨q, rfl⟩; exact Or.inl rfl; exact Or.inr ⟨_, rfl⟩) (fun t ht hW => ⟨⟨ad, by rw [← e2]; exact g1.1, by rw [← e2]; exact g1.2, g2, rfl, by rw [ht]; exact g3, by rw [← e3]; exact g4⟩, ?_⟩) g5.2.2 hd hlk)
  rw [← e3]
  exact g5.F ht
end
/-! calls -/
section
variable {X : yX} {cc : ByteArray} {own nm : String} {rm : Room} {N : Nat} {K : yK} {M : yM} {k n pc : Nat} {L : List (Nat × Value)} {st : List Value}
def yCl2 (a b : Nat) : Value → Bool
  | .ref p => decide (p < a ∨ b ≤ p)
  | _ => true
theorem yV_2 {ad ad' : Nat → Nat} {a b : Nat} {v : Value} (hA : ∀ p, (p < a ∨ b ≤ p) → ad' p = ad p) (h : yCl2 a b v = true) : yV ad' v = yV ad v := by
  cases v with
  | ref p =>
    have hp : p < a ∨ b ≤ p := of_decide_eq_true h
    show Value.ref (ad' p) = Value.ref (ad p)
    rw [hA p hp]
  | _ => rfl
theorem yCl2_same {a b : Nat} (h : b ≤ a) (v : Value) : yCl2 a b v = true := by
  cases v with
  | ref p =>
    show decide (p < a ∨ b ≤ p) = true
    rcases Nat.lt_or_ge p a with q | q
    · exact decide_eq_true (Or.inl q)
    · exact decide_eq_true (Or.inr (Nat.le_trans h q))
  | _ => rfl
/-- the words on a called method -/
def yCw (own : String) (idx : Nat) (y : MethodName) (cy : ByteArray) (nLy : Nat) (rety : Option FieldType) (np : Nat) : Prop :=
  Cond.code y cy nLy rety ∈ yT ∧ Cond.initialized y.cls ∈ yT ∧ Cond.methodLink own idx y ∈ yT ∧ (y.cls ≠ "java/lang/invoke/MethodHandle" ∧ y.cls ≠ "java/lang/invoke/VarHandle") ∧ (parseMethodDescriptor y.desc).map (fun d => d.parameters.length) = some np
theorem yCw_B {own : String} {idx : Nat} {y : MethodName} {cy : ByteArray} {nLy np : Nat} {rety : Option FieldType} {R rmy : Room} {s : State} {args : Array Value} (h : yCw own idx y cy nLy rety np) (hts : ∀ w ∈ yT, w.before args s = true) (hR : rmy.frames + 1 ≤ R.frames ∧ 8 + (nLy + 11) + rmy.locals ≤ R.locals) : CallB R s args own idx y cy nLy rety (.code y cy nLy rety :: yT) rmy rmy.cells rmy.slots np := by
  obtain ⟨h1, h2, h3, h4, h5⟩ := h
  exact callB_of np hts (yGI (fun w hw => by rcases List.mem_cons.mp hw with rfl | hw; exact h1; exact hw)) rfl rfl rfl (hts _ h2) (hts _ h3) ⟨h4.1, h4.2, h5⟩ hR
/-- behind a call -/
theorem y_behind {p : Program} {l : Launch} {e : Env} {R : Room} {s : State} {m : MethodId} {args : Array Value} {below : List Frame} {meth : Method} {c : Code} {D : va_G} {cA : Nat → ClassId} {A : Nat → Prop} {ad0 : Nat → Nat} {n0 nL : Nat} {Q : State → Prop} {K' : yK} {M' : yM} {v : Option Value} {mc ms : Nat} {ad : Nat → Nat} {H : Heap} {locs : List Loc} {ls : Array Slot} {a : Array Value} {st0 : List Value}
    (hA : ∀ q, s.heap.size ≤ q → A q) (h1 : yAd ad0 n0 K ad) (h3 : va_P D vwCl (yW cA ad K M) H) (h4 : va_D A (yW cA ad K M)) (h5 : va_S A s.heap H locs) (h6 : lv_has ls nL (L.map (fun q => (q.1, yV ad q.2))))
    (hr : va_Run p l e R s m args below meth c H locs k n mc ms (F0 m pc ls st0) (st.map (yV ad)) (yQc D cA ad K M v K' M' a) (va_A (yW cA ad K M) H.size))
    (hcl : st.all (yCl2 K.1 K'.1) = true ∧ (L.map (fun z => z.2)).all (yCl2 K.1 K'.1) = true)
    (kk : Y (p, l, e, R, s, m, args, below, meth, c, D, cA, A, ad0, n0, nL, Q) K' M' (k + mc) (n + ms) (pc + 3) L (v.toList ++ st)) : W p l e R s m args below meth c H locs k n Q (F0 m pc ls st0) := by
  have hF : ∀ q, va_A (yW cA ad K M) H.size q → A q := fun q h => by
    rcases h with ⟨j, z, hz⟩ | h
    · exact h4.2 j (q, z) hz
    · exact hA q (Nat.le_trans h5.1 h)
  intro T hT XS
  obtain ⟨v1, s1, t, T', L1, b0, X', hL, b1, b2, ⟨⟨ad', c1, c2, c3, c4, c5, c6⟩, hz, hk⟩, sr⟩ := hr T hT XS
  rw [b0] at hz hk c6
  have hv1 : v1 = v.map (yV ad') := by cases c4; rfl
  rw [← b1] at c5
  have g5 : va_S A s.heap T'.heap (locs ++ L1) := by
    refine ⟨Nat.le_trans h5.1 (by rw [b1]; exact hz), fun q q1 q2 => by rw [b1, hk q (Nat.lt_of_lt_of_le q1 h5.1) (fun z => q2 (hF q z))]; exact h5.2.1 q q1 q2, fun q hq => ?_⟩
    rcases List.mem_append.mp hq with h | h
    · exact h5.2.2 q h
    · exact hF _ (hL q h)
  have eL : L.map (fun q => (q.1, yV ad' q.2)) = L.map (fun q => (q.1, yV ad q.2)) := by
    apply List.map_congr_left
    intro z hz
    rw [yV_2 c2 (List.all_eq_true.mp hcl.2 z.2 (List.mem_map.mpr ⟨z, hz, rfl⟩))]
  have eS : st.map (yV ad') = st.map (yV ad) := by
    apply List.map_congr_left
    intro z hz
    exact yV_2 c2 (List.all_eq_true.mp hcl.1 z hz)
  have k9 := kk ad' T'.heap (locs ++ L1) ls ⟨Nat.le_trans h1.1 c1, fun q hq => by
    rw [c2 q (by have := h1.1; omega)]
    exact h1.2 q (by omega)⟩ c3 c5 (c6.weaken (fun _ q _ h => hF q.1 h)) g5 (by rw [eL]; exact h6)
  have e9 : (v.toList ++ st).map (yV ad') = v1.toList ++ st.map (yV ad) := by
    rw [List.map_append, eS, hv1]
    cases v <;> rfl
  rw [e9] at k9
  obtain ⟨t2, a1, d1⟩ := k9 T' rfl X'
  exact ⟨t2, sr t2 a1, d1⟩
theorem y_pc {p : Program} {l : Launch} {e : Env} {R : Room} {s : State} {m : MethodId} {args : Array Value} {below : List Frame} {meth : Method} {c : Code} {D : va_G} {cA : Nat → ClassId} {A : Nat → Prop} {ad0 : Nat → Nat} {n0 nL : Nat} {Q : State → Prop} {ad : Nat → Nat} {H : Heap} {locs : List Loc} {as : List Value}
    (C : yCx (p, l, e, R, s, m, args, below, meth, c, D, cA, A, ad0, n0, nL, Q) cc own nm rm N) (h1 : yAd ad0 n0 K ad) (h2 : yOK K) (h3 : va_P D vwCl (yW cA ad K M) H) (h4 : va_D A (yW cA ad K M)) (h5 : va_S A s.heap H locs) : PreS s H (yPc D cA ad K M as H.size) (as.map (yV ad)) := by
  obtain ⟨hx, hb, hml, hown, hts, hK, hA, hR, hnL, hlk, hnm, hn0, hXs⟩ := id C
  have hF : ∀ q, va_A (yW cA ad K M) H.size q → A q := fun q h => by
    rcases h with ⟨j, z, hz⟩ | h
    · exact h4.2 j (q, z) hz
    · exact hA q (Nat.le_trans h5.1 h)
  refine ⟨yPc_blind, fun U hU hW => ⟨rfl, by rw [hU], by rw [hU]; exact h3, va_K.moved hW.alike hK, h4.weaken (fun _ _ _ _ => trivial), h2, ?_⟩⟩
  rw [hU]
  exact yXs_mv hXs h5.2.1 (fun q _ h => hF q h) (fun q h => hA q (Nat.le_trans h5.1 h)) (fun q hq => h1.2 q (Or.inr (Nat.le_trans h2.1 hq))) hW
variable {y : MethodName} {cy : ByteArray} {nLy np idx : Nat} {rety : Option FieldType} {rmy : Room} {ρ : Type} {o : Option ρ} {fin : ρ → Option Value × yK × yM} {r : ρ}
theorem y_callS (C : yCx X cc own nm rm N) (as : List Value) (hM : yMet y cy nLy rety rmy K M as o fin) (hr : o = some r) (hw : yCw own idx y cy nLy rety np ∧ Cond.static y ∈ yT) (hn : as.length = np) (hR : rmy.frames + 1 ≤ rm.frames ∧ 8 + (nLy + 11) + rmy.locals ≤ rm.locals) (hcs : k + rmy.cells ≤ rm.cells ∧ n + rmy.slots ≤ rm.slots) (hst : (st.map (fun v => v.category)).sum ≤ 8) {st0 : List Value} (hs0 : st0 = as.reverse ++ st) (hcl : st.all (yCl2 K.1 (fin r).2.1.1) = true ∧ (L.map (fun z => z.2)).all (yCl2 K.1 (fin r).2.1.1) = true) (hd : decode cc pc = .ok (.invokestatic idx, 3))
    (kk : Y X (fin r).2.1 (fin r).2.2 (k + rmy.cells) (n + rmy.slots) (pc + 3) L ((fin r).1.toList ++ st)) : Y X K M k n pc L st0 := by
  obtain ⟨p, l, e, R, s, m, args, below, meth, c, D, cA, A, ad0, n0, nL, Q⟩ := X
  obtain ⟨hx, hb, hml, hown, hts, hK, hA, rfl, hnL, hlk, hnm, hn0, hXs⟩ := id C
  intro ad H locs ls h1 h2 h3 h4 h5 h6
  subst hs0
  refine y_behind hA h1 h3 h4 h5 h6 (va_runS (As := as.map (yV ad)) (rest := st.map (yV ad)) (n := np) ⟨hx, hb, hml, hown, hts⟩ (hM l r hr D cA ad H.size) ⟨yCw_B hw.1 hts hR, hts _ hw.2⟩ (y_pc C h1 h2 h3 h4 h5) rfl (by rw [List.length_map]; exact hn) h6.1 (by rw [List.map_append, List.map_reverse]) (lv_room (by rw [List.map_map]; simpa [Function.comp_def, yV_cat] using hst)) hd hcs) hcl kk
theorem y_callV (C : yCx X cc own nm rm N) {ci p0 : Nat} (as : List Value) (hM : yMet y cy nLy rety rmy K M (.ref p0 :: as) o fin) (hr : o = some r) (hg : gO K p0 ci = true) (h8 : ci < 8) (hw : yCw own idx y cy nLy rety np ∧ Cond.instanceMethod y ∈ yT ∧ Cond.selects (yCn ci) y y ∈ yT) (hn : as.length = np) (hR : rmy.frames + 1 ≤ rm.frames ∧ 8 + (nLy + 11) + rmy.locals ≤ rm.locals) (hcs : k + rmy.cells ≤ rm.cells ∧ n + rmy.slots ≤ rm.slots) (hst : (st.map (fun v => v.category)).sum ≤ 8) {st0 : List Value} (hs0 : st0 = as.reverse ++ .ref p0 :: st) (hcl : st.all (yCl2 K.1 (fin r).2.1.1) = true ∧ (L.map (fun z => z.2)).all (yCl2 K.1 (fin r).2.1.1) = true) (hd : decode cc pc = .ok (.invokevirtual idx, 3))
    (kk : Y X (fin r).2.1 (fin r).2.2 (k + rmy.cells) (n + rmy.slots) (pc + 3) L ((fin r).1.toList ++ st)) : Y X K M k n pc L st0 := by
  obtain ⟨p, l, e, R, s, m, args, below, meth, c, D, cA, A, ad0, n0, nL, Q⟩ := X
  obtain ⟨hx, hb, hml, hown, hts, hK, hA, rfl, hnL, hlk, hnm, hn0, hXs⟩ := id C
  intro ad H locs ls h1 h2 h3 h4 h5 h6
  subst hs0
  have hp := y_pc (as := .ref p0 :: as) C h1 h2 h3 h4 h5
  refine y_behind hA h1 h3 h4 h5 h6 (va_runV (C := yCn ci) (b := ad p0) (As := as.map (yV ad)) (rest := st.map (yV ad)) (n := np) ⟨hx, hb, hml, hown, hts⟩ (hM l r hr D cA ad H.size) ⟨yCw_B hw.1 hts hR, hts _ hw.2.1, hts _ hw.2.2⟩ ⟨hp.1, va_recv hK h3 (yCl_at h8) (yW_obj (gO_s hg).1 (gO_s hg).2), hp.2⟩ rfl (by rw [List.length_map]; exact hn) h6.1 (by rw [List.map_append, List.map_reverse]; rfl) (lv_room (by rw [List.map_map]; simpa [Function.comp_def, yV_cat] using hst)) hd hcs) hcl kk
theorem y_callI (C : yCx X cc own nm rm N) {p0 : Nat} (as : List Value) (hM : yMet y cy nLy none rmy K M (.ref p0 :: as) o fin) (hr : o = some r) (hw : yCw own idx y cy nLy none np ∧ Cond.instanceMethod y ∈ yT) (hin : y.name = "<init>") (hn : as.length = np) (hR : rmy.frames + 1 ≤ rm.frames ∧ 8 + (nLy + 11) + rmy.locals ≤ rm.locals) (hcs : k + rmy.cells ≤ rm.cells ∧ n + rmy.slots ≤ rm.slots) (hst : (st.map (fun v => v.category)).sum ≤ 8) {st0 : List Value} (hs0 : st0 = as.reverse ++ .ref p0 :: st) (hcl : st.all (yCl2 K.1 (fin r).2.1.1) = true ∧ (L.map (fun z => z.2)).all (yCl2 K.1 (fin r).2.1.1) = true) (hd : decode cc pc = .ok (.invokespecial idx, 3))
    (kk : Y X (fin r).2.1 (fin r).2.2 (k + rmy.cells) (n + rmy.slots) (pc + 3) L ((fin r).1.toList ++ st)) : Y X K M k n pc L st0 := by
  obtain ⟨p, l, e, R, s, m, args, below, meth, c, D, cA, A, ad0, n0, nL, Q⟩ := X
  obtain ⟨hx, hb, hml, hown, hts, hK, hA, rfl, hnL, hlk, hnm, hn0, hXs⟩ := id C
  intro ad H locs ls h1 h2 h3 h4 h5 h6
  subst hs0
  refine y_behind hA h1 h3 h4 h5 h6 (va_runI (b := ad p0) (As := as.map (yV ad)) (rest := st.map (yV ad)) (n := np) ⟨hx, hb, hml, hown, hts⟩ (hM l r hr D cA ad H.size) ⟨yCw_B hw.1 hts hR, hin, hts _ hw.2⟩ (y_pc (as := .ref p0 :: as) C h1 h2 h3 h4 h5) rfl (by rw [List.length_map]; exact hn) h6.1 (by rw [List.map_append, List.map_reverse]; rfl) (lv_room (by rw [List.map_map]; simpa [Function.comp_def, yV_cat] using hst)) hd hcs) hcl kk
/-- a private constructor of a class of the same nest -/
theorem y_callN (C : yCx X cc own nm rm N) {p0 : Nat} (as : List Value) (hM : yMet y cy nLy none rmy K M (.ref p0 :: as) o fin) (hr : o = some r) (hq : (own, idx, y) ∈ yNs) (hw : Cond.code y cy nLy none ∈ yT ∧ Cond.initialized y.cls ∈ yT ∧ Cond.instanceMethod y ∈ yT ∧ (y.cls ≠ "java/lang/invoke/MethodHandle" ∧ y.cls ≠ "java/lang/invoke/VarHandle" ∧ (parseMethodDescriptor y.desc).map (fun d => d.parameters.length) = some np)) (hin : y.name = "<init>") (hn : as.length = np) (hR : rmy.frames + 1 ≤ rm.frames ∧ 8 + (nLy + 11) + rmy.locals ≤ rm.locals) (hcs : k + rmy.cells ≤ rm.cells ∧ n + rmy.slots ≤ rm.slots) (hst : (st.map (fun v => v.category)).sum ≤ 8) {st0 : List Value} (hs0 : st0 = as.reverse ++ .ref p0 :: st) (hcl : st.all (yCl2 K.1 (fin r).2.1.1) = true ∧ (L.map (fun z => z.2)).all (yCl2 K.1 (fin r).2.1.1) = true) (hd : decode cc pc = .ok (.invokespecial idx, 3))
    (kk : Y X (fin r).2.1 (fin r).2.2 (k + rmy.cells) (n + rmy.slots) (pc + 3) L ((fin r).1.toList ++ st)) : Y X K M k n pc L st0 := by
  obtain ⟨p, l, e, R, s, m, args, below, meth, c, D, cA, A, ad0, n0, nL, Q⟩ := X
  obtain ⟨hx, hb, hml, hown, hts, hK, hA, rfl, hnL, hlk, hnm, hn0, hXs⟩ := id C
  obtain ⟨w1, w2, w3, w4⟩ := hw
  have hG : GoodIn yT (.code y cy nLy none :: yT) := yGI (fun w hw => by rcases List.mem_cons.mp hw with rfl | hw; exact w1; exact hw)
  have hN := hXs.2.2.2.2.2.1 (own, idx, y) hq
  intro ad H locs ls h1 h2 h3 h4 h5 h6
  subst hs0
  refine y_behind hA h1 h3 h4 h5 h6 (va_runIN (host := "OneReader") (b := ad p0) (As := as.map (yV ad)) (rest := st.map (yV ad)) (n := np) ⟨hx, hb, hml, hown, hts⟩ (hM l r hr D cA ad H.size) ⟨va_cnB np hts hG rfl rfl rfl hN (hts _ w2) w4 hR, hin, hts _ w3⟩ (y_pc (as := .ref p0 :: as) C h1 h2 h3 h4 h5) rfl (by rw [List.length_map]; exact hn) h6.1 (by rw [List.map_append, List.map_reverse]; rfl) (lv_room (by rw [List.map_map]; simpa [Function.comp_def, yV_cat] using hst)) hd hcs) hcl kk
/-! calls that make nothing -/
variable {M' : yM} {v : Option Value} {st1 : List Value}
theorem yCl2_st {a : Nat} (l : List Value) : l.all (yCl2 a a) = true := List.all_eq_true.mpr (fun v _ => yCl2_same (Nat.le_refl a) v)
theorem y_cS (C : yCx X cc own nm rm N) (as : List Value) (hM : yMet y cy nLy rety rmy K M as o fin) (hr : o = some r) (hw : yCw own idx y cy nLy rety np ∧ Cond.static y ∈ yT) (hn : as.length = np) (hR : rmy.frames + 1 ≤ rm.frames ∧ 8 + (nLy + 11) + rmy.locals ≤ rm.locals) (h0 : rmy.cells = 0 ∧ rmy.slots = 0) (hcs : k ≤ rm.cells ∧ n ≤ rm.slots) (hst : (st.map (fun v => v.category)).sum ≤ 8) (hf : fin r = (v, K, M')) {st0 : List Value} (hs0 : st0 = as.reverse ++ st) (hs1 : v.toList ++ st = st1) (hd : decode cc pc = .ok (.invokestatic idx, 3))
    (kk : Y X K M' k n (pc + 3) L st1) : Y X K M k n pc L st0 := by
  have e1 : (fin r).2.1.1 = K.1 := by rw [hf]
  refine y_callS C as hM hr hw hn hR (by rw [h0.1, h0.2]; exact hcs) hst hs0 (by rw [e1]; exact ⟨yCl2_st _, yCl2_st _⟩) hd ?_
  rw [hf, h0.1, h0.2]
  subst hs1
  exact kk
theorem y_cV (C : yCx X cc own nm rm N) {ci p0 : Nat} (as : List Value) (hM : yMet y cy nLy rety rmy K M (.ref p0 :: as) o fin) (hr : o = some r) (hg : gO K p0 ci = true) (hw : (yCw own idx y cy nLy rety np ∧ Cond.instanceMethod y ∈ yT ∧ Cond.selects (yCn ci) y y ∈ yT) ∧ ci < 8) (hn : as.length = np) (hR : rmy.frames + 1 ≤ rm.frames ∧ 8 + (nLy + 11) + rmy.locals ≤ rm.locals) (h0 : rmy.cells = 0 ∧ rmy.slots = 0) (hcs : k ≤ rm.cells ∧ n ≤ rm.slots) (hst : (st.map (fun v => v.category)).sum ≤ 8) (hf : fin r = (v, K, M')) {st0 : List Value} (hs0 : st0 = as.reverse ++ .ref p0 :: st) (hs1 : v.toList ++ st = st1) (hd : decode cc pc = .ok (.invokevirtual idx, 3))
    (kk : Y X K M' k n (pc + 3) L st1) : Y X K M k n pc L st0 := by
  have e1 : (fin r).2.1.1 = K.1 := by rw [hf]
  refine y_callV C as hM hr hg hw.2 hw.1 hn hR (by rw [h0.1, h0.2]; exact hcs) hst hs0 (by rw [e1]; exact ⟨yCl2_st _, yCl2_st _⟩) hd ?_
  rw [hf, h0.1, h0.2]
  subst hs1
  exact kk
/-! calls that make -/
variable {K' : yK}
theorem y_aS (C : yCx X cc own nm rm N) (as : List Value) (hM : yMet y cy nLy rety rmy K M as o fin) (hr : o = some r) (hw : yCw own idx y cy nLy rety np ∧ Cond.static y ∈ yT) (hn : as.length = np) (hR : rmy.frames + 1 ≤ rm.frames ∧ 8 + (nLy + 11) + rmy.locals ≤ rm.locals) (hcs : k + rmy.cells ≤ rm.cells ∧ n + rmy.slots ≤ rm.slots) (hst : (st.map (fun v => v.category)).sum ≤ 8) (hf : fin r = (v, K', M')) {st0 : List Value} (hs0 : st0 = as.reverse ++ st) {k' n' : Nat} (hk : k + rmy.cells = k') (hn2 : n + rmy.slots = n') (hs1 : v.toList ++ st = st1) (hcl : st.all (yCl2 K.1 K'.1) = true ∧ (L.map (fun z => z.2)).all (yCl2 K.1 K'.1) = true) (hd : decode cc pc = .ok (.invokestatic idx, 3))
    (kk : Y X K' M' k' n' (pc + 3) L st1) : Y X K M k n pc L st0 := by
  subst hk hn2 hs1
  have e1 : (fin r).2.1 = K' := by rw [hf]
  refine y_callS C as hM hr hw hn hR hcs hst hs0 (by rw [e1]; exact hcl) hd ?_
  rw [hf]
  exact kk
theorem y_aV (C : yCx X cc own nm rm N) {ci p0 : Nat} (as : List Value) (hM : yMet y cy nLy rety rmy K M (.ref p0 :: as) o fin) (hr : o = some r) (hg : gO K p0 ci = true) (hw : (yCw own idx y cy nLy rety np ∧ Cond.instanceMethod y ∈ yT ∧ Cond.selects (yCn ci) y y ∈ yT) ∧ ci < 8) (hn : as.length = np) (hR : rmy.frames + 1 ≤ rm.frames ∧ 8 + (nLy + 11) + rmy.locals ≤ rm.locals) (hcs : k + rmy.cells ≤ rm.cells ∧ n + rmy.slots ≤ rm.slots) (hst : (st.map (fun v => v.category)).sum ≤ 8) (hf : fin r = (v, K', M')) {st0 : List Value} (hs0 : st0 = as.reverse ++ .ref p0 :: st) {k' n' : Nat} (hk : k + rmy.cells = k') (hn2 : n + rmy.slots = n') (hs1 : v.toList ++ st = st1) (hcl : st.all (yCl2 K.1 K'.1) = true ∧ (L.map (fun z => z.2)).all (yCl2 K.1 K'.1) = true) (hd : decode cc pc = .ok (.invokevirtual idx, 3))
    (kk : Y X K' M' k' n' (pc + 3) L st1) : Y X K M k n pc L st0 := by
  subst hk hn2 hs1
  have e1 : (fin r).2.1 = K' := by rw [hf]
  refine y_callV C as hM hr hg hw.2 hw.1 hn hR hcs hst hs0 (by rw [e1]; exact hcl) hd ?_
  rw [hf]
  exact kk
theorem y_aI (C : yCx X cc own nm rm N) {p0 : Nat} (as : List Value) (hM : yMet y cy nLy none rmy K M (.ref p0 :: as) o fin) (hr : o = some r) (hw : yCw own idx y cy nLy none np ∧ Cond.instanceMethod y ∈ yT) (hin : y.name = "<init>") (hn : as.length = np) (hR : rmy.frames + 1 ≤ rm.frames ∧ 8 + (nLy + 11) + rmy.locals ≤ rm.locals) (hcs : k + rmy.cells ≤ rm.cells ∧ n + rmy.slots ≤ rm.slots) (hst : (st.map (fun v => v.category)).sum ≤ 8) (hf : fin r = (v, K', M')) {st0 : List Value} (hs0 : st0 = as.reverse ++ .ref p0 :: st) {k' n' : Nat} (hk : k + rmy.cells = k') (hn2 : n + rmy.slots = n') (hs1 : v.toList ++ st = st1) (hcl : st.all (yCl2 K.1 K'.1) = true ∧ (L.map (fun z => z.2)).all (yCl2 K.1 K'.1) = true) (hd : decode cc pc = .ok (.invokespecial idx, 3))
    (kk : Y X K' M' k' n' (pc + 3) L st1) : Y X K M k n pc L st0 := by
  subst hk hn2 hs1
  have e1 : (fin r).2.1 = K' := by rw [hf]
  refine y_callI C as hM hr hw hin hn hR hcs hst hs0 (by rw [e1]; exact hcl) hd ?_
  rw [hf]
  exact kk
theorem y_aN (C : yCx X cc own nm rm N) {p0 : Nat} (as : List Value) (hM : yMet y cy nLy none rmy K M (.ref p0 :: as) o fin) (hr : o = some r) (hq : (own, idx, y) ∈ yNs) (hw : Cond.code y cy nLy none ∈ yT ∧ Cond.initialized y.cls ∈ yT ∧ Cond.instanceMethod y ∈ yT ∧ (y.cls ≠ "java/lang/invoke/MethodHandle" ∧ y.cls ≠ "java/lang/invoke/VarHandle" ∧ (parseMethodDescriptor y.desc).map (fun d => d.parameters.length) = some np)) (hin : y.name = "<init>") (hn : as.length = np) (hR : rmy.frames + 1 ≤ rm.frames ∧ 8 + (nLy + 11) + rmy.locals ≤ rm.locals) (hcs : k + rmy.cells ≤ rm.cells ∧ n + rmy.slots ≤ rm.slots) (hst : (st.map (fun v => v.category)).sum ≤ 8) (hf : fin r = (v, K', M')) {st0 : List Value} (hs0 : st0 = as.reverse ++ .ref p0 :: st) {k' n' : Nat} (hk : k + rmy.cells = k') (hn2 : n + rmy.slots = n') (hs1 : v.toList ++ st = st1) (hcl : st.all (yCl2 K.1 K'.1) = true ∧ (L.map (fun z => z.2)).all (yCl2 K.1 K'.1) = true) (hd : decode cc pc = .ok (.invokespecial idx, 3))
    (kk : Y X K' M' k' n' (pc + 3) L st1) : Y X K M k n pc L st0 := by
  subst hk hn2 hs1
  have e1 : (fin r).2.1 = K' := by rw [hf]
  refine y_callN C as hM hr hq hw hin hn hR hcs hst hs0 (by rw [e1]; exact hcl) hd ?_
  rw [hf]
  exact kk
end
/-! texts that the class file holds: their places are 1000001 + i, their bytes' 1000101 + i -/
section
variable {X : yX} {cc : ByteArray} {own nm : String} {rm : Room} {N : Nat} {K : yK} {M : yM} {k n pc : Nat} {L : List (Nat × Value)} {st : List Value}
theorem y_strV (C : yCx X cc own nm rm N) {i idx : Nat} (hi : i < 12) (hw : Cond.fieldLink own idx "java/lang/String" "value" "[B" ∈ yT) (hd : decode cc pc = .ok (.getfield idx, 3)) (kk : Y X K M k n (pc + 3) L (.ref (1000101 + i) :: st)) : Y X K M k n pc L (.ref (1000001 + i) :: st) := by
  obtain ⟨p, l, e, R, s, m, args, below, meth, c, D, cA, A, ad0, n0, nL, Q⟩ := X
  obtain ⟨hx, hb, hml, hown, hts, hK, hA, hR, hnL, hlk, hnm, hn0, hXs⟩ := id C
  intro ad H locs ls h1 h2 h3 h4 h5 h6
  have e1 : ad (1000001 + i) = ad0 (1000001 + i) := h1.2 _ (Or.inr (by have := h2.1; omega))
  have e2 : ad (1000101 + i) = ad0 (1000101 + i) := h1.2 _ (Or.inr (by have := h2.1; omega))
  have k9 := kk ad H locs ls h1 h2 h3 h4 h5 h6
  rw [List.map_cons, show yV ad (.ref (1000101 + i)) = .ref (ad0 (1000101 + i)) by rw [← e2]; rfl] at k9
  rw [List.map_cons, show yV ad (.ref (1000001 + i)) = .ref (ad0 (1000001 + i)) by rw [← e1]; rfl]
  exact vk_getf hx hb (hXs.2.2.2.1.1 i hi).2.2.1 h5 hown (hts _ hw) (fun _ z => z) hd k9
theorem y_strC (C : yCx X cc own nm rm N) {i idx : Nat} (hi : i < 12) (hw : Cond.fieldLink own idx "java/lang/String" "coder" "B" ∈ yT) (hd : decode cc pc = .ok (.getfield idx, 3)) (kk : Y X K M k n (pc + 3) L (.int 0 :: st)) : Y X K M k n pc L (.ref (1000001 + i) :: st) := by
  obtain ⟨p, l, e, R, s, m, args, below, meth, c, D, cA, A, ad0, n0, nL, Q⟩ := X
  obtain ⟨hx, hb, hml, hown, hts, hK, hA, hR, hnL, hlk, hnm, hn0, hXs⟩ := id C
  intro ad H locs ls h1 h2 h3 h4 h5 h6
  have e1 : ad (1000001 + i) = ad0 (1000001 + i) := h1.2 _ (Or.inr (by have := h2.1; omega))
  rw [List.map_cons, show yV ad (.ref (1000001 + i)) = .ref (ad0 (1000001 + i)) by rw [← e1]; rfl]
  exact vk_getf hx hb (hXs.2.2.2.1.1 i hi).2.1 h5 hown (hts _ hw) (fun _ z => z) hd (kk ad H locs ls h1 h2 h3 h4 h5 h6)
theorem y_getCS (C : yCx X cc own nm rm N) {idx : Nat} (hw : Cond.fieldLink own idx "java/lang/String" "COMPACT_STRINGS" "Z" ∈ yT) (hd : decode cc pc = .ok (.getstatic idx, 3)) (kk : Y X K M k n (pc + 3) L (.int 1 :: st)) : Y X K M k n pc L st := by
  obtain ⟨p, l, e, R, s, m, args, below, meth, c, D, cA, A, ad0, n0, nL, Q⟩ := X
  obtain ⟨hx, hb, hml, hown, hts, hK, hA, hR, hnL, hlk, hnm, hn0, hXs⟩ := id C
  intro ad H locs ls h1 h2 h3 h4 h5 h6
  exact va_gets hx hb hXs.2.1 h5 hown (hts _ hw) (fun _ z => z) hd (kk ad H locs ls h1 h2 h3 h4 h5 h6)
theorem y_getFm (C : yCx X cc own nm rm N) {idx : Nat} (hw : Cond.fieldLink own idx "jdk/internal/util/Preconditions" "SIOOBE_FORMATTER" "Ljava/util/function/BiFunction;" ∈ yT) (hd : decode cc pc = .ok (.getstatic idx, 3)) (k1 : Y X K M k n (pc + 3) L (.null :: st)) (k2 : Y X K M k n (pc + 3) L (.ref 1000200 :: st)) : Y X K M k n pc L st := by
  obtain ⟨p, l, e, R, s, m, args, below, meth, c, D, cA, A, ad0, n0, nL, Q⟩ := X
  obtain ⟨hx, hb, hml, hown, hts, hK, hA, hR, hnL, hlk, hnm, hn0, hXs⟩ := id C
  intro ad H locs ls h1 h2 h3 h4 h5 h6
  rcases hXs.2.2.1 with z | z
  · exact va_gets hx hb z h5 hown (hts _ hw) (fun _ z => z) hd (k1 ad H locs ls h1 h2 h3 h4 h5 h6)
  · have e2 : ad 1000200 = ad0 1000200 := h1.2 _ (Or.inr (by have := h2.1; omega))
    have k9 := k2 ad H locs ls h1 h2 h3 h4 h5 h6
    rw [List.map_cons, show yV ad (.ref 1000200) = .ref (ad0 1000200) by rw [← e2]; rfl] at k9
    exact va_gets hx hb z h5 hown (hts _ hw) (fun _ z => z) hd k9
theorem y_blen (C : yCx X cc own nm rm N) {i : Nat} (hi : i < 12) (hd : decode cc pc = .ok (.arraylength, 1)) (kk : Y X K M k n (pc + 1) L (.int (nI (yTl.getD i 0)) :: st)) : Y X K M k n pc L (.ref (1000101 + i) :: st) := by
  obtain ⟨p, l, e, R, s, m, args, below, meth, c, D, cA, A, ad0, n0, nL, Q⟩ := X
  obtain ⟨hx, hb, hml, hown, hts, hK, hA, hR, hnL, hlk, hnm, hn0, hXs⟩ := id C
  intro ad H locs ls h1 h2 h3 h4 h5 h6
  have e2 : ad (1000101 + i) = ad0 (1000101 + i) := h1.2 _ (Or.inr (by have := h2.1; omega))
  rw [List.map_cons, show yV ad (.ref (1000101 + i)) = .ref (ad0 (1000101 + i)) by rw [← e2]; rfl]
  exact va_tlen hx hb (hXs.2.2.2.1.1 i hi).2.2.2 h5 rfl hd (kk ad H locs ls h1 h2 h3 h4 h5 h6)
theorem y_bald (C : yCx X cc own nm rm N) {i : Nat} {x : Int32} (hi : i < 12) (hin : vp_in x (yTl.getD i 0)) (hd : decode cc pc = .ok (.baload, 1)) (kk : Y X K M k n (pc + 1) L (.int ((yTx.getD i []).getD x.toNatClampNeg 0) :: st)) : Y X K M k n pc L (.int x :: .ref (1000101 + i) :: st) := by
  obtain ⟨p, l, e, R, s, m, args, below, meth, c, D, cA, A, ad0, n0, nL, Q⟩ := X
  obtain ⟨hx, hb, hml, hown, hts, hK, hA, hR, hnL, hlk, hnm, hn0, hXs⟩ := id C
  intro ad H locs ls h1 h2 h3 h4 h5 h6
  have e2 : ad (1000101 + i) = ad0 (1000101 + i) := h1.2 _ (Or.inr (by have := h2.1; omega))
  rw [List.map_cons, List.map_cons, show yV ad (.ref (1000101 + i)) = .ref (ad0 (1000101 + i)) by rw [← e2]; rfl]
  exact va_tb hx hb (hXs.2.2.2.1.1 i hi).2.2.2 h5 hin rfl hd (kk ad H locs ls h1 h2 h3 h4 h5 h6)
theorem y_i2c (C : yCx X cc own nm rm N) {x v : Int32} (hv : (x.toUInt32 % 65536).toInt32 = v) (hd : decode cc pc = .ok (.i2c, 1)) (kk : Y X K M k n (pc + 1) L (.int v :: st)) : Y X K M k n pc L (.int x :: st) := by
  obtain ⟨p, l, e, R, s, m, args, below, meth, c, D, cA, A, ad0, n0, nL, Q⟩ := X
  obtain ⟨hx, hb, hml, hown, hts, hK, hA, hR, hnL, hlk, hnm, hn0, hXs⟩ := id C
  intro ad H locs ls h1 h2 h3 h4 h5 h6
  exact lv_i2c hx hb hd hv (kk ad H locs ls h1 h2 h3 h4 h5 h6)
variable {y : MethodName} {cy : ByteArray} {nLy np idx : Nat} {rety : Option FieldType} {rmy : Room} {ρ : Type} {o : Option ρ} {fin : ρ → Option Value × yK × yM} {r : ρ} {M' : yM} {v : Option Value} {st1 : List Value}
theorem y_cStr (C : yCx X cc own nm rm N) {p0 : Nat} (as : List Value) (hM : yMet y cy nLy rety rmy K M (.ref p0 :: as) o fin) (hr : o = some r) (hg : 1000001 ≤ p0 ∧ p0 < 1000013) (hw : yCw own idx y cy nLy rety np ∧ Cond.instanceMethod y ∈ yT ∧ Cond.selects "java/lang/String" y y ∈ yT) (hn : as.length = np) (hR : rmy.frames + 1 ≤ rm.frames ∧ 8 + (nLy + 11) + rmy.locals ≤ rm.locals) (h0 : rmy.cells = 0 ∧ rmy.slots = 0) (hcs : k ≤ rm.cells ∧ n ≤ rm.slots) (hst : (st.map (fun v => v.category)).sum ≤ 8) (hf : fin r = (v, K, M')) {st0 : List Value} (hs0 : st0 = as.reverse ++ .ref p0 :: st) (hs1 : v.toList ++ st = st1) (hd : decode cc pc = .ok (.invokevirtual idx, 3))
    (kk : Y X K M' k n (pc + 3) L st1) : Y X K M k n pc L st0 := by
  obtain ⟨p, l, e, R, s, m, args, below, meth, c, D, cA, A, ad0, n0, nL, Q⟩ := X
  obtain ⟨hx, hb, hml, hown, hts, hK, hA, rfl, hnL, hlk, hnm, hn0, hXs⟩ := id C
  intro ad H locs ls h1 h2 h3 h4 h5 h6
  subst hs0
  have hp := y_pc (as := .ref p0 :: as) C h1 h2 h3 h4 h5
  obtain ⟨i, hi, rfl⟩ : ∃ i, i < 12 ∧ p0 = 1000001 + i := ⟨p0 - 1000001, by omega, by omega⟩
  have e1 : ad (1000001 + i) = ad0 (1000001 + i) := h1.2 _ (Or.inr (by have := h2.1; omega))
  have hrc : ∃ cell : Cell, H[ad (1000001 + i)]? = some cell ∧ cell.vm.isStatics = false ∧ s.vm.findClass "java/lang/String" = some cell.cls := by
    rw [e1]
    exact vk_recv (i := i) (adK := fun i => ad0 (1000001 + i)) hXs.2.2.2.1 hi h5
  have e3 : (fin r).2.1.1 = K.1 := by rw [hf]
  refine y_behind hA h1 h3 h4 h5 h6 (va_runV (C := "java/lang/String") (b := ad (1000001 + i)) (As := as.map (yV ad)) (rest := st.map (yV ad)) (n := np) ⟨hx, hb, hml, hown, hts⟩ (hM l r hr D cA ad H.size) ⟨yCw_B hw.1 hts hR, hts _ hw.2.1, hts _ hw.2.2⟩ ⟨hp.1, hrc, hp.2⟩ rfl (by rw [List.length_map]; exact hn) h6.1 (by rw [List.map_append, List.map_reverse]; rfl) (lv_room (by rw [List.map_map]; simpa [Function.comp_def, yV_cat] using hst)) hd (by rw [h0.1, h0.2]; exact hcs)) (by rw [e3]; exact ⟨yCl2_st _, yCl2_st _⟩) ?_
  rw [hf, h0.1, h0.2]
  subst hs1
  exact kk
end
