/-! the model: the best choice -/
/-- of the model, what is no Book -/
def Ms (M M' : yM) : Prop := (∀ i, i = 12 ∨ i = 15 ∨ i = 17 ∨ i = 18 ∨ i = 19 ∨ i = 20 ∨ i = 49 ∨ i = 50 → M' 50 i = M 50 i) ∧ ∀ q, q < 50 ∨ (55 ≤ q ∧ q ≤ 63) ∨ q = 65 ∨ 70 < q → M' q = M q
theorem Ms.rf (M : yM) : Ms M M := ⟨fun _ _ => rfl, fun _ _ => rfl⟩
theorem Ms.tr {M M' M'' : yM} (h : Ms M M') (g : Ms M' M'') : Ms M M'' := ⟨fun i z => (g.1 i z).trans (h.1 i z), fun q z => (g.2 q z).trans (h.2 q z)⟩
theorem Fm.ms {M M' : yM} (h : Fm M M') : Ms M M' := ⟨fun i z => h.1 i (by omega) (by omega), fun q z => h.2 q (by omega) (by omega) (by omega) (by omega) (by omega) (by omega)⟩
theorem Ms.f {M : yM} {i : Nat} {v : Int32} (hi : i ≠ 12 ∧ i ≠ 15 ∧ i ≠ 17 ∧ i ≠ 18 ∧ i ≠ 19 ∧ i ≠ 20 ∧ i ≠ 49 ∧ i ≠ 50) : Ms M (yS M 50 i v) := ⟨fun j z => yS_oi _ _ _ _ (by omega), fun q z => yS_q _ _ _ (by omega)⟩
theorem Ms.a {M : yM} {p i : Nat} {v : Int32} (hp : 51 ≤ p ∧ p ≤ 54) : Ms M (yS M p i v) := ⟨fun j z => yS_op _ _ _ _ (by omega) _, fun q z => yS_q _ _ _ (by omega)⟩
def QB (tn : Nat) (tx : Nat → Tx) (b : Bk) (M : yM) : Prop := MR M b ∧ M 50 49 = -1 ∧ M 50 50 = -1 ∧ ∀ l, l < tn → MT M l (tx l)
theorem QB.ms {tn : Nat} {tx : Nat → Tx} {b c : Bk} {M M' : yM} (h : QB tn tx b M) (g : Ms M M') (hc : MR M' c) : QB tn tx c M' := ⟨hc, by rw [g.1 49 (by omega)]; exact h.2.1, by rw [g.1 50 (by omega)]; exact h.2.2.1, fun l hl => (h.2.2.2 l hl).cg (g.2 57 (by omega)) (g.2 56 (by omega))⟩
/-- texts stand well -/
def TX (tn : Nat) (tx : Nat → Tx) : Prop := ∀ l, l < tn → TxW (tx l)
theorem q_w {K : yK} {M : yM} {tn : Nat} {tx : Nat → Tx} {b : Bk} {n : Nat} (hK : KSh K) (hT : TX tn tx) (hn : n ≤ 60) (hW : WX b) (hd : bDy b ≤ 999) (hl : bLw b < tn) (hQ : QB tn tx b M) : ∃ M', b_X8_goes K M 50 (nI n) = some (wS (tx (bLw b)) noT b n, M') ∧ QB tn tx b M' ∧ Ms M M' := by
  obtain ⟨M', a1, a2, -, a4⟩ := q_goes (m := n) hK hW (hT _ hl) hn hd (.inl rfl) (.inl rfl) hQ.1 (hQ.2.2.2 _ hl) hQ.2.1 hQ.2.2.1
  exact ⟨M', a1, hQ.ms a4.ms a2, a4.ms⟩
def pmB (b : Bk) (p : Nat) (v : Int32) : Bk := (bE b, bK b, bM b, bZ b, bT b, bR b, bDn b, bDs b, p, bDy b, v, bSk b, bCa b, bLw b)
theorem MR.pm {M : yM} {b : Bk} {p : Nat} {v : Int32} (h : MR M b) : MR (yS (yS M 50 6 (nI p)) 50 8 v) (pmB b p v) := by
  obtain ⟨⟨b0, b4, b6, b7, b8, b9, b10, b16⟩, -, -⟩ := id h
  refine MR_f h (fun q h1 h2 => by rw [yS_q _ _ _ (by omega), yS_q _ _ _ (by omega)]) ?_ ?_ ?_ ?_ ?_ ?_ ?_ ?_ <;> simp [yS, *]
theorem MR.sk {M : yM} {b : Bk} {v : Int32} (h : MR M b) : MR (yS M 50 9 v) (skB b v) := by
  obtain ⟨⟨b0, b4, b6, b7, b8, b9, b10, b16⟩, -, -⟩ := id h
  refine MR_f h (fun q h1 h2 => by rw [yS_q _ _ _ (by omega)]) ?_ ?_ ?_ ?_ ?_ ?_ ?_ ?_ <;> simp [yS, *]
theorem MR.lw {M : yM} {b : Bk} {v : Nat} (h : MR M b) : MR (yS M 50 16 (nI v)) (lwB b v) := by
  obtain ⟨⟨b0, b4, b6, b7, b8, b9, b10, b16⟩, -, -⟩ := id h
  refine MR_f h (fun q h1 h2 => by rw [yS_q _ _ _ (by omega)]) ?_ ?_ ?_ ?_ ?_ ?_ ?_ ?_ <;> simp [yS, *]
theorem MR.dd {M : yM} {b : Bk} {v : Nat} (h : MR M b) : MR (yS M 50 7 (nI v)) (ddB b v) := by
  obtain ⟨⟨b0, b4, b6, b7, b8, b9, b10, b16⟩, -, -⟩ := id h
  refine MR_f h (fun q h1 h2 => by rw [yS_q _ _ _ (by omega)]) ?_ ?_ ?_ ?_ ?_ ?_ ?_ ?_ <;> simp [yS, *]
theorem MR.mk8 {M : yM} {b : Bk} {v : Int32} (h : MR M b) : MR (yS M 50 8 v) (mkB b v) := by
  obtain ⟨⟨b0, b4, b6, b7, b8, b9, b10, b16⟩, -, -⟩ := id h
  refine MR_f h (fun q h1 h2 => by rw [yS_q _ _ _ (by omega)]) ?_ ?_ ?_ ?_ ?_ ?_ ?_ ?_ <;> simp [yS, *]
theorem MR.to {M : yM} {w : Nat} {v : Int32} {b : Bk} (h : MR M b) : MR (yS M 53 (3 * w + 1) v) (toB b w v) := by
  refine MR_e h (yS_q _ _ _ (by decide)) (yS_q _ _ _ (by decide)) (fun u hu => ?_)
  obtain ⟨g1, g2, g3, g4, -⟩ := h.2.1 u hu
  rw [yS_op _ _ _ _ (by decide), yS_op _ _ _ _ (by decide), yS_oi _ _ _ _ (by omega), yS_oi _ _ _ _ (show 3 * u + 2 ≠ 3 * w + 1 by omega)]
  refine ⟨g1, g2, g3, ?_, rfl⟩
  by_cases e : u = w
  · rw [e, yS_at, upN_at]
  · rw [yS_oi _ _ _ _ (by omega), upN_o _ _ _ e]; exact g4
theorem MR.sz {M : yM} {w k : Nat} {b : Bk} (h : MR M b) : MR (yS M 53 (3 * w) (nI k)) (szB b w k) := by
  refine MR_e h (yS_q _ _ _ (by decide)) (yS_q _ _ _ (by decide)) (fun u hu => ?_)
  obtain ⟨g1, g2, g3, g4, -⟩ := h.2.1 u hu
  rw [yS_op _ _ _ _ (by decide), yS_op _ _ _ _ (by decide), yS_oi _ _ _ _ (show 3 * u + 1 ≠ 3 * w by omega), yS_oi _ _ _ _ (show 3 * u + 2 ≠ 3 * w by omega)]
  refine ⟨g1, g2, ?_, g4, rfl⟩
  by_cases e : u = w
  · rw [e, yS_at, upN_at]
  · rw [yS_oi _ _ _ _ (by omega), upN_o _ _ _ e]; exact g3
theorem MR.kd {M : yM} {w k : Nat} {b : Bk} (h : MR M b) : MR (yS M 51 w (nI k)) (kdB b w k) := by
  refine MR_e h (yS_q _ _ _ (by decide)) (yS_q _ _ _ (by decide)) (fun u hu => ?_)
  obtain ⟨g1, g2, g3, g4, -⟩ := h.2.1 u hu
  rw [yS_op _ _ _ _ (show (52 : Nat) ≠ 51 by decide), yS_op _ _ _ _ (show (53 : Nat) ≠ 51 by decide), yS_op _ _ _ _ (show (53 : Nat) ≠ 51 by decide), yS_op _ _ _ _ (show (53 : Nat) ≠ 51 by decide)]
  refine ⟨?_, g2, g3, g4, rfl⟩
  by_cases e : u = w
  · rw [e, yS_at, upN_at]
  · rw [yS_oi _ _ _ _ (by omega), upN_o _ _ _ e]; exact g1
theorem MR.mo {M : yM} {w k : Nat} {b : Bk} (h : MR M b) : MR (yS M 52 w (nI k)) (moB b w k) := by
  refine MR_e h (yS_q _ _ _ (by decide)) (yS_q _ _ _ (by decide)) (fun u hu => ?_)
  obtain ⟨g1, g2, g3, g4, -⟩ := h.2.1 u hu
  rw [yS_op _ _ _ _ (show (51 : Nat) ≠ 52 by decide), yS_op _ _ _ _ (show (53 : Nat) ≠ 52 by decide), yS_op _ _ _ _ (show (53 : Nat) ≠ 52 by decide), yS_op _ _ _ _ (show (53 : Nat) ≠ 52 by decide)]
  refine ⟨g1, ?_, g3, g4, rfl⟩
  by_cases e : u = w
  · rw [e, yS_at, upN_at]
  · rw [yS_oi _ _ _ _ (by omega), upN_o _ _ _ e]; exact g2
theorem q_goesFrom {K : yK} {M : yM} {tn : Nat} {tx : Nat → Tx} {b : Bk} {n p : Nat} {v : Int32} (hK : KSh K) (hT : TX tn tx) (hn : n ≤ 60) (hW : WX (pmB b p v)) (hd : bDy b ≤ 999) (hl : bLw b < tn) (hQ : QB tn tx b M) : ∃ M', b_X8_goesFrom K M 50 (nI p) v (nI n) = some (wS (tx (bLw b)) noT (pmB b p v) n, M') ∧ QB tn tx b M' ∧ Ms M M' := by
  have m1 : Ms M (yS (yS M 50 6 (nI p)) 50 8 v) := (Ms.f (by decide)).tr (Ms.f (by decide))
  obtain ⟨M', a1, a2, a3⟩ := q_w (n := n) hK hT hn hW hd hl (hQ.ms m1 hQ.1.pm)
  have m2 : Ms M (yS (yS M' 50 6 (M 50 6)) 50 8 (M 50 8)) := (m1.tr a3).tr ((Ms.f (by decide)).tr (Ms.f (by decide)))
  refine ⟨_, ?_, hQ.ms m2 ?_, m2⟩
  · unfold b_X8_goesFrom
    rw [if_pos hK.mo, Option.bind_some, Option.bind_some, Option.bind_some, Option.bind_some, a1, Option.bind_some, Option.bind_some, Option.bind_some]
    rfl
  · have := a2.1.pm (p := bPg b) (v := bBm b)
    rw [hQ.1.1.2.2.1, hQ.1.1.2.2.2.2.1]
    exact this
theorem q_goesTo {K : yK} {M : yM} {tn : Nat} {tx : Nat → Tx} {b : Bk} {n w : Nat} {v : Int32} (hK : KSh K) (hT : TX tn tx) (hn : n ≤ 60) (hw : w < bE b) (h12 : bE b ≤ 12) (hW : WX (toB b w v)) (hd : bDy b ≤ 999) (hl : bLw b < tn) (hQ : QB tn tx b M) : ∃ M', b_X8_goesTo K M 50 (nI w) v (nI n) = some (wS (tx (bLw b)) noT (toB b w v) n, M') ∧ QB tn tx b M' ∧ Ms M M' := by
  have m1 : Ms M (yS M 53 (3 * w + 1) v) := Ms.a (by decide)
  obtain ⟨M', a1, a2, a3⟩ := q_w (n := n) hK hT hn hW hd hl (hQ.ms m1 hQ.1.to)
  have m2 : Ms M (yS M' 53 (3 * w + 1) (bT b w)) := (m1.tr a3).tr (Ms.a (by decide))
  refine ⟨_, ?_, hQ.ms m2 ?_, m2⟩
  · unfold b_X8_goesTo
    have e : (3 : Int32) * nI w + 1 = nI (3 * w + 1) := by rw [show (3 : Int32) = nI 3 from rfl, mulN, incN]
    rw [if_pos hK.mo, hK.mr (f := 3) rfl, Option.bind_some, e, if_pos (gA_N (hK.ar (p := 53) (by decide) rfl) (show 3 * w + 1 < 36 by omega) (by omega)), Option.bind_some, nC (by omega), Option.bind_some, a1, Option.bind_some, Option.bind_some, (hQ.1.2.1 w hw).2.2.2.1]
    rfl
  · obtain ⟨g0, g1, g2⟩ := a2.1.to (w := w) (v := bT b w)
    refine ⟨g0, fun u hu => ?_, g2⟩
    obtain ⟨h1, h2, h3, h4, h5⟩ := g1 u hu
    refine ⟨h1, h2, h3, ?_, h5⟩
    rw [h4]
    show upN (upN (bT b) w v) w (bT b w) u = bT b u
    by_cases e : u = w
    · rw [e, upN_at]
    · rw [upN_o _ _ _ e, upN_o _ _ _ e]
/-- the fold of the reference: better, if more -/
def mxF (W vf : Nat → Int32) : Nat → Nat → Int32 → Int32 → Int32 × Int32
  | 0, _, a, m => (a, m)
  | f + 1, k, a, m => if W k ≤ m then mxF W vf f (k + 1) a m else mxF W vf f (k + 1) (vf k) (W k)
theorem mx_be : mxF = beF := by
  funext W vf f
  induction f with
  | zero => rfl
  | succ f ih =>
    funext k a m
    rw [mxF, beF, ih]
def bgF (W : Nat → Int32) : Nat → Nat → Int32 → Int32 → Int32 × Int32
  | 0, _, a, m => (a, m)
  | f + 1, k, a, m => if a = -1 ∨ ¬ W k ≤ m then bgF W f (k + 1) (nI k) (W k) else bgF W f (k + 1) a m
def leF (W : Nat → Int32) : Nat → Nat → Int32 → Int32 → Int32 × Int32
  | 0, _, a, m => (a, m)
  | f + 1, k, a, m => if m ≤ W k then leF W f (k + 1) a m else leF W f (k + 1) (nI k) (W k)
theorem q_begin_loop {K : yK} {tn : Nat} {tx : Nat → Tx} {b : Bk} {n : Nat} {x2 : Int32} (hK : KSh K) (hT : TX tn tx) (hn : n ≤ 60) (hW : WX b) (hd : bDy b ≤ 999) (hl : bLw b < tn) : ∀ (f g k : Nat) (M : yM) (a m : Int32), k + f = bE b → f < g → QB tn tx b M →
    ∃ M', b_X8_begin_30 K 50 (nI n) x2 g M a m (nI k) = some ((bgF (fun k => wS (tx (bLw b)) noT (stB b (fsB b k)) n) f k a m).1, (bgF (fun k => wS (tx (bLw b)) noT (stB b (fsB b k)) n) f k a m).2, M') ∧ QB tn tx b M' ∧ Ms M M' := by
  have h12 := hW.1.1
  intro f
  induction f with
  | zero =>
    intro g k M a m hk hg hQ
    obtain ⟨g, rfl⟩ : ∃ z, g = z + 1 := ⟨g - 1, by omega⟩
    refine ⟨M, ?_, hQ, Ms.rf _⟩
    rw [b_X8_begin_30, if_pos hK.mo, hQ.1.1.1, iteLe (by omega) (by omega), if_pos (by omega)]
    rfl
  | succ f ih =>
    intro g k M a m hk hg hQ
    obtain ⟨g, rfl⟩ : ∃ z, g = z + 1 := ⟨g - 1, by omega⟩
    have hp := (fsB_le hW.1 k (by omega)).2
    obtain ⟨M1, a1, a2, a3⟩ := q_goesFrom (n := n) (p := fsB b k) (v := -1) hK hT hn (stB_W hW (by omega)) hd hl hQ
    have a1 : b_X8_goesFrom K M 50 (nI (fsB b k)) (-1) (nI n) = some (wS (tx (bLw b)) noT (stB b (fsB b k)) n, M1) := a1
    rw [b_X8_begin_30, if_pos hK.mo, hQ.1.1.1, iteLe (by omega) (by omega), if_neg (by omega), q_firstPage hK hW.1 hQ.1.me (by omega), Option.bind_some, a1, Option.bind_some]
    dsimp only
    rw [bgF]
    by_cases z : a = -1
    · rw [if_pos z, if_pos (Or.inl z), Option.bind_some, if_pos rfl, if_pos rfl, Option.bind_some, Option.bind_some, incN, Option.bind_some]
      obtain ⟨M', r1, r2, r3⟩ := ih g (k + 1) M1 (nI k) (wS (tx (bLw b)) noT (stB b (fsB b k)) n) (by omega) (by omega) a2
      exact ⟨M', r1, r2, a3.tr r3⟩
    · rw [if_neg z]
      by_cases y : wS (tx (bLw b)) noT (stB b (fsB b k)) n ≤ m
      · rw [if_pos y, if_neg (by simp [z, y]), Option.bind_some, if_neg (by decide), if_neg (by decide), Option.bind_some, Option.bind_some, incN, Option.bind_some]
        obtain ⟨M', r1, r2, r3⟩ := ih g (k + 1) M1 a m (by omega) (by omega) a2
        exact ⟨M', r1, r2, a3.tr r3⟩
      · rw [if_neg y, if_pos (Or.inr y), Option.bind_some, if_pos rfl, if_pos rfl, Option.bind_some, Option.bind_some, incN, Option.bind_some]
        obtain ⟨M', r1, r2, r3⟩ := ih g (k + 1) M1 (nI k) (wS (tx (bLw b)) noT (stB b (fsB b k)) n) (by omega) (by omega) a2
        exact ⟨M', r1, r2, a3.tr r3⟩
theorem q_lobby_loop {K : yK} {tn : Nat} {tx : Nat → Tx} {b : Bk} {n : Nat} {x2 : Int32} (hK : KSh K) (hT : TX tn tx) (hn : n ≤ 60) (hW : WX b) (hd : bDy b ≤ 999) (hl : bLw b < tn) : ∀ (f g k : Nat) (M : yM) (a m : Int32), k + f = bE b → f < g → QB tn tx b M →
    ∃ M', b_X8_lobby_34 K 50 (nI n) x2 g M a m (nI k) = some ((mxF (fun k => wS (tx (bLw b)) noT (mkB b (nI k)) n) nI f k a m).1, (mxF (fun k => wS (tx (bLw b)) noT (mkB b (nI k)) n) nI f k a m).2, M') ∧ QB tn tx b M' ∧ Ms M M' := by
  have h12 := hW.1.1
  intro f
  induction f with
  | zero =>
    intro g k M a m hk hg hQ
    obtain ⟨g, rfl⟩ : ∃ z, g = z + 1 := ⟨g - 1, by omega⟩
    refine ⟨M, ?_, hQ, Ms.rf _⟩
    rw [b_X8_lobby_34, if_pos hK.mo, hQ.1.1.1, iteLe (by omega) (by omega), if_pos (by omega)]
    rfl
  | succ f ih =>
    intro g k M a m hk hg hQ
    obtain ⟨g, rfl⟩ : ∃ z, g = z + 1 := ⟨g - 1, by omega⟩
    obtain ⟨M1, a1, a2, a3⟩ := q_goesFrom (n := n) (p := bPg b) (v := nI k) hK hT hn (mkB_W hW (.inr ⟨k, by omega, rfl⟩)) hd hl hQ
    have a1 : b_X8_goesFrom K M 50 (nI (bPg b)) (nI k) (nI n) = some (wS (tx (bLw b)) noT (mkB b (nI k)) n, M1) := a1
    rw [b_X8_lobby_34, if_pos hK.mo, hQ.1.1.1, iteLe (by omega) (by omega), if_neg (by omega), hQ.1.1.2.2.1, a1, Option.bind_some]
    dsimp only
    rw [mxF]
    by_cases y : wS (tx (bLw b)) noT (mkB b (nI k)) n ≤ m
    · rw [if_pos y, if_pos y, if_pos y, Option.bind_some, Option.bind_some, incN, Option.bind_some]
      obtain ⟨M', r1, r2, r3⟩ := ih g (k + 1) M1 a m (by omega) (by omega) a2
      exact ⟨M', r1, r2, a3.tr r3⟩
    · rw [if_neg y, if_neg y, if_neg y, Option.bind_some, Option.bind_some, incN, Option.bind_some]
      obtain ⟨M', r1, r2, r3⟩ := ih g (k + 1) M1 (nI k) (wS (tx (bLw b)) noT (mkB b (nI k)) n) (by omega) (by omega) a2
      exact ⟨M', r1, r2, a3.tr r3⟩
theorem q_soup_loop {K : yK} {tn : Nat} {tx : Nat → Tx} {b : Bk} {n : Nat} {x2 : Int32} (hK : KSh K) (hT : TX tn tx) (hn : n ≤ 60) (hW : WX b) (hd : bDy b ≤ 999) (hl : bLw b < tn) : ∀ (f g k : Nat) (M : yM) (a m s : Int32), k + f = bE b → f < g → QB tn tx (skB b s) M →
    ∃ M' s', b_X8_soup_40 K 50 (nI n) x2 (bSk b) g M a m (nI k) = some ((leF (fun k => wS (tx (bLw b)) noT (skB b (bSk b ||| sh1 k)) n) f k a m).1, (leF (fun k => wS (tx (bLw b)) noT (skB b (bSk b ||| sh1 k)) n) f k a m).2, M') ∧ QB tn tx (skB b s') M' ∧ Ms M M' := by
  have h12 := hW.1.1
  intro f
  induction f with
  | zero =>
    intro g k M a m s hk hg hQ
    obtain ⟨g, rfl⟩ : ∃ z, g = z + 1 := ⟨g - 1, by omega⟩
    refine ⟨M, s, ?_, hQ, Ms.rf _⟩
    rw [b_X8_soup_40, if_pos hK.mo, hQ.1.1.1, show nI (bE (skB b s)) = nI (bE b) from rfl, iteLe (by omega) (by omega), if_pos (by omega)]
    rfl
  | succ f ih =>
    intro g k M a m s hk hg hQ
    obtain ⟨g, rfl⟩ : ∃ z, g = z + 1 := ⟨g - 1, by omega⟩
    have hW1 : WX (skB b (bSk b ||| sh1 k)) := skB_W hW (bB_or hW.2.2.2.1 (bB_sh1 (by omega) (by omega)))
    have hm1 : Ms M (yS M 50 9 (bSk b ||| sh1 k)) := Ms.f (by decide)
    obtain ⟨M1, a1, a2, a3⟩ := q_w (b := skB b (bSk b ||| sh1 k)) (n := n) hK hT hn hW1 hd hl (hQ.ms hm1 (hQ.1.sk (v := bSk b ||| sh1 k)))
    have a1 : b_X8_goes K (yS M 50 9 (bSk b ||| sh1 k)) 50 (nI n) = some (wS (tx (bLw b)) noT (skB b (bSk b ||| sh1 k)) n, M1) := a1
    rw [b_X8_soup_40, if_pos hK.mo, hQ.1.1.1, show nI (bE (skB b s)) = nI (bE b) from rfl, iteLe (by omega) (by omega), if_neg (by omega), Option.bind_some, a1, Option.bind_some]
    dsimp only
    rw [leF]
    by_cases y : m ≤ wS (tx (bLw b)) noT (skB b (bSk b ||| sh1 k)) n
    · rw [if_pos y, if_pos y, if_pos y, Option.bind_some, Option.bind_some, incN, Option.bind_some]
      obtain ⟨M', s', r1, r2, r3⟩ := ih g (k + 1) M1 a m _ (by omega) (by omega) a2
      exact ⟨M', s', r1, r2, (hm1.tr a3).tr r3⟩
    · rw [if_neg y, if_neg y, if_neg y, Option.bind_some, Option.bind_some, incN, Option.bind_some]
      obtain ⟨M', s', r1, r2, r3⟩ := ih g (k + 1) M1 (nI k) (wS (tx (bLw b)) noT (skB b (bSk b ||| sh1 k)) n) _ (by omega) (by omega) a2
      exact ⟨M', s', r1, r2, (hm1.tr a3).tr r3⟩
def rdV (k : Nat) : Int32 := if vI 1 k = -1 then -2 else vI 1 k
theorem vI_1 {k : Nat} (hk : k ≤ 12) : vI 1 k = -1 ∨ ∃ j, j < 12 ∧ vI 1 k = nI j := by
  rcases Nat.eq_zero_or_pos k with h | h
  · subst h; exact .inl rfl
  · exact .inr ⟨k - 1, by omega, subN h⟩
theorem q_road_loop {K : yK} {tn : Nat} {tx : Nat → Tx} {b : Bk} {n w : Nat} {x3 : Int32} (hK : KSh K) (hT : TX tn tx) (hn : n ≤ 60) (hW : WX b) (hd : bDy b ≤ 999) (hl : bLw b < tn) (hw : w < bE b) : ∀ (f g k : Nat) (M : yM) (a m : Int32), k + f = bE b + 1 → f < g → QB tn tx b M →
    ∃ M', b_X8_road_46 K 50 (nI w) (nI n) x3 g M a m (vI 1 k) = some ((mxF (fun k => wS (tx (bLw b)) noT (toB b w (vI 1 k)) n) rdV f k a m).1, (mxF (fun k => wS (tx (bLw b)) noT (toB b w (vI 1 k)) n) rdV f k a m).2, M') ∧ QB tn tx b M' ∧ Ms M M' := by
  have h12 := hW.1.1
  intro f
  induction f with
  | zero =>
    intro g k M a m hk hg hQ
    obtain ⟨g, rfl⟩ : ∃ z, g = z + 1 := ⟨g - 1, by omega⟩
    refine ⟨M, ?_, hQ, Ms.rf _⟩
    rw [b_X8_road_46, if_pos hK.mo, hQ.1.1.1, if_pos (by rw [vI_le (by omega) (by omega) (by omega)]; omega)]
    rfl
  | succ f ih =>
    intro g k M a m hk hg hQ
    obtain ⟨g, rfl⟩ : ∃ z, g = z + 1 := ⟨g - 1, by omega⟩
    obtain ⟨M1, a1, a2, a3⟩ := q_goesTo (n := n) (w := w) (v := vI 1 k) hK hT hn hw h12 (toB_W hW (vI_1 (by omega))) hd hl hQ
    rw [b_X8_road_46, if_pos hK.mo, hQ.1.1.1, if_neg (by rw [vI_le (by omega) (by omega) (by omega)]; omega), a1, Option.bind_some]
    dsimp only
    rw [mxF]
    by_cases y : wS (tx (bLw b)) noT (toB b w (vI 1 k)) n ≤ m
    · rw [if_pos y, if_pos y, if_pos y, Option.bind_some, Option.bind_some, vI_s, Option.bind_some]
      obtain ⟨M', r1, r2, r3⟩ := ih g (k + 1) M1 a m (by omega) (by omega) a2
      exact ⟨M', r1, r2, a3.tr r3⟩
    · have e : (if vI 1 k = (-1 : Int32) then some (-2 : Int32) else some (vI 1 k)) = some (rdV k) := by
        unfold rdV
        by_cases z : vI 1 k = -1
        · rw [if_pos z, if_pos z]
        · rw [if_neg z, if_neg z]
      rw [if_neg y, if_neg y, if_neg y, e, Option.bind_some, Option.bind_some, vI_s, Option.bind_some]
      obtain ⟨M', r1, r2, r3⟩ := ih g (k + 1) M1 (rdV k) (wS (tx (bLw b)) noT (toB b w (vI 1 k)) n) (by omega) (by omega) a2
      exact ⟨M', r1, r2, a3.tr r3⟩
