/-! the model: what fits -/
/-- the model's sheet s: m numbers -/
def QH (s m : Nat) (cl : Nat → Int32) (M : yM) : Prop := M 62 s = nI m ∧ ∀ j, j < m → M 63 (40 * s + j) = cl j
theorem QH.ms {s m : Nat} {cl : Nat → Int32} {M M' : yM} (h : QH s m cl M) (g : Ms M M') : QH s m cl M' := by
  unfold QH
  rw [g.2 62 (by omega), g.2 63 (by omega)]
  exact h
theorem q_un {K : yK} {M : yM} {tn : Nat} {tx : Nat → Tx} {b : Bk} {m s : Nat} {cl : Nat → Int32} (hK : KSh K) (hT : TX tn tx) (hs : s < 4) (hm : m ≤ 40) (hW : WX b) (hd : bDy b ≤ 999) (hl : bLw b < tn) (hQ : QB tn tx b M) (hH : QH s m cl M) : ∃ M', b_X8_unlike K M 50 (nI s) = some (foF (tx (bLw b)) b cl m 0, M') ∧ QB tn tx b M' ∧ Ms M M' := by
  obtain ⟨M', a1, a2, a3⟩ := q_unlike (c := cl) hK hs hW (hT _ hl) hm hd hH.1 hH.2 hQ.1 (hQ.2.2.2 _ hl)
  exact ⟨M', a1, hQ.ms a3.ms a2, a3.ms⟩
theorem ft_or (F : Nat → Bool) (k : Nat) {C : Prop} [Decidable C] (h : F k = decide C) : (Option.bind (if C then (some ((1 : Int32) <<< (nI k &&& 31))) else (some (0 : Int32))) fun j7 => (some (ftF F k ||| j7))) = some (ftF F (k + 1)) := by
  rw [ftF, h]
  by_cases z : C
  · rw [if_pos z, if_pos (decide_eq_true z), Option.bind_some]
  · rw [if_neg z, if_neg (by rw [decide_eq_false z]; decide), Option.bind_some, orI_0]
theorem ft_j (F : Nat → Bool) (k : Nat) {C : Prop} [Decidable C] (h : F k = decide C) : ∃ j, (if C then (some ((1 : Int32) <<< (nI k &&& 31))) else (some (0 : Int32))) = some j ∧ ftF F k ||| j = ftF F (k + 1) := by
  rw [ftF, h]
  by_cases z : C
  · exact ⟨_, if_pos z, by rw [if_pos (decide_eq_true z)]⟩
  · exact ⟨0, if_neg z, by rw [if_neg (by rw [decide_eq_false z]; decide), orI_0]⟩
theorem q_begins_loop {K : yK} {tn : Nat} {tx : Nat → Tx} {b : Bk} {m s : Nat} {cl : Nat → Int32} {x3 x4 : Int32} (hK : KSh K) (hT : TX tn tx) (hs : s < 4) (hm : m ≤ 40) (hW : WX b) (hd : bDy b ≤ 999) (hl : bLw b < tn) : ∀ (f g k p : Nat) (M : yM), p < 1000 → k + f = bE b → f < g → QB tn tx (pmB b p (-1)) M → QH s m cl M →
    ∃ M' p', b_X8_begins_34 K 50 (nI s) x3 x4 g M (ftF (fun k => fitB (tx (bLw b)) (stB b (fsB b k)) m cl) k) (nI k) = some (ftF (fun k => fitB (tx (bLw b)) (stB b (fsB b k)) m cl) (bE b), M') ∧ QB tn tx (pmB b p' (-1)) M' ∧ Ms M M' := by
  have h12 := hW.1.1
  intro f
  induction f with
  | zero =>
    intro g k p M hp0 hk hg hQ hH
    obtain ⟨g, rfl⟩ : ∃ z, g = z + 1 := ⟨g - 1, by omega⟩
    obtain rfl : k = bE b := by omega
    refine ⟨M, p, ?_, hQ, Ms.rf _⟩
    rw [b_X8_begins_34, if_pos hK.mo, hQ.1.1.1, show nI (bE (pmB b p (-1))) = nI (bE b) from rfl, iteLe (by omega) (by omega), if_pos (by omega)]
  | succ f ih =>
    intro g k p M hp0 hk hg hQ hH
    obtain ⟨g, rfl⟩ : ∃ z, g = z + 1 := ⟨g - 1, by omega⟩
    have hp := (fsB_le hW.1 k (by omega)).2
    have hW0 : WB (pmB b p (-1)) := (stB_W hW hp0).1
    have hm1 : Ms M (yS M 50 6 (nI (fsB b k))) := Ms.f (by decide)
    have hq1 : QB tn tx (stB b (fsB b k)) (yS M 50 6 (nI (fsB b k))) := hQ.ms hm1 (hQ.1.pg (p := fsB b k))
    obtain ⟨M1, a1, a2, a3⟩ := q_un (cl := cl) hK hT hs hm (stB_W hW (by omega)) hd hl hq1 (hH.ms hm1)
    have a1 : b_X8_unlike K (yS M 50 6 (nI (fsB b k))) 50 (nI s) = some (foF (tx (bLw b)) (stB b (fsB b k)) cl m 0, M1) := a1
    obtain ⟨j, e1, e2⟩ := ft_j (fun k => fitB (tx (bLw b)) (stB b (fsB b k)) m cl) k (C := foF (tx (bLw b)) (stB b (fsB b k)) cl m 0 = -1) rfl
    rw [b_X8_begins_34, if_pos hK.mo, hQ.1.1.1, show nI (bE (pmB b p (-1))) = nI (bE b) from rfl, iteLe (by omega) (by omega), if_neg (by omega), q_firstPage (b := pmB b p (-1)) hK hW0 hQ.1.me (show k ≤ bE b by omega), show fsB (pmB b p (-1)) k = fsB b k from fsB_cg (b := b) (b' := pmB b p (-1)) rfl rfl rfl k, Option.bind_some, Option.bind_some, a1, Option.bind_some]
    dsimp only
    rw [e1, Option.bind_some, Option.bind_some, incN, Option.bind_some, e2]
    obtain ⟨M', p', r1, r2, r3⟩ := ih g (k + 1) (fsB b k) M1 (by omega) (by omega) (by omega) a2 ((hH.ms hm1).ms a3)
    exact ⟨M', p', r1, r2, (hm1.tr a3).tr r3⟩
theorem q_laws_loop {K : yK} {tn : Nat} {tx : Nat → Tx} {b : Bk} {m s : Nat} {cl : Nat → Int32} {x3 : Int32} (hK : KSh K) (hT : TX tn tx) (ht6 : tn ≤ 6) (hs : s < 4) (hm : m ≤ 40) (hW : WX b) (hd : bDy b ≤ 999) : ∀ (f g k l : Nat) (M : yM), k + f = tn → f < g → QB tn tx (lwB b l) M → M 50 15 = nI tn → QH s m cl M →
    ∃ M' l', b_X8_laws_23 K 50 (nI s) x3 g M (ftF (fun k => fitB (tx k) (lwB b k) m cl) k) (nI k) = some (ftF (fun k => fitB (tx k) (lwB b k) m cl) tn, M') ∧ QB tn tx (lwB b l') M' ∧ Ms M M' := by
  intro f
  induction f with
  | zero =>
    intro g k l M hk hg hQ h15 hH
    obtain ⟨g, rfl⟩ : ∃ z, g = z + 1 := ⟨g - 1, by omega⟩
    obtain rfl : k = tn := by omega
    refine ⟨M, l, ?_, hQ, Ms.rf _⟩
    rw [b_X8_laws_23, if_pos hK.mo, h15, iteLe (by omega) (by omega), if_pos (by omega)]
  | succ f ih =>
    intro g k l M hk hg hQ h15 hH
    obtain ⟨g, rfl⟩ : ∃ z, g = z + 1 := ⟨g - 1, by omega⟩
    have hm1 : Ms M (yS M 50 16 (nI k)) := Ms.f (by decide)
    have hq1 : QB tn tx (lwB b k) (yS M 50 16 (nI k)) := hQ.ms hm1 (hQ.1.lw (v := k))
    obtain ⟨M1, a1, a2, a3⟩ := q_un (b := lwB b k) (cl := cl) hK hT hs hm (lwB_W hW (by omega)) hd (show k < tn by omega) hq1 (hH.ms hm1)
    have a1 : b_X8_unlike K (yS M 50 16 (nI k)) 50 (nI s) = some (foF (tx k) (lwB b k) cl m 0, M1) := a1
    obtain ⟨j, e1, e2⟩ := ft_j (fun k => fitB (tx k) (lwB b k) m cl) k (C := foF (tx k) (lwB b k) cl m 0 = -1) rfl
    rw [b_X8_laws_23, if_pos hK.mo, h15, iteLe (by omega) (by omega), if_neg (by omega), Option.bind_some, a1, Option.bind_some]
    dsimp only
    rw [e1, Option.bind_some, Option.bind_some, incN, Option.bind_some, e2]
    obtain ⟨M', p', r1, r2, r3⟩ := ih g (k + 1) k M1 (by omega) (by omega) a2 (by rw [(hm1.tr a3).1 15 (by omega)]; exact h15) ((hH.ms hm1).ms a3)
    exact ⟨M', p', r1, r2, (hm1.tr a3).tr r3⟩
def skF (b : Bk) (x : Tx) (m : Nat) (cl : Nat → Int32) (k : Nat) : Bool := if k < bE b then fitB x (skB b (sh1 k)) m cl else if k = 12 then fitB x (skB b 0) m cl else false
theorem q_skipped_loop {K : yK} {tn : Nat} {tx : Nat → Tx} {b : Bk} {m s : Nat} {cl : Nat → Int32} {x3 : Int32} (hK : KSh K) (hT : TX tn tx) (hs : s < 4) (hm : m ≤ 40) (hW : WX b) (hd : bDy b ≤ 999) (hl : bLw b < tn) : ∀ (f g k : Nat) (z : Int32) (M : yM), k + f = 13 → f < g → QB tn tx (skB b z) M → QH s m cl M →
    ∃ M' z', b_X8_skipped_23 K 50 (nI s) x3 g M (ftF (skF b (tx (bLw b)) m cl) k) (nI k) = some (ftF (skF b (tx (bLw b)) m cl) 13, M') ∧ QB tn tx (skB b z') M' ∧ Ms M M' := by
  have h12 := hW.1.1
  intro f
  induction f with
  | zero =>
    intro g k z M hk hg hQ hH
    obtain ⟨g, rfl⟩ : ∃ z, g = z + 1 := ⟨g - 1, by omega⟩
    obtain rfl : k = 13 := by omega
    refine ⟨M, z, ?_, hQ, Ms.rf _⟩
    rw [b_X8_skipped_23, show (12 : Int32) = nI 12 from rfl, iteLt (by omega) (by omega), if_pos (by omega)]
  | succ f ih =>
    intro g k z M hk hg hQ hH
    obtain ⟨g, rfl⟩ : ∃ z, g = z + 1 := ⟨g - 1, by omega⟩
    rw [b_X8_skipped_23, show (12 : Int32) = nI 12 from rfl, iteLt (by omega) (by omega), if_neg (by omega), if_pos hK.mo, hQ.1.1.1, show nI (bE (skB b z)) = nI (bE b) from rfl, iteLt (by omega) (by omega)]
    have step : ∀ s' : Int32, WX (skB b s') → skF b (tx (bLw b)) m cl k = fitB (tx (bLw b)) (skB b s') m cl → ∃ M1 j, b_X8_unlike K (yS M 50 9 s') 50 (nI s) = some (foF (tx (bLw b)) (skB b s') cl m 0, M1) ∧ (if foF (tx (bLw b)) (skB b s') cl m 0 = (-1 : Int32) then (some ((1 : Int32) <<< (nI k &&& 31))) else (some (0 : Int32))) = some j ∧ ftF (skF b (tx (bLw b)) m cl) k ||| j = ftF (skF b (tx (bLw b)) m cl) (k + 1) ∧ QB tn tx (skB b s') M1 ∧ Ms M M1 := by
      intro s' hw hF
      have hm1 : Ms M (yS M 50 9 s') := Ms.f (by decide)
      have hq1 : QB tn tx (skB b s') (yS M 50 9 s') := hQ.ms hm1 (hQ.1.sk (v := s'))
      obtain ⟨M1, a1, a2, a3⟩ := q_un (b := skB b s') (cl := cl) hK hT hs hm hw hd hl hq1 (hH.ms hm1)
      obtain ⟨j, e1, e2⟩ := ft_j (skF b (tx (bLw b)) m cl) k (C := foF (tx (bLw b)) (skB b s') cl m 0 = -1) hF
      exact ⟨M1, j, a1, e1, e2, a2, hm1.tr a3⟩
    by_cases c : k < bE b
    · rw [if_pos c, iteEq (by omega) (by omega), if_neg (show ¬ k = 12 by omega), Option.bind_some, Option.bind_some]
      obtain ⟨M1, j, a1, e1, e2, a2, a3⟩ := step (sh1 k) (skB_W hW (bB_sh1 c (by omega))) (if_pos c)
      rw [a1, Option.bind_some]
      dsimp only
      rw [e1, Option.bind_some, Option.bind_some, incN, Option.bind_some, e2]
      obtain ⟨M', p', r1, r2, r3⟩ := ih g (k + 1) _ M1 (by omega) (by omega) a2 (hH.ms a3)
      exact ⟨M', p', r1, r2, a3.tr r3⟩
    · rw [if_neg c, iteEq (by omega) (by omega), iteEq (by omega) (by omega)]
      by_cases d : k = 12
      · rw [if_pos d, if_pos d, Option.bind_some, Option.bind_some]
        obtain ⟨M1, j, a1, e1, e2, a2, a3⟩ := step 0 (skB_W hW (bB_0 _)) (by unfold skF; rw [if_neg c, if_pos d])
        rw [a1, Option.bind_some]
        dsimp only
        rw [e1, Option.bind_some, Option.bind_some, Option.bind_some]
        dsimp only
        rw [incN, Option.bind_some, e2]
        obtain ⟨M', p', r1, r2, r3⟩ := ih g (k + 1) _ M1 (by omega) (by omega) a2 (hH.ms a3)
        exact ⟨M', p', r1, r2, a3.tr r3⟩
      · rw [if_neg d, Option.bind_some]
        dsimp only
        rw [incN, Option.bind_some]
        have e : ftF (skF b (tx (bLw b)) m cl) k = ftF (skF b (tx (bLw b)) m cl) (k + 1) := by
          rw [ftF, if_neg (by unfold skF; rw [if_neg c, if_neg d]; decide)]
        rw [e]
        obtain ⟨M', p', r1, r2, r3⟩ := ih g (k + 1) z M (by omega) (by omega) hQ hH
        exact ⟨M', p', r1, r2, r3⟩
/-- three things of an ENTRY otherwise -/
def kmB (b : Bk) (w k m : Nat) (v : Int32) : Bk := (bE b, upN (bK b) w k, upN (bM b) w m, bZ b, upN (bT b) w v, bR b, bDn b, bDs b, bPg b, bDy b, bBm b, bSk b, bCa b, bLw b)
theorem upN_up {α : Type} (g : Nat → α) (w : Nat) (u v : α) : upN (upN g w u) w v = upN g w v := by
  funext j
  unfold upN
  by_cases e : j = w
  · rw [if_pos e, if_pos e]
  · rw [if_neg e, if_neg e, if_neg e]
theorem upN_id {α : Type} (g : Nat → α) (w : Nat) : upN g w (g w) = g := by
  funext j
  unfold upN
  by_cases e : j = w
  · rw [if_pos e, e]
  · rw [if_neg e]
theorem MR.km {M : yM} {b : Bk} {w k0 m0 k m : Nat} {v0 v : Int32} (h : MR M (kmB b w k0 m0 v0)) : MR (yS (yS (yS M 51 w (nI k)) 52 w (nI m)) 53 (3 * w + 1) v) (kmB b w k m v) := by
  have g := ((h.kd (w := w) (k := k)).mo (w := w) (k := m)).to (w := w) (v := v)
  have e : toB (moB (kdB (kmB b w k0 m0 v0) w k) w m) w v = kmB b w k m v := by
    show ((bE b, upN (upN (bK b) w k0) w k, upN (upN (bM b) w m0) w m, bZ b, upN (upN (bT b) w v0) w v, bR b, bDn b, bDs b, bPg b, bDy b, bBm b, bSk b, bCa b, bLw b) : Bk) = kmB b w k m v
    rw [upN_up, upN_up, upN_up]
    rfl
  rw [e] at g
  exact g
theorem km_id (b : Bk) (w : Nat) : kmB b w (bK b w) (bM b w) (bT b w) = b := by
  unfold kmB
  rw [upN_id, upN_id, upN_id]
  rfl
theorem km_kd (b : Bk) (w k : Nat) : kmB b w k (bM b w) (bT b w) = kdB b w k := by
  unfold kmB
  rw [upN_id, upN_id]
  rfl
theorem km_mo (b : Bk) (w k : Nat) : kmB b w (bK b w) k (bT b w) = moB b w k := by
  unfold kmB
  rw [upN_id, upN_id]
  rfl
theorem km_to (b : Bk) (w : Nat) (v : Int32) : kmB b w (bK b w) (bM b w) v = toB b w v := by
  unfold kmB
  rw [upN_id, upN_id]
  rfl
/-- the candidates of kinds() -/
def kcB (b : Bk) (w sort k : Nat) : Bk := if sort = 0 then kdB b w k else if sort = 1 then moB b w k else toB b w (vI 1 k)
def kcE (b : Bk) (sort : Nat) : Nat := if sort = 0 then 6 else if sort = 1 then 10 else bE b + 1
theorem q_kinds_loop {K : yK} {tn : Nat} {tx : Nat → Tx} {b : Bk} {m s w sort : Nat} {cl : Nat → Int32} (hK : KSh K) (hT : TX tn tx) (hs : s < 4) (hm : m ≤ 40) (hW : WX b) (hd : bDy b ≤ 999) (hl : bLw b < tn) (hw : w < bE b) (hsort : sort < 3) : ∀ (f g k k0 m0 : Nat) (v0 : Int32) (M : yM), k + f = kcE b sort → f < g → QB tn tx (kmB b w k0 m0 v0) M → QH s m cl M →
    ∃ M' k1 m1 v1, b_X8_kinds_72 K 50 (nI s) (nI w) (nI sort) (nI (bK b w)) (nI (bM b w)) (bT b w) g M (ftF (fun k => fitB (tx (bLw b)) (kcB b w sort k) m cl) k) (nI k) = some (ftF (fun k => fitB (tx (bLw b)) (kcB b w sort k) m cl) (kcE b sort), M') ∧ QB tn tx (kmB b w k1 m1 v1) M' ∧ Ms M M' := by
  have h12 := hW.1.1
  have a51 : isAr K 51 12 := hK.ar (by decide) rfl
  have a52 : isAr K 52 12 := hK.ar (by decide) rfl
  have a53 : isAr K 53 36 := hK.ar (by decide) rfl
  have he : kcE b sort ≤ 13 := by
    unfold kcE
    split
    · omega
    · split <;> omega
  have ee : ∀ M k0 m0 v0, QB tn tx (kmB b w k0 m0 v0) M → (if nI sort = 0 then (some (6 : Int32)) else (if nI sort = (1 : Int32) then (some (10 : Int32)) else (if gO K 50 7 = true then (some ((M 50 0) + (1 : Int32))) else none))) = some (nI (kcE b sort)) := by
    intro M k0 m0 v0 hQ
    unfold kcE
    rw [show (0 : Int32) = nI 0 from rfl, show (1 : Int32) = nI 1 from rfl, iteEq (by omega) (by omega), iteEq (by omega) (by omega), if_pos hK.mo, hQ.1.1.1]
    rcases (show sort = 0 ∨ sort = 1 ∨ sort = 2 by omega) with rfl | rfl | rfl
    · rfl
    · rfl
    · rw [if_neg (by decide), if_neg (by decide), if_neg (by decide), if_neg (by decide), addN]; rfl
  intro f
  induction f with
  | zero =>
    intro g k k0 m0 v0 M hk hg hQ hH
    obtain ⟨g, rfl⟩ : ∃ z, g = z + 1 := ⟨g - 1, by omega⟩
    obtain rfl : k = kcE b sort := by omega
    refine ⟨M, k0, m0, v0, ?_, hQ, Ms.rf _⟩
    rw [b_X8_kinds_72, ee M k0 m0 v0 hQ, Option.bind_some, iteLe (by omega) (by omega), if_pos (by omega)]
  | succ f ih =>
    intro g k k0 m0 v0 M hk hg hQ hH
    obtain ⟨g, rfl⟩ : ∃ z, g = z + 1 := ⟨g - 1, by omega⟩
    have hv := hW.1.2.1 w hw
    obtain ⟨kk, mm, vv, j1, j2, j3, j4, j5⟩ : ∃ kk mm vv, (if nI sort = 0 then (some (nI k)) else (some (nI (bK b w)))) = some (nI kk) ∧ (if nI sort = (1 : Int32) then (some (nI k)) else (some (nI (bM b w)))) = some (nI mm) ∧ (if nI sort = (2 : Int32) then (some (nI k - (1 : Int32))) else (some (bT b w))) = some vv ∧ kmB b w kk mm vv = kcB b w sort k ∧ WX (kcB b w sort k) := by
      unfold kcB
      unfold kcE at hk
      rcases (show sort = 0 ∨ sort = 1 ∨ sort = 2 by omega) with rfl | rfl | rfl
      · rw [if_pos rfl] at hk
        exact ⟨k, bM b w, bT b w, rfl, rfl, rfl, by rw [if_pos rfl]; exact km_kd b w k, by rw [if_pos rfl]; exact kdB_W hW (by omega)⟩
      · rw [if_neg (by decide), if_pos rfl] at hk
        exact ⟨bK b w, k, bT b w, rfl, rfl, rfl, by rw [if_neg (by decide), if_pos rfl]; exact km_mo b w k, by rw [if_neg (by decide), if_pos rfl]; exact moB_W hW (by omega)⟩
      · rw [if_neg (by decide), if_neg (by decide)] at hk
        exact ⟨bK b w, bM b w, vI 1 k, rfl, rfl, rfl, by rw [if_neg (by decide), if_neg (by decide)]; exact km_to b w _, by rw [if_neg (by decide), if_neg (by decide)]; exact toB_W hW (vI_1 (by omega))⟩
    have hm1 : Ms M (yS (yS (yS M 51 w (nI kk)) 52 w (nI mm)) 53 (3 * w + 1) vv) := ((Ms.a (by decide)).tr (Ms.a (by decide))).tr (Ms.a (by decide))
    have hq1 := hQ.ms hm1 (hQ.1.km (k := kk) (m := mm) (v := vv))
    rw [j4] at hq1
    have hkc : bDy (kcB b w sort k) = bDy b ∧ bLw (kcB b w sort k) = bLw b := by
      unfold kcB
      rcases (show sort = 0 ∨ sort = 1 ∨ sort = 2 by omega) with rfl | rfl | rfl
      · rw [if_pos rfl]; exact ⟨rfl, rfl⟩
      · rw [if_neg (by decide), if_pos rfl]; exact ⟨rfl, rfl⟩
      · rw [if_neg (by decide), if_neg (by decide)]; exact ⟨rfl, rfl⟩
    obtain ⟨M1, a1, a2, a3⟩ := q_un (cl := cl) hK hT hs hm j5 (by rw [hkc.1]; exact hd) (by rw [hkc.2]; exact hl) hq1 (hH.ms hm1)
    rw [hkc.2] at a1
    obtain ⟨j, e1, e2⟩ := ft_j (fun k => fitB (tx (bLw b)) (kcB b w sort k) m cl) k (C := foF (tx (bLw b)) (kcB b w sort k) cl m 0 = -1) rfl
    have e3 : (3 : Int32) * nI w + 1 = nI (3 * w + 1) := by rw [show (3 : Int32) = nI 3 from rfl, mulN, incN]
    rw [b_X8_kinds_72, ee M k0 m0 v0 hQ, Option.bind_some, iteLe (by omega) (by omega), if_neg (by omega), if_pos hK.mo, hK.mr (f := 1) rfl, Option.bind_some, j1, Option.bind_some, if_pos (gA_N a51 (by omega) (by omega)), nC (by omega), Option.bind_some, hK.mr (f := 2) rfl, Option.bind_some, j2, Option.bind_some, if_pos (gA_N a52 (by omega) (by omega)), Option.bind_some, hK.mr (f := 3) rfl, Option.bind_some, j3, Option.bind_some, e3, if_pos (gA_N a53 (by omega) (by omega)), nC (by omega), Option.bind_some, a1, Option.bind_some]
    dsimp only
    rw [e1, Option.bind_some, Option.bind_some, incN, Option.bind_some, e2]
    rw [← j4] at a2
    obtain ⟨M', k1, m1, v1, r1, r2, r3⟩ := ih g (k + 1) kk mm vv M1 (by omega) (by omega) a2 ((hH.ms hm1).ms a3)
    exact ⟨M', k1, m1, v1, r1, r2, (hm1.tr a3).tr r3⟩
