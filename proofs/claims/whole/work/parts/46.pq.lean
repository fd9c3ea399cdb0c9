/-! other books -/
def stB (b : Bk) (p : Nat) : Bk := (bE b, bK b, bM b, bZ b, bT b, bR b, bDn b, bDs b, p, bDy b, -1, bSk b, bCa b, bLw b)
def mkB (b : Bk) (v : Int32) : Bk := (bE b, bK b, bM b, bZ b, bT b, bR b, bDn b, bDs b, bPg b, bDy b, v, bSk b, bCa b, bLw b)
def skB (b : Bk) (s : Int32) : Bk := (bE b, bK b, bM b, bZ b, bT b, bR b, bDn b, bDs b, bPg b, bDy b, bBm b, s, bCa b, bLw b)
def lwB (b : Bk) (t : Nat) : Bk := (bE b, bK b, bM b, bZ b, bT b, bR b, bDn b, bDs b, bPg b, bDy b, bBm b, bSk b, bCa b, t)
def ddB (b : Bk) (d : Nat) : Bk := (bE b, bK b, bM b, bZ b, bT b, bR b, bDn b, bDs b, bPg b, d, bBm b, bSk b, bCa b, bLw b)
def upN {α : Type} (g : Nat → α) (w : Nat) (v : α) (u : Nat) : α := if u = w then v else g u
def toB (b : Bk) (w : Nat) (v : Int32) : Bk := (bE b, bK b, bM b, bZ b, upN (bT b) w v, bR b, bDn b, bDs b, bPg b, bDy b, bBm b, bSk b, bCa b, bLw b)
def kdB (b : Bk) (w k : Nat) : Bk := (bE b, upN (bK b) w k, bM b, bZ b, bT b, bR b, bDn b, bDs b, bPg b, bDy b, bBm b, bSk b, bCa b, bLw b)
def moB (b : Bk) (w m : Nat) : Bk := (bE b, bK b, upN (bM b) w m, bZ b, bT b, bR b, bDn b, bDs b, bPg b, bDy b, bBm b, bSk b, bCa b, bLw b)
def szB (b : Bk) (w z : Nat) : Bk := (bE b, bK b, bM b, upN (bZ b) w z, bT b, bR b, bDn b, bDs b, bPg b, bDy b, bBm b, bSk b, bCa b, bLw b)
theorem upN_at {α : Type} (g : Nat → α) (w : Nat) (v : α) : upN g w v w = v := if_pos rfl
theorem upN_o {α : Type} (g : Nat → α) (w : Nat) (v : α) {u : Nat} (h : u ≠ w) : upN g w v u = g u := if_neg h
theorem WX_f {b : Bk} {pg dy lw : Nat} {bm sk : Int32} (hW : WX b) (hpg : pg < 1000) (hdy : dy < 2000) (hbm : bm = -1 ∨ ∃ j, j < bE b ∧ bm = nI j) (hsk : bB sk (bE b)) (hlw : lw < 6) : WX (bE b, bK b, bM b, bZ b, bT b, bR b, bDn b, bDs b, pg, dy, bm, sk, bCa b, lw) := by
  obtain ⟨⟨w1, w2, w3, w4, w5, w6⟩, w7, w8, w9, w10⟩ := hW
  exact ⟨⟨w1, w2, w3, hpg, hdy, hbm⟩, hlw, w8, hsk, w10⟩
theorem WX_e {b : Bk} {k m z : Nat → Nat} {t : Nat → Int32} (hW : WX b) (h : ∀ w, w < bE b → k w < 6 ∧ m w < 10 ∧ 1 ≤ z w ∧ z w ≤ 60 ∧ (t w = -1 ∨ ∃ j, j < 12 ∧ t w = nI j)) : WX (bE b, k, m, z, t, bR b, bDn b, bDs b, bPg b, bDy b, bBm b, bSk b, bCa b, bLw b) := by
  obtain ⟨⟨w1, w2, w3, w4, w5, w6⟩, w7, w8, w9, w10⟩ := hW
  refine ⟨⟨w1, fun w hw => ?_, w3, w4, w5, w6⟩, w7, w8, w9, w10⟩
  obtain ⟨h1, h2, h3, h4, h5⟩ := h w hw
  exact ⟨h1, h2, h3, h4, h5, (w2 w hw).2.2.2.2.2⟩
theorem stB_W {b : Bk} {p : Nat} (hW : WX b) (hp : p < 1000) : WX (stB b p) := WX_f hW hp hW.1.2.2.2.2.1 (.inl rfl) hW.2.2.2.1 hW.2.1
theorem mkB_W {b : Bk} {v : Int32} (hW : WX b) (hv : v = -1 ∨ ∃ j, j < bE b ∧ v = nI j) : WX (mkB b v) := WX_f hW hW.1.2.2.2.1 hW.1.2.2.2.2.1 hv hW.2.2.2.1 hW.2.1
theorem skB_W {b : Bk} {s : Int32} (hW : WX b) (hs : bB s (bE b)) : WX (skB b s) := WX_f hW hW.1.2.2.2.1 hW.1.2.2.2.2.1 hW.1.2.2.2.2.2 hs hW.2.1
theorem lwB_W {b : Bk} {t : Nat} (hW : WX b) (ht : t < 6) : WX (lwB b t) := WX_f hW hW.1.2.2.2.1 hW.1.2.2.2.2.1 hW.1.2.2.2.2.2 hW.2.2.2.1 ht
theorem ddB_W {b : Bk} {d : Nat} (hW : WX b) (hd : d < 2000) : WX (ddB b d) := WX_f hW hW.1.2.2.2.1 hd hW.1.2.2.2.2.2 hW.2.2.2.1 hW.2.1
theorem toB_W {b : Bk} {w : Nat} {v : Int32} (hW : WX b) (hv : v = -1 ∨ ∃ j, j < 12 ∧ v = nI j) : WX (toB b w v) := WX_e hW (fun u hu => by
  obtain ⟨h1, h2, h3, h4, h5, -⟩ := hW.1.2.1 u hu
  refine ⟨h1, h2, h3, h4, ?_⟩
  by_cases e : u = w
  · rw [e, upN_at]; exact hv
  · rw [upN_o _ _ _ e]; exact h5)
theorem kdB_W {b : Bk} {w k : Nat} (hW : WX b) (hk : k < 6) : WX (kdB b w k) := WX_e hW (fun u hu => by
  obtain ⟨h1, h2, h3, h4, h5, -⟩ := hW.1.2.1 u hu
  refine ⟨?_, h2, h3, h4, h5⟩
  by_cases e : u = w
  · rw [e, upN_at]; exact hk
  · rw [upN_o _ _ _ e]; exact h1)
theorem moB_W {b : Bk} {w m : Nat} (hW : WX b) (hm : m < 10) : WX (moB b w m) := WX_e hW (fun u hu => by
  obtain ⟨h1, h2, h3, h4, h5, -⟩ := hW.1.2.1 u hu
  refine ⟨h1, ?_, h3, h4, h5⟩
  by_cases e : u = w
  · rw [e, upN_at]; exact hm
  · rw [upN_o _ _ _ e]; exact h2)
theorem szB_W {b : Bk} {w z : Nat} (hW : WX b) (h1 : 1 ≤ z) (h2 : z ≤ 60) : WX (szB b w z) := WX_e hW (fun u hu => by
  obtain ⟨g1, g2, g3, g4, g5, -⟩ := hW.1.2.1 u hu
  refine ⟨g1, g2, ?_, ?_, g5⟩
  · by_cases e : u = w
    · rw [e, upN_at]; exact h1
    · rw [upN_o _ _ _ e]; exact g3
  · by_cases e : u = w
    · rw [e, upN_at]; exact h2
    · rw [upN_o _ _ _ e]; exact g4)
/-! how they stand in a Book -/
theorem BR_f {M M' : yM} {t : Nat} {b : Bk} {pg dy lw : Nat} {bm sk : Int32} (h : BR M t b) (ha : ∀ q, t + 1 ≤ q → q ≤ t + 8 → M' q = M q) (h8 : M' t 8 = M t 8) (h9 : M' t 9 = M t 9) (h10 : M' t 10 = nI pg) (h11 : M' t 11 = nI dy) (h12 : M' t 12 = bm) (h13 : M' t 13 = sk) (h14 : M' t 14 = M t 14) (h15 : M' t 15 = nI lw) : BR M' t (bE b, bK b, bM b, bZ b, bT b, bR b, bDn b, bDs b, pg, dy, bm, sk, bCa b, lw) := by
  obtain ⟨⟨b8, b9, b10, b11, b12, b13, b14, b15⟩, bv, bd⟩ := h
  refine ⟨⟨h8.trans b8, h9.trans b9, h10, h11, h12, h13, h14.trans b14, h15⟩, fun w hw => ?_, fun d hd => ?_⟩
  · rw [ha (t + 1) (by omega) (by omega), ha (t + 2) (by omega) (by omega), ha (t + 3) (by omega) (by omega), ha (t + 4) (by omega) (by omega), ha (t + 5) (by omega) (by omega)]; exact bv w hw
  · rw [ha (t + 8) (by omega) (by omega)]; exact bd d hd
theorem BS_f {M M' : yM} {t : Nat} {b : Bk} {pg dy lw : Nat} {bm sk : Int32} (h : BS M t b) (h6 : M' (t + 6) = M (t + 6)) (h7 : M' (t + 7) = M (t + 7)) : BS M' t (bE b, bK b, bM b, bZ b, bT b, bR b, bDn b, bDs b, pg, dy, bm, sk, bCa b, lw) := by
  unfold BS
  rw [h6, h7]
  refine ⟨fun w hw => ?_, fun w hw => ?_⟩
  · rw [show fsB (bE b, bK b, bM b, bZ b, bT b, bR b, bDn b, bDs b, pg, dy, bm, sk, bCa b, lw) w = fsB b w from fsB_cg (b := b) (b' := (bE b, bK b, bM b, bZ b, bT b, bR b, bDn b, bDs b, pg, dy, bm, sk, bCa b, lw)) rfl rfl rfl w]; exact h.1 w hw
  · rw [show chB (bE b, bK b, bM b, bZ b, bT b, bR b, bDn b, bDs b, pg, dy, bm, sk, bCa b, lw) w = chB b w from chF_cg (b := b) (b' := (bE b, bK b, bM b, bZ b, bT b, bR b, bDn b, bDs b, pg, dy, bm, sk, bCa b, lw)) rfl rfl rfl 12 (nI w) 0]; exact h.2 w hw
theorem BR_e {M M' : yM} {t : Nat} {b : Bk} {k m z : Nat → Nat} {s : Nat → Int32} (h : BR M t b) (h0 : M' t = M t) (h5 : M' (t + 5) = M (t + 5)) (h8 : M' (t + 8) = M (t + 8)) (hv : ∀ w, w < bE b → M' (t + 1) w = nI (k w) ∧ M' (t + 2) w = nI (m w) ∧ M' (t + 3) w = nI (z w) ∧ M' (t + 4) w = s w) : BR M' t (bE b, k, m, z, s, bR b, bDn b, bDs b, bPg b, bDy b, bBm b, bSk b, bCa b, bLw b) := by
  obtain ⟨b1, bv, bd⟩ := h
  unfold BR
  rw [h0, h5, h8]
  refine ⟨b1, fun w hw => ?_, bd⟩
  obtain ⟨g1, g2, g3, g4⟩ := hv w hw
  exact ⟨g1, g2, g3, g4, (bv w hw).2.2.2.2⟩
/-- and in the model -/
theorem MR_f {M M' : yM} {b : Bk} {pg dy lw : Nat} {bm sk : Int32} (h : MR M b) (ha : ∀ q, 51 ≤ q → q ≤ 54 → M' q = M q) (h0 : M' 50 0 = M 50 0) (h4 : M' 50 4 = M 50 4) (h6 : M' 50 6 = nI pg) (h7 : M' 50 7 = nI dy) (h8 : M' 50 8 = bm) (h9 : M' 50 9 = sk) (h10 : M' 50 10 = M 50 10) (h16 : M' 50 16 = nI lw) : MR M' (bE b, bK b, bM b, bZ b, bT b, bR b, bDn b, bDs b, pg, dy, bm, sk, bCa b, lw) := by
  obtain ⟨⟨b0, b4, b6, b7, b8, b9, b10, b16⟩, bv, bd⟩ := h
  refine ⟨⟨h0.trans b0, h4.trans b4, h6, h7, h8, h9, h10.trans b10, h16⟩, fun w hw => ?_, fun d hd => ?_⟩
  · rw [ha 51 (by omega) (by omega), ha 52 (by omega) (by omega), ha 53 (by omega) (by omega)]; exact bv w hw
  · rw [ha 54 (by omega) (by omega)]; exact bd d hd
theorem MR_e {M M' : yM} {b : Bk} {k m z : Nat → Nat} {s : Nat → Int32} (h : MR M b) (h0 : M' 50 = M 50) (h54 : M' 54 = M 54) (hv : ∀ w, w < bE b → M' 51 w = nI (k w) ∧ M' 52 w = nI (m w) ∧ M' 53 (3 * w) = nI (z w) ∧ M' 53 (3 * w + 1) = s w ∧ M' 53 (3 * w + 2) = M 53 (3 * w + 2)) : MR M' (bE b, k, m, z, s, bR b, bDn b, bDs b, bPg b, bDy b, bBm b, bSk b, bCa b, bLw b) := by
  obtain ⟨b1, bv, bd⟩ := h
  unfold MR
  rw [h0, h54]
  refine ⟨b1, fun w hw => ?_, bd⟩
  obtain ⟨g1, g2, g3, g4, g5⟩ := hv w hw
  exact ⟨g1, g2, g3, g4, g5.trans (bv w hw).2.2.2.2⟩
/-! the class thinks -/
/-- a change, told by its number, makes another book of this one -/
def TH (K : yK) (ch w v : Int32) (b c : Bk) : Prop := ∀ M, BR M 7 b → BS M 7 b → ∃ M', b_X7_think K M 0 ch w v = some M' ∧ BR M' 25 c ∧ BS M' 25 c ∧ Fc M M'
theorem yS_q (M : yM) {p q : Nat} (i : Nat) (v : Int32) (h : q ≠ p) : yS M p i v q = M q := funext fun j => yS_op _ _ _ _ h j
theorem p_took {K : yK} {M : yM} {b : Bk} (hK : KSh K) (hW : WX b) (hB : BR M 7 b) (hS : BS M 7 b) : ∃ M', b_X0_takeFrom K M 25 7 = some M' ∧ BR M' 25 b ∧ BS M' 25 b ∧ Fc M M' := by
  obtain ⟨M', a1, a2, a3, -, -, a6⟩ := p_takeFrom hK iB25 iB7 (by decide) hW.1 hB hS
  exact ⟨M', a1, a2, a3, fun q _ _ h => a6 q (by omega)⟩
theorem TH_0 {K : yK} {b : Bk} (hK : KSh K) (hW : WX b) (w v : Int32) : TH K 0 w v b b := by
  intro M hB hS
  obtain ⟨M', a1, a2, a3, a4⟩ := p_took hK hW hB hS
  refine ⟨M', ?_, a2, a3, a4⟩
  unfold b_X7_think
  rw [if_pos hK.o0, hK.r02, Option.bind_some, hK.r00, Option.bind_some, if_pos hK.o25, a1, Option.bind_some]
  by_cases c : w < 0
  · rw [if_pos c]
  · rw [if_neg c]
    by_cases d : w < 12
    · rw [if_pos d, if_neg (by decide), if_neg (by decide), if_neg (by decide), if_neg (by decide), if_neg (by decide), if_neg (by decide), if_neg (by decide), if_neg (by decide)]
    · rw [if_neg d]
theorem th_w {w : Nat} (h : w < 12) {α : Type} (a b c : α) : (if nI w < 0 then a else (if nI w < (12 : Int32) then b else c)) = b := by
  rw [if_neg (nI_pos (by omega)), show (12 : Int32) = nI 12 from rfl, iteLt (by omega) (by omega), if_pos h]
theorem Fc.yS {M M' : yM} {q i : Nat} {v : Int32} (h : Fc M M') (hq : 25 ≤ q ∧ q ≤ 33) : Fc M (yS M' q i v) := fun p z1 z2 z3 => by rw [yS_q _ _ _ (by omega)]; exact h p z1 z2 z3
theorem p_firstOf {K : yK} {M : yM} {t v : Nat} {b : Bk} (hK : KSh K) (ht : isB t) (h12 : bE b ≤ 12) (hv : v ≤ bE b) (hS : BS M t b) : b_X0_firstOf K M t (nI v) = some (nI (fsB b v)) := by
  unfold b_X0_firstOf
  rw [if_neg (nI_pos (by omega)), if_pos (hK.bo ht), hK.br ht (f := 5) (by omega), Option.bind_some, show t + 1 + 5 = t + 6 by omega, if_pos (gI_N (hK.b6 ht)), len_N (hK.b6 ht), iteLe (by omega) (by omega), if_neg (by omega), if_pos (gA_N (hK.b6 ht) (by omega) (by omega)), nC (by omega), hS.1 v hv]
theorem TH_1 {K : yK} {b : Bk} {w v : Nat} (hK : KSh K) (hW : WX b) (hw : w < 12) (hv : v ≤ bE b) : TH K 1 (nI w) (nI v) b (stB b (fsB b v)) := by
  intro M hB hS
  obtain ⟨M1, a1, a2, a3, a4⟩ := p_took hK hW hB hS
  refine ⟨_, ?_, ?_, ?_, (a4.yS (i := 10) (v := nI (fsB b v)) ⟨Nat.le_refl 25, by decide⟩).yS (i := 12) (v := -1) ⟨Nat.le_refl 25, by decide⟩⟩
  · unfold b_X7_think
    rw [if_pos hK.o0, hK.r02, Option.bind_some, hK.r00, Option.bind_some, if_pos hK.o25, a1, Option.bind_some, th_w hw, if_pos rfl, p_firstOf hK iB25 hW.1.1 hv a3, Option.bind_some, Option.bind_some, Option.bind_some]
  · obtain ⟨⟨b8, b9, b10, b11, b12, b13, b14, b15⟩, -, -⟩ := id a2
    refine BR_f a2 (fun q h1 h2 => by rw [yS_q _ _ _ (by omega), yS_q _ _ _ (by omega)]) ?_ ?_ ?_ ?_ ?_ ?_ ?_ ?_ <;> simp [yS, *]
  · exact BS_f a3 (by rw [yS_q _ _ _ (by omega), yS_q _ _ _ (by omega)]) (by rw [yS_q _ _ _ (by omega), yS_q _ _ _ (by omega)])
theorem TH_2 {K : yK} {b : Bk} {w : Nat} (v : Int32) (hK : KSh K) (hW : WX b) (hw : w < 12) : TH K 2 (nI w) v b (mkB b v) := by
  intro M hB hS
  obtain ⟨M1, a1, a2, a3, a4⟩ := p_took hK hW hB hS
  refine ⟨_, ?_, ?_, ?_, a4.yS (i := 12) (v := v) ⟨Nat.le_refl 25, by decide⟩⟩
  · unfold b_X7_think
    rw [if_pos hK.o0, hK.r02, Option.bind_some, hK.r00, Option.bind_some, if_pos hK.o25, a1, Option.bind_some, th_w hw, if_neg (by decide), if_pos rfl, Option.bind_some]
  · obtain ⟨⟨b8, b9, b10, b11, b12, b13, b14, b15⟩, -, -⟩ := id a2
    refine BR_f a2 (fun q h1 h2 => by rw [yS_q _ _ _ (by omega)]) ?_ ?_ ?_ ?_ ?_ ?_ ?_ ?_ <;> simp [yS, *]
  · exact BS_f a3 (by rw [yS_q _ _ _ (by omega)]) (by rw [yS_q _ _ _ (by omega)])
theorem TH_3 {K : yK} {b : Bk} {w : Nat} (v : Nat) (hK : KSh K) (hW : WX b) (hw : w < 12) : TH K 3 (nI w) (nI v) b (skB b (bSk b ||| sh1 v)) := by
  intro M hB hS
  obtain ⟨M1, a1, a2, a3, a4⟩ := p_took hK hW hB hS
  refine ⟨_, ?_, ?_, ?_, a4.yS (i := 13) (v := bSk b ||| sh1 v) ⟨Nat.le_refl 25, by decide⟩⟩
  · unfold b_X7_think
    rw [if_pos hK.o0, hK.r02, Option.bind_some, hK.r00, Option.bind_some, if_pos hK.o25, a1, Option.bind_some, th_w hw, if_neg (by decide), if_neg (by decide), if_pos rfl, Option.bind_some, a2.1.2.2.2.2.2.1]
  · obtain ⟨⟨b8, b9, b10, b11, b12, b13, b14, b15⟩, -, -⟩ := id a2
    refine BR_f a2 (fun q h1 h2 => by rw [yS_q _ _ _ (by omega)]) ?_ ?_ ?_ ?_ ?_ ?_ ?_ ?_ <;> simp [yS, *]
  · exact BS_f a3 (by rw [yS_q _ _ _ (by omega)]) (by rw [yS_q _ _ _ (by omega)])
theorem TH_4 {K : yK} {b : Bk} {w : Nat} (v : Int32) (hK : KSh K) (hW : WX b) (hw : w < 12) : TH K 4 (nI w) v b (skB b (if 0 ≤ v then (1 : Int32) <<< (v &&& 31) else 0)) := by
  intro M hB hS
  obtain ⟨M1, a1, a2, a3, a4⟩ := p_took hK hW hB hS
  refine ⟨_, ?_, ?_, ?_, a4.yS (i := 13) (v := if 0 ≤ v then (1 : Int32) <<< (v &&& 31) else 0) ⟨Nat.le_refl 25, by decide⟩⟩
  · unfold b_X7_think
    rw [if_pos hK.o0, hK.r02, Option.bind_some, hK.r00, Option.bind_some, if_pos hK.o25, a1, Option.bind_some, th_w hw, if_neg (by decide), if_neg (by decide), if_neg (by decide), if_pos rfl]
    by_cases c : 0 ≤ v
    · rw [if_pos c, if_pos c, Option.bind_some, Option.bind_some]
    · rw [if_neg c, if_neg c, Option.bind_some, Option.bind_some]
  · obtain ⟨⟨b8, b9, b10, b11, b12, b13, b14, b15⟩, -, -⟩ := id a2
    refine BR_f a2 (fun q h1 h2 => by rw [yS_q _ _ _ (by omega)]) ?_ ?_ ?_ ?_ ?_ ?_ ?_ ?_ <;> simp [yS, *]
  · exact BS_f a3 (by rw [yS_q _ _ _ (by omega)]) (by rw [yS_q _ _ _ (by omega)])
theorem TH_8 {K : yK} {b : Bk} {w : Nat} (v : Nat) (hK : KSh K) (hW : WX b) (hw : w < 12) : TH K 8 (nI w) (nI v) b (lwB b v) := by
  intro M hB hS
  obtain ⟨M1, a1, a2, a3, a4⟩ := p_took hK hW hB hS
  refine ⟨_, ?_, ?_, ?_, a4.yS (i := 15) (v := nI v) ⟨Nat.le_refl 25, by decide⟩⟩
  · unfold b_X7_think
    rw [if_pos hK.o0, hK.r02, Option.bind_some, hK.r00, Option.bind_some, if_pos hK.o25, a1, Option.bind_some, th_w hw, if_neg (by decide), if_neg (by decide), if_neg (by decide), if_neg (by decide), if_neg (by decide), if_neg (by decide), if_neg (by decide), if_pos rfl, Option.bind_some]
  · obtain ⟨⟨b8, b9, b10, b11, b12, b13, b14, b15⟩, -, -⟩ := id a2
    refine BR_f a2 (fun q h1 h2 => by rw [yS_q _ _ _ (by omega)]) ?_ ?_ ?_ ?_ ?_ ?_ ?_ ?_ <;> simp [yS, *]
  · exact BS_f a3 (by rw [yS_q _ _ _ (by omega)]) (by rw [yS_q _ _ _ (by omega)])
theorem BR.settle {K : yK} {M : yM} {t : Nat} {c : Bk} (hK : KSh K) (ht : isB t) (hW : WB c) (hB : BR M t c) : ∃ M', b_X0_settle K M t = some M' ∧ BR M' t c ∧ BS M' t c ∧ ∀ q, q ≠ t + 6 → q ≠ t + 7 → M' q = M q := by
  obtain ⟨M', a1, a2, a3⟩ := p_settle hK ht hW hB.be
  refine ⟨M', a1, ?_, a3, a2⟩
  obtain ⟨b1, bv, bd⟩ := hB
  unfold BR
  rw [a2 t (by omega) (by omega), a2 (t + 1) (by omega) (by omega), a2 (t + 2) (by omega) (by omega), a2 (t + 3) (by omega) (by omega), a2 (t + 4) (by omega) (by omega), a2 (t + 5) (by omega) (by omega), a2 (t + 8) (by omega) (by omega)]
  exact ⟨b1, bv, bd⟩
theorem BR.to {M : yM} {t w : Nat} {v : Int32} {b : Bk} (h : BR M t b) : BR (yS M (t + 4) w v) t (toB b w v) := by
  refine BR_e h (yS_q _ _ _ (by omega)) (yS_q _ _ _ (by omega)) (yS_q _ _ _ (by omega)) (fun u hu => ?_)
  obtain ⟨g1, g2, g3, g4, -⟩ := h.2.1 u hu
  rw [yS_op _ _ _ _ (by omega), yS_op _ _ _ _ (by omega), yS_op _ _ _ _ (by omega)]
  refine ⟨g1, g2, g3, ?_⟩
  by_cases e : u = w
  · rw [e, yS_at, upN_at]
  · rw [yS_oi _ _ _ _ e, upN_o _ _ _ e]; exact g4
theorem BR.kd {M : yM} {t w k : Nat} {b : Bk} (h : BR M t b) : BR (yS M (t + 1) w (nI k)) t (kdB b w k) := by
  refine BR_e h (yS_q _ _ _ (by omega)) (yS_q _ _ _ (by omega)) (yS_q _ _ _ (by omega)) (fun u hu => ?_)
  obtain ⟨g1, g2, g3, g4, -⟩ := h.2.1 u hu
  rw [yS_op _ (t + 1) _ _ (show t + 2 ≠ t + 1 by omega), yS_op _ _ _ _ (show t + 3 ≠ t + 1 by omega), yS_op _ _ _ _ (show t + 4 ≠ t + 1 by omega)]
  refine ⟨?_, g2, g3, g4⟩
  by_cases e : u = w
  · rw [e, yS_at, upN_at]
  · rw [yS_oi _ _ _ _ e, upN_o _ _ _ e]; exact g1
theorem BR.mo {M : yM} {t w k : Nat} {b : Bk} (h : BR M t b) : BR (yS M (t + 2) w (nI k)) t (moB b w k) := by
  refine BR_e h (yS_q _ _ _ (by omega)) (yS_q _ _ _ (by omega)) (yS_q _ _ _ (by omega)) (fun u hu => ?_)
  obtain ⟨g1, g2, g3, g4, -⟩ := h.2.1 u hu
  rw [yS_op _ _ _ _ (show t + 1 ≠ t + 2 by omega), yS_op _ _ _ _ (show t + 3 ≠ t + 2 by omega), yS_op _ _ _ _ (show t + 4 ≠ t + 2 by omega)]
  refine ⟨g1, ?_, g3, g4⟩
  by_cases e : u = w
  · rw [e, yS_at, upN_at]
  · rw [yS_oi _ _ _ _ e, upN_o _ _ _ e]; exact g2
theorem BR.sz {M : yM} {t w k : Nat} {b : Bk} (h : BR M t b) : BR (yS M (t + 3) w (nI k)) t (szB b w k) := by
  refine BR_e h (yS_q _ _ _ (by omega)) (yS_q _ _ _ (by omega)) (yS_q _ _ _ (by omega)) (fun u hu => ?_)
  obtain ⟨g1, g2, g3, g4, -⟩ := h.2.1 u hu
  rw [yS_op _ _ _ _ (show t + 1 ≠ t + 3 by omega), yS_op _ _ _ _ (show t + 2 ≠ t + 3 by omega), yS_op _ _ _ _ (show t + 4 ≠ t + 3 by omega)]
  refine ⟨g1, g2, ?_, g4⟩
  by_cases e : u = w
  · rw [e, yS_at, upN_at]
  · rw [yS_oi _ _ _ _ e, upN_o _ _ _ e]; exact g3
theorem TH_5 {K : yK} {b : Bk} {w : Nat} {v : Int32} (hK : KSh K) (hW : WX b) (hw : w < 12) (hv : v = -1 ∨ ∃ j, j < 12 ∧ v = nI j) : TH K 5 (nI w) v b (toB b w v) := by
  intro M hB hS
  obtain ⟨M1, a1, a2, a3, a4⟩ := p_took hK hW hB hS
  obtain ⟨M2, c1, c2, c3, c4⟩ := BR.settle hK iB25 (toB_W hW hv).1 (a2.to (w := w) (v := v))
  refine ⟨M2, ?_, c2, c3, fun q z1 z2 z3 => ?_⟩
  · unfold b_X7_think
    rw [if_pos hK.o0, hK.r02, Option.bind_some, hK.r00, Option.bind_some, if_pos hK.o25, a1, Option.bind_some, th_w hw, if_neg (by decide), if_neg (by decide), if_neg (by decide), if_neg (by decide), if_pos rfl, hK.br iB25 (f := 3) (by omega), Option.bind_some, if_pos (gA_N (hK.ba iB25 (f := 3) (by omega)) hw (by omega)), Option.bind_some, nC (by omega), c1, Option.bind_some]
  · rw [c4 q (by omega) (by omega), yS_q _ _ _ (by omega)]
    exact a4 q z1 z2 z3
theorem TH_6 {K : yK} {b : Bk} {w k : Nat} (hK : KSh K) (hW : WX b) (hw : w < 12) (hk : k < 6) : TH K 6 (nI w) (nI k) b (kdB b w k) := by
  intro M hB hS
  obtain ⟨M1, a1, a2, a3, a4⟩ := p_took hK hW hB hS
  obtain ⟨M2, c1, c2, c3, c4⟩ := BR.settle hK iB25 (kdB_W hW hk).1 (a2.kd (w := w) (k := k))
  refine ⟨M2, ?_, c2, c3, fun q z1 z2 z3 => ?_⟩
  · unfold b_X7_think
    rw [if_pos hK.o0, hK.r02, Option.bind_some, hK.r00, Option.bind_some, if_pos hK.o25, a1, Option.bind_some, th_w hw, if_neg (by decide), if_neg (by decide), if_neg (by decide), if_neg (by decide), if_neg (by decide), if_pos rfl, hK.br iB25 (f := 0) (by omega), Option.bind_some, if_pos (gA_N (hK.ba iB25 (f := 0) (by omega)) hw (by omega)), Option.bind_some, nC (by omega), c1, Option.bind_some]
  · rw [c4 q (by omega) (by omega), yS_q _ _ _ (by omega)]
    exact a4 q z1 z2 z3
theorem TH_7 {K : yK} {b : Bk} {w k : Nat} (hK : KSh K) (hW : WX b) (hw : w < 12) (hk : k < 10) : TH K 7 (nI w) (nI k) b (moB b w k) := by
  intro M hB hS
  obtain ⟨M1, a1, a2, a3, a4⟩ := p_took hK hW hB hS
  obtain ⟨M2, c1, c2, c3, c4⟩ := BR.settle hK iB25 (moB_W hW hk).1 (a2.mo (w := w) (k := k))
  refine ⟨M2, ?_, c2, c3, fun q z1 z2 z3 => ?_⟩
  · unfold b_X7_think
    rw [if_pos hK.o0, hK.r02, Option.bind_some, hK.r00, Option.bind_some, if_pos hK.o25, a1, Option.bind_some, th_w hw, if_neg (by decide), if_neg (by decide), if_neg (by decide), if_neg (by decide), if_neg (by decide), if_neg (by decide), if_pos rfl, hK.br iB25 (f := 1) (by omega), Option.bind_some, if_pos (gA_N (hK.ba iB25 (f := 1) (by omega)) hw (by omega)), Option.bind_some, nC (by omega), c1, Option.bind_some]
  · rw [c4 q (by omega) (by omega), yS_q _ _ _ (by omega)]
    exact a4 q z1 z2 z3
