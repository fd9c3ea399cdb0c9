/-! what is best: begin, lobby, soup, road -/
theorem w1 (W : Nat → Int32) : (fun k => (1 : Int32) * W k) = W := funext fun k => Int32.one_mul _
theorem vfn : vI 0 = nI := funext vI_0
theorem ge0 {k : Nat} (h : k < 2147483648) : (0 : Int32) ≤ nI k := nI_pos' h
theorem ng0 : ¬ (0 : Int32) ≤ -1 := by decide
theorem a_begin {K : yK} {M : yM} {b ib : Bk} {im : Bool} {tn ts : Nat} {tx : Nat → Tx} {tp so : Nat → Int32} {sz : Nat → Nat} {ce : Nat → Nat → Int32} (h : IN K M b ib im tn ts tx tp so sz ce) (x1 x2 : Int32) : AL K (fun M => b_X7_begin K M 0 x1 x2) (fun M => b_X8_begin K M 50 x1 x2) M := by
  obtain ⟨hK, hW, hd, hl, hT, hx, hB, hS, hXs, hX⟩ := h.cls
  have h12 := hW.1.1
  by_cases c1 : 0 ≤ x1 ∧ x1 ≤ 60
  · by_cases c2 : 0 ≤ x2 ∧ x2 ≤ 1
    · obtain ⟨n, hn, rfl⟩ := in_N (e := 60) (by decide) c1
      obtain ⟨M1, p1, p2⟩ := p_best (c := fun k => stB b (fsB b k)) (n := n) (o := 0) (ch := 1) (w := 0) (sign := 1) (bd := -1) hK hx hn (by omega) h12 (fun k hk => by rw [vI_0]; exact ⟨CH_1 hK hW hd (by omega), rfl⟩) hB hS hX
      rw [vfn, w1] at p1
      obtain ⟨W, hWd⟩ : ∃ W, W = fun k => wS (tx (bLw b)) noT (stB b (fsB b k)) n := ⟨_, rfl⟩
      have hWk : ∀ k, k < bE b → ∃ v, v < 2147483648 ∧ W k = nI v := fun k hk => by
        obtain ⟨v, v1, v2⟩ := wS_N (x := tx (bLw b)) (T := noT) (stB_W hW (fs_lt hW (show k ≤ bE b by omega))) n
        exact ⟨v, by omega, by rw [hWd]; exact v2⟩
      rw [← hWd] at p1
      have p1 : b_X7_best K M 0 1 0 0 (nI n) 1 (-1) = some ((beF W nI (bE b) 0 (-1) (-1)).1, M1) := p1
      -- what the reference comes to
      have hfold : (beF W nI (bE b) 0 (-1) (-1)).1 = (bgF W (bE b) 0 (-1) 0).1 ∧ (((bgF W (bE b) 0 (-1) 0).1 = -1 ∧ (bgF W (bE b) 0 (-1) 0).2 = 0) ∨ ∃ j, j < bE b ∧ bgF W (bE b) 0 (-1) 0 = (nI j, W j)) := by
        rcases Nat.eq_zero_or_pos (bE b) with z | z
        · rw [z]; exact ⟨rfl, .inl ⟨rfl, rfl⟩⟩
        · obtain ⟨e, he⟩ : ∃ e, bE b = e + 1 := ⟨bE b - 1, by omega⟩
          obtain ⟨v, v1, v2⟩ := hWk 0 z
          have hn0 : ¬ W 0 ≤ (-1 : Int32) := by rw [v2, i_le, nJ v1, i_m1]; omega
          rw [he, beF, bgF, if_neg hn0, if_pos (.inl rfl), bgF_be e 1 (nI 0) (W 0) (by omega) (nI_m1 (by omega))]
          refine ⟨rfl, .inr ?_⟩
          rcases beF_val W nI e 1 (nI 0) (W 0) with q | ⟨j, j1, j2, j3⟩
          · exact ⟨0, by omega, q⟩
          · exact ⟨j, by omega, j3⟩
      obtain ⟨hf1, hf2⟩ := hfold
      rw [hf1] at p1
      have hQ := h.qb p2
      rcases zo_of c2 with rfl | rfl
      · obtain ⟨M2, g1, g2, g3⟩ := q_begin_loop (x2 := 0) hK hT hn hW hd hl (bE b) 1000 0 M1 (-1) 0 (by omega) (by omega) hQ
        refine AL.q (r := (bgF W (bE b) 0 (-1) 0).1) h (M1 := M1) (M2 := M2) ?_ p2 ?_ g3 g2.1
        · show b_X7_begin K M 0 (nI n) 0 = _
          unfold b_X7_begin
          rw [c_isDays, Option.bind_some, ifd c1, c_zo, Option.bind_some, ifd c2, if_pos hK.o0, p1, Option.bind_some, if_pos rfl]
        · show b_X8_begin K M1 50 (nI n) 0 = _
          unfold b_X8_begin
          rw [q_in, Option.bind_some, ifd c1, q_in, Option.bind_some, ifd c2, show b_X8_begin_30 K 50 (nI n) 0 1000 M1 (-1) 0 0 = _ from g1, Option.bind_some, if_pos rfl, hWd]
      · rcases hf2 with ⟨e1, e2⟩ | ⟨j, j1, j2⟩
        · obtain ⟨M2, g1, g2, g3⟩ := q_begin_loop (x2 := 1) hK hT hn hW hd hl (bE b) 1000 0 M1 (-1) 0 (by omega) (by omega) hQ
          refine AL.q (r := 0) h (M1 := M1) (M2 := M2) ?_ p2 ?_ g3 g2.1
          · show b_X7_begin K M 0 (nI n) 1 = _
            unfold b_X7_begin
            rw [c_isDays, Option.bind_some, ifd c1, c_zo, Option.bind_some, ifd c2, if_pos hK.o0, p1, Option.bind_some, if_neg (by decide), e1, if_neg ng0]
          · show b_X8_begin K M1 50 (nI n) 1 = _
            unfold b_X8_begin
            rw [q_in, Option.bind_some, ifd c1, q_in, Option.bind_some, ifd c2, show b_X8_begin_30 K 50 (nI n) 1 1000 M1 (-1) 0 0 = _ from g1, Option.bind_some, if_neg (by decide)]
            rw [hWd] at e2
            dsimp only
            rw [e2]
        · obtain ⟨M3, s1, s2⟩ := p_worthIf (n := n) (c := stB b (fsB b j)) hK hx hn (p2.br hB) (p2.bs hS) (CH_1 hK hW hd (k := j) (by omega)) rfl (p2.xT hX)
          obtain ⟨M2, g1, g2, g3⟩ := q_begin_loop (x2 := 1) hK hT hn hW hd hl (bE b) 1000 0 M3 (-1) 0 (by omega) (by omega) (h.qb (p2.tr s2))
          refine AL.q (r := W j) h (M1 := M3) (M2 := M2) ?_ (p2.tr s2) ?_ g3 g2.1
          · show b_X7_begin K M 0 (nI n) 1 = _
            unfold b_X7_begin
            rw [c_isDays, Option.bind_some, ifd c1, c_zo, Option.bind_some, ifd c2, if_pos hK.o0, p1, Option.bind_some, if_neg (by decide), j2, if_pos (ge0 (by omega)), s1, Option.bind_some, hWd]
          · show b_X8_begin K M3 50 (nI n) 1 = _
            unfold b_X8_begin
            rw [q_in, Option.bind_some, ifd c1, q_in, Option.bind_some, ifd c2, show b_X8_begin_30 K 50 (nI n) 1 1000 M3 (-1) 0 0 = _ from g1, Option.bind_some, if_neg (by decide)]
            rw [hWd] at j2
            dsimp only
            rw [j2, hWd]
    · refine AL.no (r := -2) h ?_ ?_
      · show b_X7_begin K M 0 x1 x2 = _
        unfold b_X7_begin
        rw [c_isDays, Option.bind_some, ifd c1, c_zo, Option.bind_some, ifn c2]
      · show b_X8_begin K M 50 x1 x2 = _
        unfold b_X8_begin
        rw [q_in, Option.bind_some, ifd c1, q_in, Option.bind_some, ifn c2]
  · refine AL.no (r := -2) h ?_ ?_
    · show b_X7_begin K M 0 x1 x2 = _
      unfold b_X7_begin
      rw [c_isDays, Option.bind_some, ifn c1]
    · show b_X8_begin K M 50 x1 x2 = _
      unfold b_X8_begin
      rw [q_in, Option.bind_some, ifn c1]
theorem a_lobby {K : yK} {M : yM} {b ib : Bk} {im : Bool} {tn ts : Nat} {tx : Nat → Tx} {tp so : Nat → Int32} {sz : Nat → Nat} {ce : Nat → Nat → Int32} (h : IN K M b ib im tn ts tx tp so sz ce) (x1 x2 : Int32) : AL K (fun M => b_X7_lobby K M 0 x1 x2) (fun M => b_X8_lobby K M 50 x1 x2) M := by
  obtain ⟨hK, hW, hd, hl, hT, hx, hB, hS, hXs, hX⟩ := h.cls
  have h12 := hW.1.1
  by_cases c1 : 0 ≤ x1 ∧ x1 ≤ 60
  · by_cases c2 : 0 ≤ x2 ∧ x2 ≤ 1
    · obtain ⟨n, hn, rfl⟩ := in_N (e := 60) (by decide) c1
      obtain ⟨A, hA⟩ : ∃ A, A = wS (tx (bLw b)) noT b n := ⟨_, rfl⟩
      obtain ⟨W, hWd⟩ : ∃ W, W = fun k => wS (tx (bLw b)) noT (mkB b (nI k)) n := ⟨_, rfl⟩
      obtain ⟨M0, z1, z2⟩ := p_worthIf (n := n) (c := b) hK hx hn hB hS (CH_0 hK hW hd 0 0) rfl hX
      rw [← hA] at z1
      obtain ⟨M1, p1, p2⟩ := p_best (c := fun k => mkB b (nI k)) (n := n) (o := 0) (ch := 2) (w := 0) (sign := 1) (bd := A) hK hx hn (by omega) h12 (fun k hk => by rw [vI_0]; exact ⟨CH_2 hK hW hd (by omega), rfl⟩) (z2.br hB) (z2.bs hS) (z2.xT hX)
      rw [vfn, w1, ← hWd, Int32.one_mul] at p1
      have p1 : b_X7_best K M0 0 2 0 0 (nI n) 1 A = some ((beF W nI (bE b) 0 (-1) A).1, M1) := p1
      have f1 := z2.tr p2
      have gl : ∀ M', QB tn tx b M' → ∃ M2 M3, b_X8_goes K M' 50 (nI n) = some (A, M2) ∧ b_X8_lobby_34 K 50 (nI n) x2 1000 M2 (-1) A 0 = some ((beF W nI (bE b) 0 (-1) A).1, (beF W nI (bE b) 0 (-1) A).2, M3) ∧ QB tn tx b M3 ∧ Ms M' M3 := by
        intro M' hQ
        obtain ⟨M2, g1, g2, g3⟩ := q_w (n := n) hK hT hn hW hd hl hQ
        obtain ⟨M3, e1, e2, e3⟩ := q_lobby_loop (x2 := x2) hK hT hn hW hd hl (bE b) 1000 0 M2 (-1) A (by omega) (by omega) g2
        rw [← hWd, mx_be] at e1
        exact ⟨M2, M3, by rw [hA]; exact g1, e1, e2, g3.tr e3⟩
      rcases zo_of c2 with rfl | rfl
      · obtain ⟨M2, M3, g1, g2, g3, g4⟩ := gl M1 (h.qb f1)
        refine AL.q (r := (beF W nI (bE b) 0 (-1) A).1) h (M1 := M1) (M2 := M3) ?_ f1 ?_ g4 g3.1
        · show b_X7_lobby K M 0 (nI n) 0 = _
          unfold b_X7_lobby
          rw [c_isDays, Option.bind_some, ifd c1, c_zo, Option.bind_some, ifd c2, if_pos hK.o0, z1, Option.bind_some]
          dsimp only
          rw [p1, Option.bind_some, if_pos rfl]
        · show b_X8_lobby K M1 50 (nI n) 0 = _
          unfold b_X8_lobby
          rw [q_in, Option.bind_some, ifd c1, q_in, Option.bind_some, ifd c2, if_pos hK.mo, g1, Option.bind_some]
          dsimp only
          rw [g2, Option.bind_some, if_pos rfl]
      · rcases beF_val W nI (bE b) 0 (-1) A with q | ⟨j, j1, j2, j3⟩
        · obtain ⟨M2, M3, g1, g2, g3, g4⟩ := gl M1 (h.qb f1)
          refine AL.q (r := A) h (M1 := M1) (M2 := M3) ?_ f1 ?_ g4 g3.1
          · show b_X7_lobby K M 0 (nI n) 1 = _
            unfold b_X7_lobby
            rw [c_isDays, Option.bind_some, ifd c1, c_zo, Option.bind_some, ifd c2, if_pos hK.o0, z1, Option.bind_some]
            dsimp only
            rw [p1, Option.bind_some, if_neg (by decide), q, if_neg ng0]
          · show b_X8_lobby K M1 50 (nI n) 1 = _
            unfold b_X8_lobby
            rw [q_in, Option.bind_some, ifd c1, q_in, Option.bind_some, ifd c2, if_pos hK.mo, g1, Option.bind_some]
            dsimp only
            rw [g2, Option.bind_some, if_neg (by decide), q]
        · obtain ⟨M4, s1, s2⟩ := p_worthIf (n := n) (c := mkB b (nI j)) hK hx hn (f1.br hB) (f1.bs hS) (CH_2 hK hW hd (k := j) (by omega)) rfl (f1.xT hX)
          obtain ⟨M2, M3, g1, g2, g3, g4⟩ := gl M4 (h.qb (f1.tr s2))
          refine AL.q (r := W j) h (M1 := M4) (M2 := M3) ?_ (f1.tr s2) ?_ g4 g3.1
          · show b_X7_lobby K M 0 (nI n) 1 = _
            unfold b_X7_lobby
            rw [c_isDays, Option.bind_some, ifd c1, c_zo, Option.bind_some, ifd c2, if_pos hK.o0, z1, Option.bind_some]
            dsimp only
            rw [p1, Option.bind_some, if_neg (by decide), j3, if_pos (ge0 (by omega)), s1, Option.bind_some, hWd]
          · show b_X8_lobby K M4 50 (nI n) 1 = _
            unfold b_X8_lobby
            rw [q_in, Option.bind_some, ifd c1, q_in, Option.bind_some, ifd c2, if_pos hK.mo, g1, Option.bind_some]
            dsimp only
            rw [g2, Option.bind_some, if_neg (by decide), j3]
    · refine AL.no (r := -2) h ?_ ?_
      · show b_X7_lobby K M 0 x1 x2 = _
        unfold b_X7_lobby
        rw [c_isDays, Option.bind_some, ifd c1, c_zo, Option.bind_some, ifn c2]
      · show b_X8_lobby K M 50 x1 x2 = _
        unfold b_X8_lobby
        rw [q_in, Option.bind_some, ifd c1, q_in, Option.bind_some, ifn c2]
  · refine AL.no (r := -2) h ?_ ?_
    · show b_X7_lobby K M 0 x1 x2 = _
      unfold b_X7_lobby
      rw [c_isDays, Option.bind_some, ifn c1]
    · show b_X8_lobby K M 50 x1 x2 = _
      unfold b_X8_lobby
      rw [q_in, Option.bind_some, ifn c1]
theorem a_soup {K : yK} {M : yM} {b ib : Bk} {im : Bool} {tn ts : Nat} {tx : Nat → Tx} {tp so : Nat → Int32} {sz : Nat → Nat} {ce : Nat → Nat → Int32} (h : IN K M b ib im tn ts tx tp so sz ce) (x1 x2 : Int32) : AL K (fun M => b_X7_soup K M 0 x1 x2) (fun M => b_X8_soup K M 50 x1 x2) M := by
  obtain ⟨hK, hW, hd, hl, hT, hx, hB, hS, hXs, hX⟩ := h.cls
  have h12 := hW.1.1
  by_cases c1 : 0 ≤ x1 ∧ x1 ≤ 60
  · by_cases c2 : 0 ≤ x2 ∧ x2 ≤ 1
    · obtain ⟨n, hn, rfl⟩ := in_N (e := 60) (by decide) c1
      obtain ⟨A, hA⟩ : ∃ A, A = wS (tx (bLw b)) noT b n := ⟨_, rfl⟩
      obtain ⟨W, hWd⟩ : ∃ W, W = fun k => wS (tx (bLw b)) noT (skB b (bSk b ||| sh1 k)) n := ⟨_, rfl⟩
      have hWk : ∀ k, k < bE b → ∃ v, v < 2147483648 ∧ W k = nI v := fun k hk => by
        obtain ⟨v, v1, v2⟩ := wS_N (x := tx (bLw b)) (T := noT) (CH_3 hK hW hd hk).2.1 n
        exact ⟨v, by omega, by rw [hWd]; exact v2⟩
      have hAk : ∃ v, v < 2147483648 ∧ A = nI v := by
        obtain ⟨v, v1, v2⟩ := wS_N (x := tx (bLw b)) (T := noT) hW n
        exact ⟨v, by omega, by rw [hA]; exact v2⟩
      obtain ⟨M0, z1, z2⟩ := p_worthIf (n := n) (c := b) hK hx hn hB hS (CH_0 hK hW hd 0 0) rfl hX
      rw [← hA] at z1
      obtain ⟨M1, p1, p2⟩ := p_best (c := fun k => skB b (bSk b ||| sh1 k)) (n := n) (o := 0) (ch := 3) (w := 0) (sign := -1) (bd := A) hK hx hn (by omega) h12 (fun k hk => by rw [vI_0]; exact ⟨CH_3 hK hW hd (by omega), rfl⟩) (z2.br hB) (z2.bs hS) (z2.xT hX)
      have ew : (fun k => (-1 : Int32) * wS (tx (bLw b)) noT (skB b (bSk b ||| sh1 k)) n) = fun k => -1 * W k := by rw [hWd]
      rw [vfn, ew] at p1
      have p1 : b_X7_best K M0 0 3 0 0 (nI n) (-1) A = some ((beF (fun k => -1 * W k) nI (bE b) 0 (-1) (-1 * A)).1, M1) := p1
      rw [leF_be (bE b) 0 (-1) A (fun j _ z => hWk j (by omega)) hAk] at p1
      dsimp only at p1
      have f1 := z2.tr p2
      have gl : ∀ M', QB tn tx b M' → ∃ M2 M3, b_X8_goes K M' 50 (nI n) = some (A, M2) ∧ b_X8_soup_40 K 50 (nI n) x2 (M' 50 9) 1000 M2 (-1) A 0 = some ((leF W (bE b) 0 (-1) A).1, (leF W (bE b) 0 (-1) A).2, M3) ∧ MR (yS M3 50 9 (M' 50 9)) b ∧ Ms M' (yS M3 50 9 (M' 50 9)) := by
        intro M' hQ
        obtain ⟨M2, g1, g2, g3⟩ := q_w (n := n) hK hT hn hW hd hl hQ
        obtain ⟨M3, s', e1, e2, e3⟩ := q_soup_loop (x2 := x2) hK hT hn hW hd hl (bE b) 1000 0 M2 (-1) A (bSk b) (by omega) (by omega) g2
        rw [← hWd] at e1
        refine ⟨M2, M3, by rw [hA]; exact g1, by rw [hQ.1.1.2.2.2.2.2.1]; exact e1, ?_, (g3.tr e3).tr (Ms.f (by decide))⟩
        rw [hQ.1.1.2.2.2.2.2.1]
        exact e2.1.sk (v := bSk b)
      rcases zo_of c2 with rfl | rfl
      · obtain ⟨M2, M3, g1, g2, g3, g4⟩ := gl M1 (h.qb f1)
        refine AL.q (r := (leF W (bE b) 0 (-1) A).1) h (M1 := M1) (M2 := yS M3 50 9 (M1 50 9)) ?_ f1 ?_ g4 g3
        · show b_X7_soup K M 0 (nI n) 0 = _
          unfold b_X7_soup
          rw [c_isDays, Option.bind_some, ifd c1, c_zo, Option.bind_some, ifd c2, if_pos hK.o0, z1, Option.bind_some]
          dsimp only
          rw [p1, Option.bind_some, if_pos rfl]
        · show b_X8_soup K M1 50 (nI n) 0 = _
          unfold b_X8_soup
          rw [q_in, Option.bind_some, ifd c1, q_in, Option.bind_some, ifd c2, if_pos hK.mo, Option.bind_some, g1, Option.bind_some]
          dsimp only
          rw [g2, Option.bind_some, Option.bind_some, if_pos rfl]
      · rcases leF_val W (bE b) 0 (-1) A with q | ⟨j, j1, j2, j3⟩
        · obtain ⟨M2, M3, g1, g2, g3, g4⟩ := gl M1 (h.qb f1)
          refine AL.q (r := A) h (M1 := M1) (M2 := yS M3 50 9 (M1 50 9)) ?_ f1 ?_ g4 g3
          · show b_X7_soup K M 0 (nI n) 1 = _
            unfold b_X7_soup
            rw [c_isDays, Option.bind_some, ifd c1, c_zo, Option.bind_some, ifd c2, if_pos hK.o0, z1, Option.bind_some]
            dsimp only
            rw [p1, Option.bind_some, if_neg (by decide), q, if_neg ng0]
          · show b_X8_soup K M1 50 (nI n) 1 = _
            unfold b_X8_soup
            rw [q_in, Option.bind_some, ifd c1, q_in, Option.bind_some, ifd c2, if_pos hK.mo, Option.bind_some, g1, Option.bind_some]
            dsimp only
            rw [g2, Option.bind_some, Option.bind_some, if_neg (by decide), q]
        · obtain ⟨M4, s1, s2⟩ := p_worthIf (n := n) (c := skB b (bSk b ||| sh1 j)) hK hx hn (f1.br hB) (f1.bs hS) (CH_3 hK hW hd (k := j) (by omega)) rfl (f1.xT hX)
          obtain ⟨M2, M3, g1, g2, g3, g4⟩ := gl M4 (h.qb (f1.tr s2))
          refine AL.q (r := W j) h (M1 := M4) (M2 := yS M3 50 9 (M4 50 9)) ?_ (f1.tr s2) ?_ g4 g3
          · show b_X7_soup K M 0 (nI n) 1 = _
            unfold b_X7_soup
            rw [c_isDays, Option.bind_some, ifd c1, c_zo, Option.bind_some, ifd c2, if_pos hK.o0, z1, Option.bind_some]
            dsimp only
            rw [p1, Option.bind_some, if_neg (by decide), j3, if_pos (ge0 (by omega)), s1, Option.bind_some, hWd]
          · show b_X8_soup K M4 50 (nI n) 1 = _
            unfold b_X8_soup
            rw [q_in, Option.bind_some, ifd c1, q_in, Option.bind_some, ifd c2, if_pos hK.mo, Option.bind_some, g1, Option.bind_some]
            dsimp only
            rw [g2, Option.bind_some, Option.bind_some, if_neg (by decide), j3]
    · refine AL.no (r := -2) h ?_ ?_
      · show b_X7_soup K M 0 x1 x2 = _
        unfold b_X7_soup
        rw [c_isDays, Option.bind_some, ifd c1, c_zo, Option.bind_some, ifn c2]
      · show b_X8_soup K M 50 x1 x2 = _
        unfold b_X8_soup
        rw [q_in, Option.bind_some, ifd c1, q_in, Option.bind_some, ifn c2]
  · refine AL.no (r := -2) h ?_ ?_
    · show b_X7_soup K M 0 x1 x2 = _
      unfold b_X7_soup
      rw [c_isDays, Option.bind_some, ifn c1]
    · show b_X8_soup K M 50 x1 x2 = _
      unfold b_X8_soup
      rw [q_in, Option.bind_some, ifn c1]
