/-! the class scans the tape -/
def TPc (v : Nat → Nat) (ts : Nat) (M : yM) : Prop := ∀ i, i < ts → M 49 i = nI (v i)
def VB (v : Nat → Nat) : Prop := ∀ i, v i < 256
theorem inN {b lo hi : Nat} (hb : b < 1000) (hl : lo < 1000) (hh : hi < 1000) : (if nI b < nI lo then (some false) else (if nI hi < nI b then (some false) else (some true))) = some (decide (lo ≤ b ∧ b ≤ hi)) := by
  rw [iteLt (by omega) (by omega), iteLt (by omega) (by omega)]
  by_cases z : b < lo
  · rw [if_pos z, decide_eq_false (by omega)]
  · rw [if_neg z]
    by_cases y : hi < b
    · rw [if_pos y, decide_eq_false (by omega)]
    · rw [if_neg y, decide_eq_true (by omega)]
theorem p_isLetter {K : yK} {M : yM} {b : Nat} (hb : b < 256) : b_X6_isLetter K M (nI b) = some (isLt b) := inN (lo := 97) (hi := 122) (by omega) (by omega) (by omega)
theorem p_isDigit {K : yK} {M : yM} {b : Nat} (hb : b < 256) : b_X6_isDigit K M (nI b) = some (isDg b) := inN (lo := 48) (hi := 57) (by omega) (by omega) (by omega)
theorem p_isBlank {K : yK} {M : yM} {b : Nat} (hb : b < 256) : b_X6_isBlank K M (nI b) = some (isBl b) := by
  unfold b_X6_isBlank isBl
  rw [show (32 : Int32) = nI 32 from rfl, show (10 : Int32) = nI 10 from rfl, iteEq (by omega) (by omega), iteEq (by omega) (by omega)]
  by_cases z : b = 32
  · rw [if_pos z, decide_eq_true (.inl z)]
  · rw [if_neg z]
    by_cases y : b = 10
    · rw [if_pos y, decide_eq_true (.inr y)]
    · rw [if_neg y, decide_eq_false (fun e => e.elim z y)]
theorem p_isSign {K : yK} {M : yM} {b : Nat} (hb : b < 256) : b_X6_isSign K M (nI b) = some (isSg b) := by
  unfold b_X6_isSign isSg
  simp only [show ∀ k : Nat, k < 62 → ((nI b = nI k) = (b = k)) from fun k hk => eqN (by omega) (by omega), show (40 : Int32) = nI 40 from rfl, show (41 : Int32) = nI 41 from rfl, show (42 : Int32) = nI 42 from rfl, show (43 : Int32) = nI 43 from rfl, show (44 : Int32) = nI 44 from rfl, show (45 : Int32) = nI 45 from rfl, show (46 : Int32) = nI 46 from rfl, show (47 : Int32) = nI 47 from rfl, show (48 : Int32) = nI 48 from rfl, show (49 : Int32) = nI 49 from rfl, show (50 : Int32) = nI 50 from rfl, show (51 : Int32) = nI 51 from rfl, show (52 : Int32) = nI 52 from rfl, show (53 : Int32) = nI 53 from rfl, show (54 : Int32) = nI 54 from rfl, show (55 : Int32) = nI 55 from rfl, show (56 : Int32) = nI 56 from rfl, show (57 : Int32) = nI 57 from rfl, show (58 : Int32) = nI 58 from rfl, show (59 : Int32) = nI 59 from rfl, show (60 : Int32) = nI 60 from rfl, show (61 : Int32) = nI 61 from rfl]
  have e : ∀ k : Nat, k < 62 → ∀ x y : Option Bool, (if nI b = nI k then x else y) = if b = k then x else y := fun k hk x y => iteEq (by omega) (by omega)
  rw [e 40 (by omega), e 41 (by omega), e 42 (by omega), e 43 (by omega), e 44 (by omega), e 45 (by omega), e 46 (by omega), e 47 (by omega), e 48 (by omega), e 49 (by omega), e 50 (by omega), e 51 (by omega), e 52 (by omega), e 53 (by omega), e 54 (by omega), e 55 (by omega), e 56 (by omega), e 57 (by omega), e 58 (by omega), e 59 (by omega), e 60 (by omega), e 61 (by omega)]
  by_cases z : b < 40 ∨ 61 < b
  · rw [if_neg (by omega), if_neg (by omega), if_neg (by omega), if_neg (by omega), if_neg (by omega), if_neg (by omega), if_neg (by omega), if_neg (by omega), if_neg (by omega), if_neg (by omega), if_neg (by omega), if_neg (by omega), if_neg (by omega), if_neg (by omega), if_neg (by omega), if_neg (by omega), if_neg (by omega), if_neg (by omega), if_neg (by omega), if_neg (by omega), if_neg (by omega), if_neg (by omega), decide_eq_false (by omega)]
  · rcases (show b = 40 ∨ b = 41 ∨ b = 42 ∨ b = 43 ∨ b = 44 ∨ b = 45 ∨ b = 46 ∨ b = 47 ∨ b = 48 ∨ b = 49 ∨ b = 50 ∨ b = 51 ∨ b = 52 ∨ b = 53 ∨ b = 54 ∨ b = 55 ∨ b = 56 ∨ b = 57 ∨ b = 58 ∨ b = 59 ∨ b = 60 ∨ b = 61 by omega) with rfl | rfl | rfl | rfl | rfl | rfl | rfl | rfl | rfl | rfl | rfl | rfl | rfl | rfl | rfl | rfl | rfl | rfl | rfl | rfl | rfl | rfl <;> rfl
theorem p_eot1 {K : yK} {M : yM} {v : Nat → Nat} {ts : Nat} (hK : KSh K) (hv : VB v) (hts : ts ≤ 160) (hT : TPc v ts M) : ∀ (f n p : Nat), ts ≤ p + f → f < n → p ≤ ts → b_X6_endOfToken_20 K M 49 (nI ts) true false n (nI p) = some (nI (rnF v ts isLt f p)) := by
  intro f
  induction f with
  | zero =>
    intro n p h1 h2 h3
    obtain ⟨n, rfl⟩ : ∃ z, n = z + 1 := ⟨n - 1, by omega⟩
    rw [b_X6_endOfToken_20, iteLe (by omega) (by omega), if_pos (by omega)]
    rfl
  | succ f ih =>
    intro n p h1 h2 h3
    obtain ⟨n, rfl⟩ : ∃ z, n = z + 1 := ⟨n - 1, by omega⟩
    rw [b_X6_endOfToken_20, iteLe (by omega) (by omega), rnF]
    by_cases z : ts ≤ p
    · rw [if_pos z, if_neg (by omega)]
    · have em : M 49 p = nI (v p) := hT p (by omega)
      rw [if_neg z, if_pos rfl, if_pos (gA_N hK.a49 (by omega) (by omega)), nC (by omega), em, p_isLetter (hv p)]
      simp only [Option.bind_some, incN]
      by_cases y : isLt (v p) = true
      · rw [if_pos y, if_pos ⟨by omega, y⟩]
        exact ih n (p + 1) (by omega) (by omega) (by omega)
      · rw [if_neg y, if_neg Bool.false_ne_true, if_neg (fun q => y q.2)]
theorem p_eot2 {K : yK} {M : yM} {v : Nat → Nat} {ts : Nat} (hK : KSh K) (hv : VB v) (hts : ts ≤ 160) (hT : TPc v ts M) : ∀ (f n p : Nat), ts ≤ p + f → f < n → p ≤ ts → b_X6_endOfToken_20 K M 49 (nI ts) false true n (nI p) = some (nI (rnF v ts isDg f p)) := by
  intro f
  induction f with
  | zero =>
    intro n p h1 h2 h3
    obtain ⟨n, rfl⟩ : ∃ z, n = z + 1 := ⟨n - 1, by omega⟩
    rw [b_X6_endOfToken_20, iteLe (by omega) (by omega), if_pos (by omega)]
    rfl
  | succ f ih =>
    intro n p h1 h2 h3
    obtain ⟨n, rfl⟩ : ∃ z, n = z + 1 := ⟨n - 1, by omega⟩
    rw [b_X6_endOfToken_20, iteLe (by omega) (by omega), rnF]
    by_cases z : ts ≤ p
    · rw [if_pos z, if_neg (by omega)]
    · have em : M 49 p = nI (v p) := hT p (by omega)
      rw [if_neg z, if_neg Bool.false_ne_true, if_pos rfl, if_pos (gA_N hK.a49 (by omega) (by omega)), nC (by omega), em, p_isDigit (hv p)]
      simp only [Option.bind_some, incN]
      by_cases y : isDg (v p) = true
      · rw [if_pos y, if_pos ⟨by omega, y⟩]
        exact ih n (p + 1) (by omega) (by omega) (by omega)
      · rw [if_neg y, if_neg (fun q => y q.2)]
theorem p_eot3 {K : yK} {M : yM} {ts n p : Nat} (hp : p ≤ ts) (hts : ts ≤ 160) : b_X6_endOfToken_20 K M 49 (nI ts) false false (n + 1) (nI p) = some (nI p) := by
  rw [b_X6_endOfToken_20, iteLe (by omega) (by omega)]
  by_cases z : ts ≤ p
  · rw [if_pos z]
  · rw [if_neg z, if_neg Bool.false_ne_true, if_neg Bool.false_ne_true]
theorem p_endOfToken {K : yK} {M : yM} {v : Nat → Nat} {ts p : Nat} (hK : KSh K) (hv : VB v) (hts : ts ≤ 160) (hT : TPc v ts M) (hp : p < ts) : b_X6_endOfToken K M 49 (nI p) (nI ts) = some (nI (en v ts p)) := by
  unfold b_X6_endOfToken en
  have em : M 49 p = nI (v p) := hT p hp
  rw [if_pos (gA_N hK.a49 (by omega) (by omega)), nC (by omega), em, p_isLetter (hv p), p_isDigit (hv p)]
  simp only [Option.bind_some, incN]
  by_cases y : isLt (v p) = true
  · have yd : isDg (v p) = false := by
      have := of_decide_eq_true y
      exact decide_eq_false (by omega)
    rw [if_pos y, y, yd, p_eot1 hK hv hts hT ts 1000 (p + 1) (by omega) (by omega) (by omega)]
    rfl
  · have y' : isLt (v p) = false := by cases h : isLt (v p); rfl; exact absurd h y
    rw [if_neg y, y']
    by_cases x : isDg (v p) = true
    · rw [if_pos x, x, p_eot2 hK hv hts hT ts 1000 (p + 1) (by omega) (by omega) (by omega)]
      rfl
    · have x' : isDg (v p) = false := by cases h : isDg (v p); rfl; exact absurd h x
      rw [if_neg x, x', show (1000 : Nat) = 999 + 1 from rfl, p_eot3 (by omega) hts]
      rfl
theorem yCh_N : ∀ j, j < 12 → ∀ c, c < 6 → c < wl j → yCh j c = nI (wcN j c) ∧ wcN j c < 256 ∧ wcN j c ≠ 32 := by decide +kernel
theorem wl_le : ∀ j, j < 12 → 2 ≤ wl j ∧ wl j ≤ 6 := by decide
theorem p_spelled_loop {K : yK} {M : yM} {v : Nat → Nat} {ts q e j : Nat} (hK : KSh K) (hv : VB v) (hts : ts ≤ 160) (hT : TPc v ts M) (hj : j < 12) (he : e ≤ ts) (hq : e = q + wl j) : ∀ (f n c : Nat), c + f = wl j → f < n → ∃ r, (Option.bind (b_X6_isSpelled_15 K M (1000001 + j) 49 (nI q) n (nI c)) fun x9 => Sum.elim (fun j4 => (some true)) (fun r9 => (some r9)) x9) = some r ∧ (r = true ↔ ∀ d, c ≤ d → d < wl j → v (q + d) = wcN j d) := by
  have h6 := wl_le j hj
  intro f
  induction f with
  | zero =>
    intro n c h1 h2
    obtain ⟨n, rfl⟩ : ∃ z, n = z + 1 := ⟨n - 1, by omega⟩
    refine ⟨true, ?_, fun _ d h3 h4 => absurd h4 (by omega), fun _ => rfl⟩
    rw [b_X6_isSpelled_15, if_pos (by omega), b_J0_length_8abf5, if_pos (by omega), Option.bind_some, show 1000001 + j - 1000001 = j by omega, show yTl.getD j 0 = wl j from rfl, iteLe (by omega) (by omega), if_pos (by omega), Option.bind_some]
    rfl
  | succ f ih =>
    intro n c h1 h2
    obtain ⟨n, rfl⟩ : ∃ z, n = z + 1 := ⟨n - 1, by omega⟩
    obtain ⟨y1, y2, -⟩ := yCh_N j hj c (by omega) (by omega)
    have em : M 49 (q + c) = nI (v (q + c)) := hT (q + c) (by omega)
    have hvv := hv (q + c)
    rw [b_X6_isSpelled_15, if_pos (by omega), b_J0_length_8abf5, if_pos (by omega), Option.bind_some, show 1000001 + j - 1000001 = j by omega, show yTl.getD j 0 = wl j from rfl, iteLe (by omega) (by omega), if_neg (by omega), if_pos (by omega), b_J0_charAt_5068e, if_pos (by omega), show 1000001 + j - 1000001 = j by omega, show yTl.getD j 0 = wl j from rfl, nC (by omega), if_pos ⟨nI_pos (by omega), by omega⟩, Option.bind_some, addN, if_pos (gA_N hK.a49 (by omega) (by omega)), nC (by omega), y1, em, iteEq (by omega) (by omega)]
    by_cases z : wcN j c = v (q + c)
    · rw [if_pos z, incN, Option.bind_some]
      obtain ⟨r, r1, r2⟩ := ih n (c + 1) (by omega) (by omega)
      refine ⟨r, r1, fun h d h3 h4 => ?_, fun h => r2.mpr (fun d h3 h4 => h d (by omega) h4)⟩
      rcases Nat.lt_or_ge c d with x | x
      · exact r2.mp h d x h4
      · rw [show d = c by omega]; exact z.symm
    · rw [if_neg z, Option.bind_some]
      exact ⟨false, rfl, fun h => absurd h Bool.false_ne_true, fun h => absurd (h c (Nat.le_refl _) (by omega)).symm z⟩
theorem p_isSpelled {K : yK} {M : yM} {v : Nat → Nat} {ts q e j : Nat} (hK : KSh K) (hv : VB v) (hts : ts ≤ 160) (hT : TPc v ts M) (hj : j < 12) (hq : q ≤ e) (he : e ≤ ts) : ∃ r, b_X6_isSpelled K M (1000001 + j) 49 (nI q) (nI e) = some r ∧ (r = true ↔ wdP v q e j) := by
  have h6 := wl_le j hj
  unfold b_X6_isSpelled
  rw [if_pos (by omega), b_J0_length_8abf5, if_pos (by omega), Option.bind_some, show 1000001 + j - 1000001 = j by omega, show yTl.getD j 0 = wl j from rfl, subN hq, iteEq (by omega) (by omega)]
  by_cases z : wl j = e - q
  · rw [if_pos z]
    obtain ⟨r, r1, r2⟩ := p_spelled_loop hK hv hts hT hj he (show e = q + wl j by omega) (wl j) 1000 0 (by omega) (by omega)
    exact ⟨r, r1, fun h => ⟨by omega, fun c hc => r2.mp h c (by omega) hc⟩, fun h => r2.mpr (fun d _ hd => h.2 d hd)⟩
  · rw [if_neg z]
    exact ⟨false, rfl, fun h => absurd h Bool.false_ne_true, fun h => absurd h.1 (by omega)⟩
theorem p_spelling {K : yK} {M : yM} {j : Nat} (hj : j < 12) : b_X6_spelling K M (nI (256 + j)) = some (1000001 + j) := by
  rcases (show j = 0 ∨ j = 1 ∨ j = 2 ∨ j = 3 ∨ j = 4 ∨ j = 5 ∨ j = 6 ∨ j = 7 ∨ j = 8 ∨ j = 9 ∨ j = 10 ∨ j = 11 by omega) with rfl | rfl | rfl | rfl | rfl | rfl | rfl | rfl | rfl | rfl | rfl | rfl <;> rfl
theorem p_wordOf_loop {K : yK} {M : yM} {v : Nat → Nat} {ts q e : Nat} (hK : KSh K) (hv : VB v) (hts : ts ≤ 160) (hT : TPc v ts M) (hq : q ≤ e) (he : e ≤ ts) : ∀ (f n j : Nat), j + f = 12 → f < n → (Option.bind (b_X6_wordOf_4 K M 49 (nI q) (nI e) n (nI (256 + j))) fun x9 => Sum.elim (fun j1 => (some (-1 : Int32))) (fun r9 => (some r9)) x9) = some (if wdF v q e f j < 12 then nI (256 + wdF v q e f j) else -1)
  | 0, n, j, h1, h2 => by
    obtain ⟨n, rfl⟩ : ∃ z, n = z + 1 := ⟨n - 1, by omega⟩
    rw [b_X6_wordOf_4, show (268 : Int32) = nI 268 from rfl, iteLe (by omega) (by omega), if_pos (by omega), Option.bind_some, wdF, if_neg (by omega)]
    rfl
  | f + 1, n, j, h1, h2 => by
    obtain ⟨n, rfl⟩ : ∃ z, n = z + 1 := ⟨n - 1, by omega⟩
    obtain ⟨r, r1, r2⟩ := p_isSpelled (j := j) hK hv hts hT (by omega) hq he
    rw [b_X6_wordOf_4, show (268 : Int32) = nI 268 from rfl, iteLe (by omega) (by omega), if_neg (by omega), p_spelling (by omega), Option.bind_some, r1, Option.bind_some, wdF]
    by_cases z : e = q + wl j ∧ (∀ c, c < wl j → v (q + c) = wcN j c)
    · rw [if_pos (r2.mpr z), if_pos z, Option.bind_some, if_pos (by omega)]
      rfl
    · rw [if_neg (fun h => z (r2.mp h)), if_neg z, incN, Option.bind_some]
      exact p_wordOf_loop hK hv hts hT hq he f n (j + 1) (by omega) (by omega)
theorem p_tokenOf {K : yK} {M : yM} {v : Nat → Nat} {ts p : Nat} (hK : KSh K) (hv : VB v) (hts : ts ≤ 160) (hT : TPc v ts M) (hp : p < ts) : b_X6_tokenOf K M 49 (nI p) (nI (en v ts p)) = some (ctk (tok v ts p)) := by
  have em : M 49 p = nI (v p) := hT p hp
  have hen := en_lt v ts p
  have he := hen.2 hp
  unfold b_X6_tokenOf tok
  rw [if_pos (gA_N hK.a49 (by omega) (by omega)), nC (by omega), em, p_isLetter (hv p), p_isDigit (hv p), p_isSign (hv p), Option.bind_some, if_pos hp]
  by_cases y : isLt (v p) = true
  · have hw := p_wordOf_loop hK hv hts hT (show p ≤ en v ts p by omega) he 12 1000 0 (by omega) (by omega)
    have hw : b_X6_wordOf K M 49 (nI p) (nI (en v ts p)) = some (if wdx v p (en v ts p) < 12 then nI (256 + wdx v p (en v ts p)) else -1) := hw
    rw [if_pos y, if_pos y, hw, Option.bind_some]
    by_cases x : wdx v p (en v ts p) < 12
    · rw [if_pos x, if_pos x]
      unfold ctk
      rw [if_neg (by omega)]
    · rw [if_neg x, if_neg x]; rfl
  · rw [if_neg y, if_neg y, Option.bind_some]
    by_cases x : isDg (v p) = true
    · rw [if_pos x, if_pos x, subN (by omega), show (4 : Int32) = nI 4 from rfl, iteLe (by omega) (by omega)]
      by_cases w : en v ts p ≤ p + 4
      · rw [if_pos w, if_pos (by omega)]; rfl
      · rw [if_neg w, if_neg (by omega)]; rfl
    · rw [if_neg x, if_neg x, Option.bind_some]
      by_cases w : isSg (v p) = true
      · rw [if_pos w, if_pos w]
        have w' := of_decide_eq_true w
        unfold ctk
        rw [if_neg (by omega)]
      · rw [if_neg w, if_neg w]; rfl
theorem p_number {K : yK} {M : yM} {v : Nat → Nat} {ts e : Nat} (hK : KSh K) (hv : VB v) (hts : ts ≤ 160) (hT : TPc v ts M) (he : e ≤ ts) : ∀ (f n p : Nat) (acc : Int32), p + f = e → f < n → ∃ r, b_X6_numberOf_5 K M 49 (nI e) n acc (nI p) = some r ∧ ∀ a, acc = nI a → (∀ q, p ≤ q → q < e → 48 ≤ v q) → r = nI (nmN v f p a)
  | 0, n, p, acc, h1, h2 => by
    obtain ⟨n, rfl⟩ : ∃ z, n = z + 1 := ⟨n - 1, by omega⟩
    refine ⟨acc, ?_, fun a ha _ => ha⟩
    rw [b_X6_numberOf_5, iteLe (by omega) (by omega), if_pos (by omega)]
  | f + 1, n, p, acc, h1, h2 => by
    obtain ⟨n, rfl⟩ : ∃ z, n = z + 1 := ⟨n - 1, by omega⟩
    have em : M 49 p = nI (v p) := hT p (by omega)
    obtain ⟨r, r1, r2⟩ := p_number hK hv hts hT he f n (p + 1) (acc * 10 + nI (v p) - 48) (by omega) (by omega)
    refine ⟨r, ?_, fun a ha hd => ?_⟩
    · rw [b_X6_numberOf_5, iteLe (by omega) (by omega), if_neg (by omega), if_pos (gA_N hK.a49 (by omega) (by omega)), nC (by omega), em, Option.bind_some, incN, Option.bind_some]
      exact r1
    · have h48 := hd p (Nat.le_refl _) (by omega)
      refine r2 (a * 10 + v p - 48) ?_ (fun q g1 g2 => hd q (by omega) g2)
      rw [ha, show (10 : Int32) = nI 10 from rfl, mulN, addN, show (48 : Int32) = nI 48 from rfl, subN (by omega)]
theorem p_append6 {K : yK} {M : yM} {m : Nat} (hK : KSh K) (h3 : M 35 3 = nI m) (hm : m < 161) (a b c : Int32) : b_X6_append K M 35 a b c = some (yS (yS (yS (yS M 36 m a) 37 m b) 38 m c) 35 3 (nI (m + 1))) := by
  obtain ⟨-, -, -, g4, g5, g6, g7, -, a36, a37, a38⟩ := hK.g34
  unfold b_X6_append
  rw [if_pos g4, h3, if_neg (nI_pos (by omega)), g5, Option.bind_some, if_pos (gI_N a36), len_N a36, iteLe (by omega) (by omega), if_neg (by omega), if_pos (gA_N a36 (by omega) (by omega)), nC (by omega), Option.bind_some, g6, Option.bind_some, yS_op _ 36 _ _ (show 35 ≠ 36 by decide), h3, if_pos (gA_N a37 (by omega) (by omega)), nC (by omega), Option.bind_some, g7, Option.bind_some, yS_op _ 37 _ _ (show 35 ≠ 37 by decide), yS_op _ 36 _ _ (show 35 ≠ 36 by decide), h3, if_pos (gA_N a38 (by omega) (by omega)), nC (by omega), Option.bind_some, yS_op _ 38 _ _ (show 35 ≠ 38 by decide), yS_op _ 37 _ _ (show 35 ≠ 37 by decide), yS_op _ 36 _ _ (show 35 ≠ 36 by decide), h3, incN, Option.bind_some]
/-- a token stands at place m -/
def TAt (v : Nat → Nat) (ts : Nat) (M : yM) (m q : Nat) : Prop := M 36 m = ctk (tok v ts q) ∧ M 37 m = nI q ∧ (tok v ts q = 1 → M 38 m = nI (nmv v ts q))
def Fsc (M M' : yM) : Prop := (∀ i, i ≠ 3 → M' 35 i = M 35 i) ∧ ∀ q, q ≠ 35 → q ≠ 36 → q ≠ 37 → q ≠ 38 → M' q = M q
theorem Fsc.rf (M : yM) : Fsc M M := ⟨fun _ _ => rfl, fun _ _ _ _ _ => rfl⟩
theorem Fsc.tr {M M' M'' : yM} (h : Fsc M M') (g : Fsc M' M'') : Fsc M M'' := ⟨fun i z => (g.1 i z).trans (h.1 i z), fun q z1 z2 z3 z4 => (g.2 q z1 z2 z3 z4).trans (h.2 q z1 z2 z3 z4)⟩
theorem p_put {K : yK} {M : yM} {v : Nat → Nat} {ts m q : Nat} {c : Int32} (hK : KSh K) (h3 : M 35 3 = nI m) (hm : m < 161) (hc : tok v ts q = 1 → c = nI (nmv v ts q)) : ∃ M', b_X6_append K M 35 (ctk (tok v ts q)) (nI q) c = some M' ∧ M' 35 3 = nI (m + 1) ∧ TAt v ts M' m q ∧ (∀ j, j < m → M' 36 j = M 36 j ∧ M' 37 j = M 37 j ∧ M' 38 j = M 38 j) ∧ Fsc M M' := by
  refine ⟨_, p_append6 hK h3 hm _ _ _, yS_at _ _ _ _, ⟨?_, ?_, fun z => ?_⟩, fun j hj => ⟨?_, ?_, ?_⟩, fun i hi => ?_, fun p z1 z2 z3 z4 => ?_⟩
  · rw [yS_op _ _ _ _ (by decide), yS_op _ _ _ _ (by decide), yS_op _ _ _ _ (by decide), yS_at]
  · rw [yS_op _ _ _ _ (by decide), yS_op _ _ _ _ (by decide), yS_at]
  · rw [yS_op _ _ _ _ (by decide), yS_at]; exact hc z
  · rw [yS_op _ _ _ _ (by decide), yS_op _ _ _ _ (by decide), yS_op _ _ _ _ (by decide), yS_oi _ _ _ _ (by omega)]
  · rw [yS_op _ _ _ _ (by decide), yS_op _ _ _ _ (by decide), yS_oi _ _ _ _ (by omega), yS_op _ _ _ _ (by decide)]
  · rw [yS_op _ _ _ _ (by decide), yS_oi _ _ _ _ (by omega), yS_op _ _ _ _ (by decide), yS_op _ _ _ _ (by decide)]
  · rw [yS_oi _ _ _ _ hi, yS_op _ _ _ _ (by decide), yS_op _ _ _ _ (by decide), yS_op _ _ _ _ (by decide)]
  · rw [yS_q _ _ _ z1, yS_q _ _ _ z4, yS_q _ _ _ z3, yS_q _ _ _ z2]
theorem p_scan_loop {K : yK} {v : Nat → Nat} {ts : Nat} {x2 : Int32} (hK : KSh K) (hv : VB v) (hts : ts ≤ 160) : ∀ (f n p m c : Nat) (M : yM), ts ≤ p + f → f < n → p ≤ ts → m ≤ p → c ≤ p → TPc v ts M → M 35 3 = nI m → ∃ M', b_X6_scan_18 K 35 49 x2 (nI ts) n M (nI p) (nI c) = some M' ∧ M' 35 3 = nI (m + (NN v ts p - 1)) ∧ (∀ i, i < NN v ts p - 1 → TAt v ts M' (m + i) (sk v ts (posF v ts p i))) ∧ (∀ j, j < m → M' 36 j = M 36 j ∧ M' 37 j = M 37 j ∧ M' 38 j = M 38 j) ∧ Fsc M M' := by
  intro f
  induction f using Nat.strongRecOn with
  | ind f ih =>
  intro n p m k M hf hn hp hm hk hT h3
  obtain ⟨n, rfl⟩ : ∃ z, n = z + 1 := ⟨n - 1, by omega⟩
  rw [b_X6_scan_18, show (160 : Int32) = nI 160 from rfl, iteLe (by omega) (by omega), iteLe (by omega) (by omega)]
  by_cases z : ts ≤ p
  · have hs : ¬ sk v ts p < ts := by have := (sk_le v ts p).1; omega
    have e1 : NN v ts p = 1 := by rw [NN_eq, if_neg hs]
    rw [if_pos z, ite_self, e1]
    exact ⟨M, rfl, h3, fun i hi => absurd hi (by omega), fun _ _ => ⟨rfl, rfl, rfl⟩, Fsc.rf _⟩
  have hpt : p < ts := by omega
  have em : M 49 p = nI (v p) := hT p hpt
  have hen := en_lt v ts p
  have he := hen.2 hpt
  rw [if_neg (show ¬ 160 ≤ k by omega), if_neg z, p_endOfToken hK hv hts hT hpt, Option.bind_some, if_pos (gA_N hK.a49 (by omega) (by omega)), nC (by omega), em, p_isBlank (hv p), Option.bind_some]
  by_cases y : isBl (v p) = true
  · have e2 : en v ts p = p + 1 := by
      have y' := of_decide_eq_true y
      unfold en
      rw [if_neg (fun h => by have := of_decide_eq_true h; omega), if_neg (fun h => by have := of_decide_eq_true h; omega)]
    obtain ⟨M', r1, r2, r3, r4, r5⟩ := ih (f - 1) (by omega) n (p + 1) m (k + 1) M (by omega) (by omega) (by omega) (by omega) (by omega) hT h3
    rw [if_pos y, Option.bind_some, e2, incN, Option.bind_some, NN_bl hpt y]
    refine ⟨M', r1, r2, fun i hi => ?_, r4, r5⟩
    rw [posF_bl hpt y]
    exact r3 i hi
  · have y' : isBl (v p) = false := by cases h : isBl (v p); rfl; exact absurd h y
    have hs : sk v ts p = p := sk_nb y'
    obtain ⟨r, q1, q2⟩ := p_number hK hv hts hT he (en v ts p - p) 1000 p 0 (by omega) (by omega)
    have hnum : b_X6_numberOf K M 49 (nI p) (nI (en v ts p)) = some r := by
      unfold b_X6_numberOf
      rw [q1, Option.bind_some]
    have hc : tok v ts p = 1 → r = nI (nmv v ts p) := by
      intro ht
      refine q2 0 rfl (fun q g1 g2 => ?_)
      unfold tok at ht
      rw [if_pos hpt] at ht
      by_cases w : isLt (v p) = true
      · rw [if_pos w] at ht
        split at ht <;> omega
      · rw [if_neg w] at ht
        by_cases x : isDg (v p) = true
        · have e : en v ts p = run v ts isDg (p + 1) := by unfold en; rw [if_neg w, if_pos x]
          rcases Nat.lt_or_ge p q with u | u
          · exact (of_decide_eq_true ((run_le v ts isDg (p + 1)).2.2 q u (by omega))).1
          · rw [show q = p by omega]; exact (of_decide_eq_true x).1
        · rw [if_neg x] at ht
          by_cases u : isSg (v p) = true
          · rw [if_pos u] at ht
            have := of_decide_eq_true u
            omega
          · rw [if_neg u] at ht
            omega
    obtain ⟨M1, a1, a2, a3, a4, a5⟩ := p_put (v := v) (ts := ts) (q := p) (c := r) hK h3 (by omega) hc
    have hT1 : TPc v ts M1 := fun i hi => by rw [a5.2 49 (by decide) (by decide) (by decide) (by decide)]; exact hT i hi
    obtain ⟨M', r1, r2, r3, r4, r5⟩ := ih (ts - en v ts p) (by omega) n (en v ts p) (m + 1) (k + 1) M1 (by omega) (by omega) he (by omega) (by omega) hT1 a2
    have eN : NN v ts p = NN v ts (en v ts p) + 1 := by rw [NN_eq, hs, if_pos hpt]
    have h1 := (NN_is v ts (ts + 1) (en v ts p) (by omega) he).1
    rw [if_neg y, p_tokenOf hK hv hts hT hpt, Option.bind_some, hnum, Option.bind_some, if_pos hK.g34.2.2.2.1, a1, Option.bind_some, Option.bind_some, incN, Option.bind_some, r1]
    refine ⟨M', rfl, ?_, fun i hi => ?_, fun j hj => ?_, a5.tr r5⟩
    · rw [r2, eN]
      congr 1
      omega
    · cases i with
      | zero =>
        show TAt v ts M' m (sk v ts p)
        rw [hs]
        obtain ⟨g1, g2, g3⟩ := r4 m (by omega)
        obtain ⟨t1, t2, t3⟩ := a3
        exact ⟨g1.trans t1, g2.trans t2, fun z => (g3.trans (t3 z))⟩
      | succ i =>
        rw [posF_s]
        have hx : nxp v ts p = en v ts p := by unfold nxp; rw [hs, if_pos hpt]
        rw [hx, show m + (i + 1) = m + 1 + i by omega]
        exact r3 i (by omega)
    · obtain ⟨g1, g2, g3⟩ := r4 j (by omega)
      obtain ⟨t1, t2, t3⟩ := a4 j hj
      exact ⟨g1.trans t1, g2.trans t2, g3.trans t3⟩
theorem p_scan {K : yK} {M : yM} {v : Nat → Nat} {ts : Nat} (hK : KSh K) (hv : VB v) (hts : ts ≤ 160) (hT : TPc v ts M) : ∃ M', b_X6_scan K M 35 49 (nI ts) = some M' ∧ TS (tkT v ts) (nvT v ts) (plT v ts) (NN v ts 0) M' ∧ ∀ q, q ≠ 35 → q ≠ 36 → q ≠ 37 → q ≠ 38 → M' q = M q := by
  have hN := NN_is v ts (ts + 1) 0 (by omega) (by omega)
  have hT0 : TPc v ts (yS M 35 3 0) := fun i hi => by rw [yS_op _ _ _ _ (by decide)]; exact hT i hi
  obtain ⟨M1, a1, a2, a3, a4, a5⟩ := p_scan_loop (x2 := nI ts) hK hv hts ts 1000 0 0 0 (yS M 35 3 0) (by omega) (by omega) (by omega) (Nat.le_refl 0) (Nat.le_refl 0) hT0 (yS_at _ _ _ _)
  have a2 : M1 35 3 = nI (NN v ts 0 - 1) := by rw [a2]; congr 1; omega
  have tend : tok v ts ts = 0 := by unfold tok; rw [if_neg (by omega)]
  obtain ⟨M2, b1, b2, b3, b4, b5⟩ := p_put (v := v) (ts := ts) (q := ts) (c := 0) hK a2 (by omega) (fun e => by rw [tend] at e; exact absurd e (by decide))
  refine ⟨M2, ?_, ⟨by rw [b2]; congr 1; omega, fun i hi => ?_⟩, fun q z1 z2 z3 z4 => by rw [b5.2 q z1 z2 z3 z4, a5.2 q z1 z2 z3 z4, yS_q _ _ _ z1]⟩
  · rw [tend] at b1
    have b1 : b_X6_append K M1 35 0 (nI ts) 0 = some M2 := b1
    unfold b_X6_scan
    rw [if_pos hK.g34.2.2.2.1, Option.bind_some, if_pos (gI_N hK.a49), len_N hK.a49, iteLt (by omega) (by omega), if_neg (by omega), Option.bind_some, show b_X6_scan_18 K 35 49 (nI ts) (nI ts) 1000 (yS M 35 3 0) 0 0 = some M1 from a1, Option.bind_some, b1, Option.bind_some]
  · rcases Nat.lt_or_ge i (NN v ts 0 - 1) with z | z
    · obtain ⟨g1, g2, g3⟩ := b4 i z
      obtain ⟨t1, t2, t3⟩ := a3 i z
      rw [Nat.zero_add] at t1 t2 t3
      exact ⟨g1.trans t1, g2.trans t2, fun z => g3.trans (t3 z)⟩
    · have e : i = NN v ts 0 - 1 := by omega
      subst e
      obtain ⟨t1, t2, t3⟩ := b3
      unfold tkT nvT plT
      rw [hN.2.2.2]
      exact ⟨t1, t2, t3⟩
