/-! the reference's machine, in numbers -/
def rkS (c : Nat) : Nat := if c = 0 then 0 else if c = 11 then 1 else if c = 12 then 2 else if c = 13 then 3 else if c ≤ 15 then 4 else if c ≤ 17 then 5 else if c = 18 then 6 else 7
abbrev St : Type := List Nat × Nat × Ot
def unw (r : Nat) : List Nat → Nat → Ot → St
  | [], op, out => ([], op, out)
  | c :: st, op, out => if r ≤ rkS c then unw r st (if c = 13 ∨ c = 19 then op - 1 else op) (pu out c) else (c :: st, op, out)
def unwS (r : Nat) (s : St) : St := unw r s.1 s.2.1 s.2.2
def tpr : List Nat → Nat
  | [] => 0
  | c :: _ => rkS c
theorem unw_lt {r : Nat} : ∀ (st : List Nat) (op : Nat) (out : Ot), tpr st < r → unw r st op out = (st, op, out)
  | [], _, _, _ => rfl
  | c :: st, op, out, h => by
    have h' : rkS c < r := h
    rw [unw, if_neg (by omega)]
theorem unw_unw {r' r : Nat} (h : r' ≤ r) : ∀ (st : List Nat) (op : Nat) (out : Ot), unwS r' (unw r st op out) = unw r' st op out
  | [], _, _ => rfl
  | c :: st, op, out => by
    rw [unw]
    by_cases z : r ≤ rkS c
    · rw [if_pos z, unw_unw h st, unw, if_pos (show r' ≤ rkS c by omega)]
    · rw [if_neg z]; rfl
theorem unwS_S {r' r : Nat} (h : r' ≤ r) (s : St) : unwS r' (unwS r s) = unwS r' s := unw_unw h s.1 s.2.1 s.2.2
theorem unw_top {r : Nat} (h1 : 1 ≤ r) : ∀ (st : List Nat) (op : Nat) (out : Ot), tpr (unw r st op out).1 < r
  | [], _, _ => h1
  | c :: st, op, out => by
    rw [unw]
    by_cases z : r ≤ rkS c
    · rw [if_pos z]; exact unw_top h1 st _ _
    · rw [if_neg z]; show rkS c < r; omega
theorem unw_ge {r : Nat} {c : Nat} {st : List Nat} {op : Nat} {out : Ot} (h : r ≤ rkS c) : unw r (c :: st) op out = unw r st (if c = 13 ∨ c = 19 then op - 1 else op) (pu out c) := by
  rw [unw, if_pos h]
abbrev SYs : Type := Nat × Bool × Bool × St
def sgnT (t : Nat) : Nat := if t = 259 then 11 else if t = 260 then 12 else if t = 60 then 14 else if t = 61 then 15 else if t = 43 then 16 else if t = 45 then 17 else if t = 42 then 18 else 99
def opn (i o : Nat) (mn : Bool) (c : Nat) (st : List Nat) (out : Ot) : SYs ⊕ (Option Ot × Nat) := if o = 5 then .inr (none, i) else .inl (i + 1, true, mn, c :: st, o + 1, out)
def stpW (t v : Nat) (i : Nat) (mn : Bool) (st : List Nat) (o : Nat) (out : Ot) : SYs ⊕ (Option Ot × Nat) :=
  if t = 1 then .inl (i + 1, false, mn, unw 7 st o (pu out (100000 + v)))
  else if 262 ≤ t ∧ t < 268 then .inl (i + 1, false, mn, unw 7 st o (pu out (t - 262)))
  else if t = 261 ∧ mn = true then opn i o mn 13 st out
  else if t = 45 then opn i o false 19 st out
  else if t = 40 then opn i o true 0 st out
  else .inr (none, i)
def clo (i : Nat) (mn : Bool) (u : St) : SYs ⊕ (Option Ot × Nat) := match u with
  | ([], _, _) => .inr (none, i)
  | (_ :: st, op, out) => .inl (i + 1, false, mn, unw 7 st (op - 1) out)
def fin (i : Nat) (u : St) : SYs ⊕ (Option Ot × Nat) := match u with
  | ([], _, out) => .inr (some out, i + 1)
  | (_ :: _, _, _) => .inr (none, i)
def btw (i s : Nat) (u : St) : SYs ⊕ (Option Ot × Nat) := if rkS s = 4 ∧ tpr u.1 = 4 then .inr (none, i) else .inl (i + 1, true, decide (s ≤ 12), s :: u.1, u.2.1, u.2.2)
def stpN (t : Nat) (i : Nat) (mn : Bool) (st : St) : SYs ⊕ (Option Ot × Nat) :=
  if t = 59 then fin i (unwS 1 st)
  else if t = 41 then clo i mn (unwS 1 st)
  else if sgnT t = 99 then .inr (none, i)
  else btw i (sgnT t) (unwS (if rkS (sgnT t) = 4 then 5 else rkS (sgnT t)) st)
def stp (tk nv : Nat → Nat) (s : SYs) : SYs ⊕ (Option Ot × Nat) := if s.2.1 = true then stpW (tk s.1) (nv s.1) s.1 s.2.2.1 s.2.2.2.1 s.2.2.2.2.1 s.2.2.2.2.2 else stpN (tk s.1) s.1 s.2.2.1 s.2.2.2
def rn (tk nv : Nat → Nat) : Nat → SYs → SYs ⊕ (Option Ot × Nat)
  | 0, s => .inl s
  | n + 1, s => match stp tk nv s with
    | .inl s' => rn tk nv n s'
    | .inr r => .inr r
theorem rn_s (tk nv : Nat → Nat) (n : Nat) (s : SYs) : rn tk nv (n + 1) s = match stp tk nv s with
    | .inl s' => rn tk nv n s'
    | .inr r => .inr r := rfl
theorem rn_add {tk nv : Nat → Nat} {n : Nat} : ∀ (m : Nat) (s s' : SYs), rn tk nv m s = .inl s' → rn tk nv (m + n) s = rn tk nv n s'
  | 0, s, s', h => by
    have h' : (Sum.inl s : SYs ⊕ (Option Ot × Nat)) = .inl s' := h
    rw [Sum.inl.inj h', Nat.zero_add]
  | m + 1, s, s', h => by
    rw [show m + 1 + n = m + n + 1 by omega]
    rw [rn_s] at h ⊢
    cases hs : stp tk nv s with
    | inl s1 => rw [hs] at h; exact rn_add m s1 s' h
    | inr r => rw [hs] at h; exact absurd h (by intro e; cases e)
theorem rn_1 {tk nv : Nat → Nat} {s s' : SYs} (h : stp tk nv s = .inl s') : rn tk nv 1 s = .inl s' := by
  rw [rn_s, h]
  rfl
theorem rn_1r {tk nv : Nat → Nat} {s : SYs} {r : Option Ot × Nat} (h : stp tk nv s = .inr r) : rn tk nv 1 s = .inr r := by
  rw [rn_s, h]
/-! texts that stand well -/
def okD (ct : Nat → Nat) : Nat → Nat → Nat → Nat → Prop
  | 0, _, d, e => d = e
  | n + 1, i, d, e => dok (ct i) d ∧ okD ct n (i + 1) (dep (ct i) d) e
theorem okD_R {ct : Nat → Nat} : ∀ (n i d : Nat), okD ct n i d 1 → okR ct n i d
  | 0, _, _, h => h
  | n + 1, i, d, h => ⟨h.1, okD_R n (i + 1) _ h.2⟩
theorem okD_add {ct : Nat → Nat} {n f : Nat} : ∀ (m i d e : Nat), okD ct m i d e → okD ct n (i + m) e f → okD ct (m + n) i d f
  | 0, i, d, e, h, g => by
    have h' : d = e := h
    rw [h', Nat.zero_add]
    exact g
  | m + 1, i, d, e, h, g => by
    rw [show m + 1 + n = m + n + 1 by omega]
    exact ⟨h.1, okD_add m (i + 1) _ e h.2 (by rw [show i + 1 + m = i + (m + 1) by omega]; exact g)⟩
theorem okD_cg {ct cu : Nat → Nat} : ∀ (n i d e : Nat), (∀ j, i ≤ j → j < i + n → cu j = ct j) → okD ct n i d e → okD cu n i d e
  | 0, _, _, _, _, h => h
  | n + 1, i, d, e, hc, h => by
    have e1 := hc i (Nat.le_refl _) (by omega)
    refine ⟨by rw [e1]; exact h.1, ?_⟩
    rw [e1]
    exact okD_cg n (i + 1) _ e (fun j h1 h2 => hc j (by omega) (by omega)) h.2
/-- one value more is written -/
def OX (out out' : Ot) : Prop := out.1 ≤ out'.1 ∧ (∀ j, j < out.1 → out'.2 j = out.2 j) ∧ ∀ d, okD out'.2 (out'.1 - out.1) out.1 d (d + 1)
theorem OX_num {out : Ot} {c : Nat} (h : ∀ d, dok c d ∧ dep c d = d + 1) : OX out (pu out c) := by
  refine ⟨Nat.le_succ _, fun j hj => upN_o _ _ _ (by omega), fun d => ?_⟩
  show okD (upN out.2 out.1 c) (out.1 + 1 - out.1) out.1 d (d + 1)
  rw [show out.1 + 1 - out.1 = 1 by omega]
  refine ⟨by rw [upN_at]; exact (h d).1, ?_⟩
  rw [upN_at]
  exact (h d).2
theorem OX_one {out out' : Ot} {c : Nat} (h : OX out out') (hc : ∀ d, dok c (d + 1) ∧ dep c (d + 1) = d + 1) : OX out (pu out' c) := by
  obtain ⟨h1, h2, h3⟩ := h
  refine ⟨Nat.le_succ_of_le h1, fun j hj => (upN_o _ _ _ (by omega)).trans (h2 j hj), fun d => ?_⟩
  show okD (upN out'.2 out'.1 c) (out'.1 + 1 - out.1) out.1 d (d + 1)
  rw [show out'.1 + 1 - out.1 = (out'.1 - out.1) + 1 by omega]
  refine okD_add (e := d + 1) _ _ _ (okD_cg _ _ _ _ (fun j z1 z2 => upN_o _ _ _ (by omega)) (h3 d)) ?_
  rw [show out.1 + (out'.1 - out.1) = out'.1 by omega]
  refine ⟨by rw [upN_at]; exact (hc d).1, ?_⟩
  rw [upN_at]
  exact (hc d).2
theorem OX_two {o1 o2 o3 : Ot} {c : Nat} (h : OX o1 o2) (g : OX o2 o3) (hc : ∀ d, dok c (d + 2) ∧ dep c (d + 2) = d + 1) : OX o1 (pu o3 c) := by
  obtain ⟨h1, h2, h3⟩ := h
  obtain ⟨g1, g2, g3⟩ := g
  refine ⟨by show o1.1 ≤ o3.1 + 1; omega, fun j hj => (upN_o _ _ _ (by omega)).trans ((g2 j (by omega)).trans (h2 j hj)), fun d => ?_⟩
  show okD (upN o3.2 o3.1 c) (o3.1 + 1 - o1.1) o1.1 d (d + 1)
  rw [show o3.1 + 1 - o1.1 = (o2.1 - o1.1) + ((o3.1 - o2.1) + 1) by omega]
  refine okD_add (e := d + 1) _ _ _ (okD_cg _ _ _ _ (fun j z1 z2 => (upN_o _ _ _ (by omega)).trans (g2 j (by omega))) (h3 d)) ?_
  rw [show o1.1 + (o2.1 - o1.1) = o2.1 by omega]
  refine okD_add (e := d + 2) _ _ _ (okD_cg _ _ _ _ (fun j z1 z2 => upN_o _ _ _ (by omega)) (g3 (d + 1))) ?_
  rw [show o2.1 + (o3.1 - o2.1) = o3.1 by omega]
  refine ⟨by rw [upN_at]; exact (hc d).1, ?_⟩
  rw [upN_at]
  exact (hc d).2
theorem dok_num {v : Nat} (hv : v ≤ 9999) (d : Nat) : dok (100000 + v) d ∧ dep (100000 + v) d = d + 1 := ⟨.inl ⟨by omega, by omega⟩, if_pos (by omega)⟩
theorem dok_name {c : Nat} (hc : c < 6) (d : Nat) : dok c d ∧ dep c d = d + 1 := ⟨.inr (.inl hc), by unfold dep; rw [if_neg (by omega), if_pos (by omega)]⟩
theorem dok_un {c : Nat} (hc : c = 13 ∨ c = 19) (d : Nat) : dok c (d + 1) ∧ dep c (d + 1) = d + 1 := by
  refine ⟨.inr (.inr (.inl ⟨hc, by omega⟩)), ?_⟩
  unfold dep
  rcases hc with rfl | rfl
  · rw [if_neg (by decide), if_neg (by decide), if_pos rfl]
  · rw [if_neg (by decide), if_neg (by decide), if_neg (by decide), if_pos rfl]
theorem dok_bi {c : Nat} (hc : c = 11 ∨ c = 12 ∨ (14 ≤ c ∧ c ≤ 18)) (d : Nat) : dok c (d + 2) ∧ dep c (d + 2) = d + 1 := by
  refine ⟨.inr (.inr (.inr ⟨hc, by omega⟩)), ?_⟩
  unfold dep
  rw [if_neg (by omega), if_neg (by omega), if_neg (by omega), if_neg (by omega)]
  rfl
