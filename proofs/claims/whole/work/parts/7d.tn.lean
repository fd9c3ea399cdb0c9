/-! no field beyond the last -/
def HB (K : yK) : Prop := ∀ p f, 42 ≤ f → K.2.2 p f = none
theorem HB.n {K : yK} {t : Nat × Nat} (h : HB K) : HB (yKn K t) := fun p f hf => by
  show (if p = K.1 then none else K.2.2 p f) = none
  by_cases z : p = K.1
  · rw [if_pos z]
  · rw [if_neg z]; exact h p f hf
theorem HB.r {K : yK} {p f q : Nat} (hf : f < 42) (h : HB K) : HB (yKr K p f q) := fun a b hb => by
  show (if a = p ∧ b = f then some q else K.2.2 a b) = none
  rw [if_neg (by omega)]
  exact h a b hb
def W2 (o : Option (yK × yM)) : Prop := ∀ r, o = some r → HB r.1
def W3 (o : Option (Nat × yK × yM)) : Prop := ∀ r, o = some r → HB r.2.1
theorem W2.i {c : Prop} [Decidable c] {a : Option (yK × yM)} (h : W2 a) : W2 (if c then a else none) := by
  by_cases z : c
  · rw [if_pos z]; exact h
  · rw [if_neg z]; exact fun r hr => by cases hr
theorem W3.i {c : Prop} [Decidable c] {a : Option (Nat × yK × yM)} (h : W3 a) : W3 (if c then a else none) := by
  by_cases z : c
  · rw [if_pos z]; exact h
  · rw [if_neg z]; exact fun r hr => by cases hr
theorem W2.k {a : yK} {f : yK → Option (yK × yM)} (h : HB a) (g : ∀ x, HB x → W2 (f x)) : W2 (Option.bind (some a) f) := g a h
theorem W3.k {a : yK} {f : yK → Option (Nat × yK × yM)} (h : HB a) (g : ∀ x, HB x → W3 (f x)) : W3 (Option.bind (some a) f) := g a h
theorem W2.c {o : Option (yK × yM)} {f : yK × yM → Option (yK × yM)} (h : W2 o) (g : ∀ r, HB r.1 → W2 (f r)) : W2 (Option.bind o f) := by
  cases o with
  | none => exact fun r hr => by cases hr
  | some x => exact g x (h x rfl)
theorem W2.c3 {o : Option (Nat × yK × yM)} {f : Nat × yK × yM → Option (yK × yM)} (h : W3 o) (g : ∀ r, HB r.2.1 → W2 (f r)) : W2 (Option.bind o f) := by
  cases o with
  | none => exact fun r hr => by cases hr
  | some x => exact g x (h x rfl)
theorem W3.c {o : Option (yK × yM)} {f : yK × yM → Option (Nat × yK × yM)} (h : W2 o) (g : ∀ r, HB r.1 → W3 (f r)) : W3 (Option.bind o f) := by
  cases o with
  | none => exact fun r hr => by cases hr
  | some x => exact g x (h x rfl)
theorem W2.a {α : Type} {o : Option α} {f : α → Option (yK × yM)} (g : ∀ r, W2 (f r)) : W2 (Option.bind o f) := by
  cases o with
  | none => exact fun r hr => by cases hr
  | some x => exact g x
theorem W3.a {α : Type} {o : Option α} {f : α → Option (Nat × yK × yM)} (g : ∀ r, W3 (f r)) : W3 (Option.bind o f) := by
  cases o with
  | none => exact fun r hr => by cases hr
  | some x => exact g x
theorem W2.s {K : yK} {M : yM} (h : HB K) : W2 (some (K, M)) := fun r hr => by cases hr; exact h
theorem W3.s {p : Nat} {K : yK} {M : yM} (h : HB K) : W3 (some (p, K, M)) := fun r hr => by cases hr; exact h
theorem w_X3 {K : yK} {M : yM} {t a1 : Nat} {x2 x3 : Int32} (h : HB K) : W2 (b_X3_init K M t a1 x2 x3) := by
  unfold b_X3_init
  repeat (first | with_reducible refine W2.i ?_ | with_reducible refine W2.k (by first | exact HB.n (by assumption) | exact HB.r (by decide) (by assumption)) (fun _ _ => ?_) | with_reducible refine W2.a (fun _ => ?_))
  exact W2.s (by first | assumption | exact HB.r (by decide) (by assumption))
theorem w_first {K : yK} {M : yM} (h : HB K) : W3 (b_X7_firstText K M) := by
  unfold b_X7_firstText
  repeat (first | with_reducible refine W3.i ?_ | with_reducible refine W3.k (by first | exact HB.n (by assumption) | exact HB.r (by decide) (by assumption)) (fun _ _ => ?_) | with_reducible refine W3.c (w_X3 (by assumption)) (fun _ _ => ?_) | with_reducible refine W3.a (fun _ => ?_))
  exact W3.s (by first | assumption | exact HB.r (by decide) (by assumption))
set_option maxHeartbeats 4000000 in
set_option maxRecDepth 100000 in
theorem w_X4 {K : yK} {M : yM} {t : Nat} (h : HB K) : W2 (b_X4_init K M t) := by
  unfold b_X4_init
  repeat (first | with_reducible refine W2.i ?_ | with_reducible refine W2.k (by first | exact HB.n (by assumption) | exact HB.r (by decide) (by assumption)) (fun _ _ => ?_) | with_reducible refine W2.a (fun _ => ?_))
  exact W2.s (by first | assumption | exact HB.r (by decide) (by assumption))
set_option maxHeartbeats 4000000 in
set_option maxRecDepth 100000 in
theorem w_X0 {K : yK} {M : yM} {t a1 a2 : Nat} (h : HB K) : W2 (b_X0_init K M t a1 a2) := by
  unfold b_X0_init
  repeat (first | with_reducible refine W2.i ?_ | with_reducible refine W2.k (by first | exact HB.n (by assumption) | exact HB.r (by decide) (by assumption)) (fun _ _ => ?_) | with_reducible refine W2.a (fun _ => ?_))
  exact W2.s (by first | assumption | exact HB.r (by decide) (by assumption))
set_option maxHeartbeats 4000000 in
set_option maxRecDepth 100000 in
theorem w_X6 {K : yK} {M : yM} {t : Nat} (h : HB K) : W2 (b_X6_init K M t) := by
  unfold b_X6_init
  repeat (first | with_reducible refine W2.i ?_ | with_reducible refine W2.k (by first | exact HB.n (by assumption) | exact HB.r (by decide) (by assumption)) (fun _ _ => ?_) | with_reducible refine W2.a (fun _ => ?_))
  exact W2.s (by first | assumption | exact HB.r (by decide) (by assumption))
set_option maxHeartbeats 4000000 in
set_option maxRecDepth 100000 in
theorem w_X5 {K : yK} {M : yM} {t : Nat} (h : HB K) : W2 (b_X5_init K M t) := by
  unfold b_X5_init
  repeat (first | with_reducible refine W2.i ?_ | with_reducible refine W2.k (by first | exact HB.n (by assumption) | exact HB.r (by decide) (by assumption)) (fun _ _ => ?_) | with_reducible refine W2.a (fun _ => ?_))
  exact W2.s (by first | assumption | exact HB.r (by decide) (by assumption))
set_option maxHeartbeats 4000000 in
set_option maxRecDepth 100000 in
theorem w_X1 {K : yK} {M : yM} {t : Nat} (h : HB K) : W2 (b_X1_init K M t) := by
  unfold b_X1_init
  repeat (first | with_reducible refine W2.i ?_ | with_reducible refine W2.k (by first | exact HB.n (by assumption) | exact HB.r (by decide) (by assumption)) (fun _ _ => ?_) | with_reducible refine W2.c (w_X6 (by assumption)) (fun _ _ => ?_) | with_reducible refine W2.a (fun _ => ?_))
  exact W2.s (by first | assumption | exact HB.r (by decide) (by assumption))
set_option maxHeartbeats 4000000 in
set_option maxRecDepth 100000 in
theorem w_X7 {K : yK} {M : yM} {t : Nat} (h : HB K) : W2 (b_X7_init K M t) := by
  unfold b_X7_init
  repeat (first | with_reducible refine W2.i ?_ | with_reducible refine W2.k (by first | exact HB.n (by assumption) | exact HB.r (by decide) (by assumption)) (fun _ _ => ?_) | with_reducible refine W2.c3 (w_first (by assumption)) (fun _ _ => ?_) | with_reducible refine W2.c (w_X4 (by assumption)) (fun _ _ => ?_) | with_reducible refine W2.c (w_X0 (by assumption)) (fun _ _ => ?_) | with_reducible refine W2.c (w_X1 (by assumption)) (fun _ _ => ?_) | with_reducible refine W2.c (w_X5 (by assumption)) (fun _ _ => ?_) | with_reducible refine W2.a (fun _ => ?_))
  exact W2.s (by first | assumption | exact HB.r (by decide) (by assumption))
