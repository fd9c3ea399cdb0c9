/-! the abstract heap: places instead of addresses; K: how many places, what stands at each, its references; M: its numbers -/
def yV (ad : Nat → Nat) : Value → Value
  | .ref p => .ref (ad p)
  | v => v
theorem yV_cat (ad : Nat → Nat) (v : Value) : (yV ad v).category = v.category := by cases v <;> rfl
abbrev yK : Type := Nat × (Nat → Nat × Nat) × (Nat → Nat → Option Nat)
abbrev yM : Type := Nat → Nat → Int32
def yTab (ci : Nat) : u_T := match ci with
  | 0 => TX0
  | 1 => TX1
  | 2 => TX3
  | 3 => TX4
  | 4 => TX5
  | 5 => TX6
  | 6 => TX7
  | _ => TX8
def yTy (ci : Nat) : Nat → FieldType := match ci with
  | 0 => tyX0
  | 1 => tyX1
  | 2 => tyX3
  | 3 => tyX4
  | 4 => tyX5
  | 5 => tyX6
  | 6 => tyX7
  | _ => tyX8
def yNf (ci : Nat) : Nat := match ci with
  | 0 => 19
  | 1 => 7
  | 2 => 3
  | 3 => 2
  | 4 => 3
  | 5 => 4
  | 6 => 9
  | _ => 51
def yCn (ci : Nat) : String := match ci with
  | 0 => RX0
  | 1 => RX1
  | 2 => RX3
  | 3 => RX4
  | 4 => RX5
  | 5 => RX6
  | 6 => RX7
  | _ => RX8
theorem y_lt8 {ci : Nat} (h : ci < 8) : ci = 0 ∨ ci = 1 ∨ ci = 2 ∨ ci = 3 ∨ ci = 4 ∨ ci = 5 ∨ ci = 6 ∨ ci = 7 := by omega
theorem yCl_at {ci : Nat} (h : ci < 8) : vwCl[ci]? = some (yCn ci, yTab ci, yNf ci) := by
  rcases y_lt8 h with rfl | rfl | rfl | rfl | rfl | rfl | rfl | rfl <;> rfl
theorem yIn0 : ∀ w ∈ u_ws RX0 TX0 19, w ∈ yT := by decide +kernel
theorem yIn1 : ∀ w ∈ u_ws RX1 TX1 7, w ∈ yT := by decide +kernel
theorem yIn2 : ∀ w ∈ u_ws RX3 TX3 3, w ∈ yT := by decide +kernel
theorem yIn3 : ∀ w ∈ u_ws RX4 TX4 2, w ∈ yT := by decide +kernel
theorem yIn4 : ∀ w ∈ u_ws RX5 TX5 3, w ∈ yT := by decide +kernel
theorem yIn5 : ∀ w ∈ u_ws RX6 TX6 4, w ∈ yT := by decide +kernel
theorem yIn6 : ∀ w ∈ u_ws RX7 TX7 9, w ∈ yT := by decide +kernel
theorem yIn7 : ∀ w ∈ u_ws RX8 TX8 51, w ∈ yT := by decide +kernel
theorem yIn {ci : Nat} (h : ci < 8) : ∀ w ∈ u_ws (yCn ci) (yTab ci) (yNf ci), w ∈ yT := by
  rcases y_lt8 h with rfl | rfl | rfl | rfl | rfl | rfl | rfl | rfl
  · exact yIn0
  · exact yIn1
  · exact yIn2
  · exact yIn3
  · exact yIn4
  · exact yIn5
  · exact yIn6
  · exact yIn7
theorem yTy_ok {ci : Nat} (h : ci < 8) : ∀ k, k < yNf ci → parseFieldDescriptor (yTab ci k).2.2.1 = some (yTy ci k) := by
  rcases y_lt8 h with rfl | rfl | rfl | rfl | rfl | rfl | rfl | rfl
  · exact tyX0_ok
  · exact tyX1_ok
  · exact tyX3_ok
  · exact tyX4_ok
  · exact tyX5_ok
  · exact tyX6_ok
  · exact tyX7_ok
  · exact tyX8_ok
theorem yNm_ok {ci : Nat} (h : ci < 8) : ∀ a, a < yNf ci → ∀ b, b < yNf ci → a ≠ b → (yTab ci a).2.1 ≠ (yTab ci b).2.1 := by
  rcases y_lt8 h with rfl | rfl | rfl | rfl | rfl | rfl | rfl | rfl
  · exact nmX0
  · exact nmX1
  · exact nmX3
  · exact nmX4
  · exact nmX5
  · exact nmX6
  · exact nmX7
  · exact nmX8
def yIsR (ci f : Nat) : Bool := match yTy ci f with
  | .array _ => true
  | .object _ => true
  | _ => false
def yFs (ad : Nat → Nat) (ci : Nat) (r : Nat → Option Nat) (v : Nat → Int32) : List Value := (List.range (yNf ci)).map (fun f => if yIsR ci f = true then va_rf ((r f).map ad) else .int (v f))
def yE (cA : Nat → ClassId) (ad : Nat → Nat) (k : Nat × Nat) (r : Nat → Option Nat) (v : Nat → Int32) : va_E :=
  if k.1 = 0 then .inl (cA 0, k.2, .inl v)
  else if k.1 < 3 then .inl (cA k.1, k.2, .inr (.inr (.inr (.inr (fun i => (r i).map ad)))))
  else .inr (k.1 - 3, yFs ad (k.1 - 3) r v)
def yW (cA : Nat → ClassId) (ad : Nat → Nat) (K : yK) (M : yM) : va_W := (List.range K.1).map (fun p => (ad p, yE cA ad (K.2.1 p) (K.2.2 p) (M p)))
theorem yW_at {cA : Nat → ClassId} {ad : Nat → Nat} {K : yK} {M : yM} {p : Nat} (h : p < K.1) : (yW cA ad K M)[p]? = some (ad p, yE cA ad (K.2.1 p) (K.2.2 p) (M p)) := by
  simp [yW, h]
theorem yW_len {cA : Nat → ClassId} {ad : Nat → Nat} {K : yK} {M : yM} : (yW cA ad K M).length = K.1 := by simp [yW]
/-- one place written -/
theorem yW_set {cA : Nat → ClassId} {ad : Nat → Nat} {K K' : yK} {M M' : yM} {p : Nat} {e : va_E} (hn : K'.1 = K.1) (ho : ∀ q, q < K.1 → q ≠ p → yE cA ad (K'.2.1 q) (K'.2.2 q) (M' q) = yE cA ad (K.2.1 q) (K.2.2 q) (M q)) (hp : yE cA ad (K'.2.1 p) (K'.2.2 p) (M' p) = e) : (yW cA ad K M).set p (ad p, e) = yW cA ad K' M' := by
  apply List.ext_getElem?
  intro q
  by_cases hq : q < K.1
  · rw [yW_at (K := K') (by rw [hn]; exact hq)]
    by_cases hqp : q = p
    · subst hqp
      rw [List.getElem?_set_self (by rw [yW_len]; exact hq), hp]
    · rw [List.getElem?_set_ne (Ne.symm hqp), yW_at hq, ho q hq hqp]
  · rw [List.getElem?_eq_none (by rw [List.length_set, yW_len]; omega), List.getElem?_eq_none (by rw [yW_len, hn]; omega)]
def yS (M : yM) (p i : Nat) (v : Int32) : yM := fun q j => if q = p ∧ j = i then v else M q j
def yKr (K : yK) (p f q : Nat) : yK := (K.1, K.2.1, fun a b => if a = p ∧ b = f then some q else K.2.2 a b)
def yKn (K : yK) (t : Nat × Nat) : yK := (K.1 + 1, fun a => if a = K.1 then t else K.2.1 a, fun a b => if a = K.1 then none else K.2.2 a b)
def yMn (K : yK) (M : yM) : yM := fun a b => if a = K.1 then 0 else M a b
theorem yS_self (M : yM) (p i : Nat) (v : Int32) : yS M p i v p = fun j => if j = i then v else M p j := by
  funext j
  simp [yS]
theorem yS_ne (M : yM) {p q : Nat} (i : Nat) (v : Int32) (h : q ≠ p) : yS M p i v q = M q := by
  funext j
  simp [yS, h]
/-- what a program looks at before it reads or writes -/
def gA (K : yK) (p : Nat) (i : Int32) : Bool := decide (p < K.1 ∧ (K.2.1 p).1 = 0 ∧ ¬ i < 0 ∧ i.toNatClampNeg < (K.2.1 p).2)
def gI (K : yK) (p : Nat) : Bool := decide (p < K.1 ∧ (K.2.1 p).1 = 0)
def gO (K : yK) (p ci : Nat) : Bool := decide (p < K.1 ∧ (K.2.1 p).1 = ci + 3)
def gQ (K : yK) (p t : Nat) (i : Int32) : Bool := decide (p < K.1 ∧ (K.2.1 p).1 = t ∧ ¬ i < 0 ∧ i.toNatClampNeg < (K.2.1 p).2)
theorem gA_s {K : yK} {p : Nat} {i : Int32} (h : gA K p i = true) : p < K.1 ∧ (K.2.1 p).1 = 0 ∧ ¬ i < 0 ∧ i.toNatClampNeg < (K.2.1 p).2 := of_decide_eq_true h
theorem gI_s {K : yK} {p : Nat} (h : gI K p = true) : p < K.1 ∧ (K.2.1 p).1 = 0 := of_decide_eq_true h
theorem gO_s {K : yK} {p ci : Nat} (h : gO K p ci = true) : p < K.1 ∧ (K.2.1 p).1 = ci + 3 := of_decide_eq_true h
theorem gQ_s {K : yK} {p t : Nat} {i : Int32} (h : gQ K p t i = true) : p < K.1 ∧ (K.2.1 p).1 = t ∧ ¬ i < 0 ∧ i.toNatClampNeg < (K.2.1 p).2 := of_decide_eq_true h
theorem yW_int {cA : Nat → ClassId} {ad : Nat → Nat} {K : yK} {M : yM} {p : Nat} (h : p < K.1) (ht : (K.2.1 p).1 = 0) : (yW cA ad K M)[p]? = some (ad p, .inl (cA 0, (K.2.1 p).2, .inl (M p))) := by
  rw [yW_at h, yE, if_pos ht]
theorem yW_ref {cA : Nat → ClassId} {ad : Nat → Nat} {K : yK} {M : yM} {p t : Nat} (h : p < K.1) (ht : (K.2.1 p).1 = t) (h1 : t ≠ 0) (h2 : t < 3) : (yW cA ad K M)[p]? = some (ad p, .inl (cA t, (K.2.1 p).2, .inr (.inr (.inr (.inr (fun i => (K.2.2 p i).map ad)))))) := by
  rw [yW_at h, yE, if_neg (by rw [ht]; exact h1), if_pos (by rw [ht]; exact h2), ht]
theorem yW_obj {cA : Nat → ClassId} {ad : Nat → Nat} {K : yK} {M : yM} {p ci : Nat} (h : p < K.1) (ht : (K.2.1 p).1 = ci + 3) : (yW cA ad K M)[p]? = some (ad p, .inr (ci, yFs ad ci (K.2.2 p) (M p))) := by
  rw [yW_at h, yE, if_neg (by omega), if_neg (by omega), ht]
  simp
theorem yFs_len {ad : Nat → Nat} {ci : Nat} {r : Nat → Option Nat} {v : Nat → Int32} : (yFs ad ci r v).length = yNf ci := by simp [yFs]
theorem yFs_i {ad : Nat → Nat} {ci f : Nat} {r : Nat → Option Nat} {v : Nat → Int32} (hf : f < yNf ci) (hr : yIsR ci f = false) : (yFs ad ci r v)[f]? = some (.int (v f)) := by
  simp [yFs, hf, hr]
theorem yFs_r {ad : Nat → Nat} {ci f q : Nat} {r : Nat → Option Nat} {v : Nat → Int32} (hf : f < yNf ci) (hr : yIsR ci f = true) (hq : r f = some q) : (yFs ad ci r v)[f]? = some (.ref (ad q)) := by
  simp [yFs, hf, hr, hq, va_rf]
theorem yFs_set {ad : Nat → Nat} {ci f : Nat} {r r' : Nat → Option Nat} {v v' : Nat → Int32} {x : Value} (hx : (yFs ad ci r' v')[f]? = some x) (ho : ∀ j, j ≠ f → r' j = r j ∧ v' j = v j) : (yFs ad ci r v).set f x = yFs ad ci r' v' := by
  apply List.ext_getElem?
  intro j
  have hf : f < yNf ci := by
    have := (List.getElem?_eq_some_iff.mp hx).1
    rwa [yFs_len] at this
  by_cases hj : j = f
  · subst hj
    rw [List.getElem?_set_self (by rw [yFs_len]; exact hf), hx]
  · rw [List.getElem?_set_ne (Ne.symm hj)]
    by_cases hl : j < yNf ci
    · simp [yFs, hl, (ho j hj).1, (ho j hj).2]
    · rw [List.getElem?_eq_none (by rw [yFs_len]; omega), List.getElem?_eq_none (by rw [yFs_len]; omega)]
def yTys (cA : Nat → ClassId) : List (ClassId × FieldType) := [(cA 0, .int), (cA 1, .object RX3), (cA 2, .object RX5)]
/-- no reference but to a place that is there -/
def yOK (K : yK) : Prop := K.1 ≤ 1000000 ∧ ∀ p f q, p < K.1 → K.2.2 p f = some q → q < K.1
def yAd (ad0 : Nat → Nat) (n0 : Nat) (K : yK) (ad : Nat → Nat) : Prop := n0 ≤ K.1 ∧ ∀ p, (p < n0 ∨ K.1 ≤ p) → ad p = ad0 p
/-- what lies outside: KINDS' table, twelve texts, two statics of the JDK's -/
def yAb : List Int32 := [-1, 0, 0, 1, 2, 0]
def yTx : List (List Int32) := [[114, 101, 97, 100, 115], [104, 111, 108, 100, 115], [119, 111, 114, 116, 104], [111, 114], [97, 110, 100], [110, 111, 116], [100, 97, 121], [109, 111, 114, 101], [112, 97, 103, 101, 115], [101, 110, 116, 114, 121], [119, 111, 114, 100, 115], [98, 101, 104, 105, 110, 100]]
def yTq (i : Nat) : String := ["reads", "holds", "worth", "or", "and", "not", "day", "more", "pages", "entry", "words", "behind"].getD i ""
def yTi (i : Nat) : Nat := [79, 81, 83, 85, 87, 89, 91, 93, 95, 97, 99, 101].getD i 0
def yTl : List Nat := [5, 5, 5, 2, 3, 3, 3, 4, 5, 5, 5, 6]
def yNs : List (String × Nat × MethodName) := [(RX7, 21, yX4_init), (RX7, 39, yX1_init), (RX1, 11, yX6_init), (RX7, 50, yX5_init)]
def yXs (ax : Nat → Nat) (A : Nat → Prop) (U : State) (H : Heap) : Prop :=
  (va_Z RX2 "ABOVE" "[I" (.ref (ax 1000000)) A U H ∧ va_T .int (ax 1000000) 6 (fun j => .int (yAb.getD j 0)) A U H) ∧
  va_Z "java/lang/String" "COMPACT_STRINGS" "Z" (.int 1) A U H ∧ (va_Z "jdk/internal/util/Preconditions" "SIOOBE_FORMATTER" "Ljava/util/function/BiFunction;" .null A U H ∨ va_Z "jdk/internal/util/Preconditions" "SIOOBE_FORMATTER" "Ljava/util/function/BiFunction;" (.ref (ax 1000200)) A U H) ∧
  vk_S 12 yTl yTx (fun i => ax (1000001 + i)) (fun i => ax (1000101 + i)) A U H ∧ (∀ i, i < 12 → vk_R RX6 (yTi i) (yTq i) (ax (1000001 + i)) U) ∧
  (∀ q ∈ yNs, va_Nw (.methodLinkNest q.1 q.2.1 q.2.2 "OneReader") U) ∧ va_AO RX3 U ∧ va_AO RX5 U
theorem yXs_mv {ax ax' : Nat → Nat} {A A' : Nat → Prop} {s U : State} {H : Heap} (h : yXs ax A s s.heap) (hk : ∀ a : Nat, a < s.heap.size → ¬ A a → H[a]? = s.heap[a]?) (hA : ∀ q, q < H.size → A' q → A q) (hAb : ∀ q, H.size ≤ q → A q) (hx : ∀ p, 1000000 ≤ p → ax' p = ax p) (hW : s.WarmedH U.vm) : yXs ax' A' U H := by
  have hN : ∀ q, A' q → A q := fun q hq => by
    rcases Nat.lt_or_ge q H.size with z | z
    · exact hA q z hq
    · exact hAb q z
  obtain ⟨⟨h1, h2⟩, h3, h4, h5, h6, h7, h8, h9⟩ := h
  have e0 : ax' 1000000 = ax 1000000 := hx _ (Nat.le_refl _)
  have e2 : (fun i => ax' (1000101 + i)) = (fun i => ax (1000101 + i)) := funext fun i => hx _ (by omega)
  have e1 : (fun i => ax' (1000001 + i)) = (fun i => ax (1000001 + i)) := funext fun i => hx _ (by omega)
  refine ⟨⟨?_, ?_⟩, ?_, ?_, ?_, fun i hi => ?_, fun q hq => va_Nw.warmM hW (h7 q hq), va_AO.moved hW.alike h8, va_AO.moved hW.alike h9⟩
  · rw [e0]; exact (va_Z.moved hW.alike (h1.kept hk)).narrow hN
  · rw [e0]; exact (va_T.moved hW.alike (h2.kept hk)).narrow hN
  · exact (va_Z.moved hW.alike (h3.kept hk)).narrow hN
  · rcases h4 with h4 | h4
    · exact Or.inl ((va_Z.moved hW.alike (h4.kept hk)).narrow hN)
    · rw [hx _ (by omega)]; exact Or.inr ((va_Z.moved hW.alike (h4.kept hk)).narrow hN)
  · rw [e1, e2]; exact vk_S.narrow (vk_S.moved hW.alike (h5.kept hk)) hN
  · rw [hx _ (by omega)]; exact vk_R.warm hW (h6 i hi)
theorem yXs_c {ax : Nat → Nat} {A : Nat → Prop} {U : State} {g : JFrame} {mk : MethodId} {a : Array Value} {H : Heap} (h : yXs ax A U H) : yXs ax A (U.calling g mk a) H := by
  obtain ⟨⟨h1, h2⟩, h3, h4, h5, h6, h7, h8, h9⟩ := h
  have hv : (U.calling g mk a).vm = U.vm := rfl
  have ha : U.vm.Alike (U.calling g mk a).vm := Vm.Alike.refl U.vm
  exact ⟨⟨va_Z.moved ha h1, va_T.moved ha h2⟩, va_Z.moved ha h3, h4.elim (fun z => Or.inl (va_Z.moved ha z)) (fun z => Or.inr (va_Z.moved ha z)), vk_S.moved ha h5, fun i hi => vk_R.same hv (h6 i hi), fun q hq => va_Nw.same rfl hv.symm (h7 q hq), va_AO.moved ha h8, va_AO.moved ha h9⟩

abbrev yX : Type := Program × Launch × Env × Room × State × MethodId × Array Value × List Frame × Method × Code × va_G × (Nat → ClassId) × (Nat → Prop) × (Nat → Nat) × Nat × Nat × (State → Prop)
/-- from here on the machine comes to its end as Q says, whatever the addresses are -/
def Y (X : yX) (K : yK) (M : yM) (k n pc : Nat) (L : List (Nat × Value)) (st : List Value) : Prop :=
  match X with
  | (p, l, e, R, s, m, args, below, meth, c, D, cA, A, ad0, n0, nL, Q) =>
    ∀ (ad : Nat → Nat) (H : Heap) (locs : List Loc) (ls : Array Slot), yAd ad0 n0 K ad → yOK K → va_P D vwCl (yW cA ad K M) H → va_D A (yW cA ad K M) → va_S A s.heap H locs → lv_has ls nL (L.map (fun q => (q.1, yV ad q.2))) → W p l e R s m args below meth c H locs k n Q (F0 m pc ls (st.map (yV ad)))
/-- what holds all along a method: the machine, the code, the tables' words, what lies outside -/
def yCx (X : yX) (cc : ByteArray) (own nm : String) (rm : Room) (N : Nat) : Prop :=
  match X with
  | (p, _, _, R, s, m, args, _, meth, c, D, cA, A, ad0, n0, nL, _) =>
    p.tables.exec = Jvm.exec ∧ c.code = cc ∧ c.maxLocals = nL ∧ s.vm.findClass own = some m.cls ∧ (∀ w ∈ yT, w.before args s = true) ∧ va_K D vwCl (yTys cA) s ∧ (∀ q, s.heap.size ≤ q → A q) ∧ R = rm ∧ nL = N ∧ meth.locks = false ∧ meth.name = nm ∧ n0 ≤ 1000000 ∧ yXs ad0 A s s.heap
def yLk : List (Nat × Value) → Nat → Option Value
  | [], _ => none
  | q :: t, i => if q.1 = i then some q.2 else yLk t i
theorem yLk_at {ad : Nat → Nat} {ls : Array Slot} {nL i : Nat} {v : Value} : ∀ {L : List (Nat × Value)}, lv_has ls nL (L.map (fun q => (q.1, yV ad q.2))) → yLk L i = some v → ls[i]? = some (.val (yV ad v))
  | [], _, h => by cases h
  | q :: t, hl, h => by
    rw [yLk] at h
    by_cases e : q.1 = i
    · rw [if_pos e] at h
      cases h
      rw [← e]
      exact hl.2.2 (q.1, yV ad q.2) (List.mem_cons_self)
    · rw [if_neg e] at h
      exact yLk_at ⟨hl.1, hl.2.1, fun z hz => hl.2.2 z (List.mem_cons_of_mem _ hz)⟩ h
def ySt (L : List (Nat × Value)) (i : Nat) (v : Value) : List (Nat × Value) := (i, v) :: L.filter (fun q => !(q.1 == i) && !(q.1 + 1 == i && q.2.category == 2))
def ySl (L : List (Nat × Value)) (i : Nat) (v : Value) : List (Nat × Value) := (i, v) :: L.filter (fun q => !(q.1 == i) && (!(q.1 == i + 1) && !(q.1 + 1 == i && q.2.category == 2)))
theorem ySt_map {ad : Nat → Nat} {L : List (Nat × Value)} {i : Nat} {v : Value} : (i, yV ad v) :: (L.map (fun q => (q.1, yV ad q.2))).filter (fun q => !(q.1 == i) && !(q.1 + 1 == i && q.2.category == 2)) = (ySt L i v).map (fun q => (q.1, yV ad q.2)) := by
  rw [ySt, List.map_cons, List.filter_map]
  congr 2
  apply List.filter_congr
  intro q _
  simp [Function.comp, yV_cat]
theorem ySl_map {ad : Nat → Nat} {L : List (Nat × Value)} {i : Nat} {v : Value} : (i, yV ad v) :: (L.map (fun q => (q.1, yV ad q.2))).filter (fun q => !(q.1 == i) && (!(q.1 == i + 1) && !(q.1 + 1 == i && q.2.category == 2))) = (ySl L i v).map (fun q => (q.1, yV ad q.2)) := by
  rw [ySl, List.map_cons, List.filter_map]
  congr 2
  apply List.filter_congr
  intro q _
  simp [Function.comp, yV_cat]
/-- a boolean, as the machine has it -/
def bI (b : Bool) : Int32 := if b = true then 1 else 0
theorem bI_n (b : Bool) : narrow .boolean (.int (bI b)) = .int (bI b) := by cases b <;> decide
theorem bI_0 (b : Bool) : bI b = 0 ↔ b = false := by cases b <;> decide
theorem itT {c : Prop} [Decidable c] {α : Type} {a b z : α} (hc : c) (h : (if c then a else b) = z) : a = z := by rwa [if_pos hc] at h
theorem itF {c : Prop} [Decidable c] {α : Type} {a b z : α} (hc : ¬ c) (h : (if c then a else b) = z) : b = z := by rwa [if_neg hc] at h
theorem itFb {b : Bool} {α : Type} {x y z : α} (hc : b = false) (h : (if b = true then x else y) = z) : y = z := by rwa [if_neg (by rw [hc]; decide)] at h
theorem gd {g : Bool} {α : Type} {a : Option α} {r : α} (h : (if g = true then a else none) = some r) : g = true ∧ a = some r := by
  cases g with
  | true => exact ⟨rfl, by simpa using h⟩
  | false => simp at h
theorem gp {g : Prop} [Decidable g] {α : Type} {a : Option α} {r : α} (h : (if g then a else none) = some r) : g ∧ a = some r := by
  by_cases c : g
  · exact ⟨c, by rwa [if_pos c] at h⟩
  · rw [if_neg c] at h; cases h
theorem ob {α β : Type} {o : Option α} {f : α → Option β} {r : β} (h : o.bind f = some r) : ∃ x, o = some x ∧ f x = some r := Option.bind_eq_some_iff.mp h
theorem yNe {x c : Int32} (h : ¬ x = c) : x.toInt ≠ c.toInt := fun e => h (Int32.toInt_inj.mp e)

theorem y_iconst {X : yX} {cc : ByteArray} {own nm : String} {rm : Room} {N : Nat} (C : yCx X cc own nm rm N) {K : yK} {M : yM} {k n pc : Nat} {L : List (Nat × Value)} {st : List Value} {i : Int} {v : Int32} (hd : decode cc pc = .ok (.iconst i, 1)) (hv : Int32.ofInt i = v) (kk : Y X K M k n (pc + 1) L (.int v :: st)) : Y X K M k n pc L st := by
  obtain ⟨p, l, e, R, s, m, args, below, meth, c, D, cA, A, ad0, n0, nL, Q⟩ := X
  obtain ⟨hx, hb, hml, hown, hts, hK, hA, hR, hnL, hlk, hnm, hn0, hXs⟩ := id C
  intro ad H locs ls h1 h2 h3 h4 h5 h6
  exact lv_iconst hx hb hd hv (kk ad H locs ls h1 h2 h3 h4 h5 h6)
theorem y_bipush {X : yX} {cc : ByteArray} {own nm : String} {rm : Room} {N : Nat} (C : yCx X cc own nm rm N) {K : yK} {M : yM} {k n pc : Nat} {L : List (Nat × Value)} {st : List Value} {i : Int} {v : Int32} (hd : decode cc pc = .ok (.bipush i, 2)) (hv : (Int8.ofInt i).toInt32 = v) (kk : Y X K M k n (pc + 2) L (.int v :: st)) : Y X K M k n pc L st := by
  obtain ⟨p, l, e, R, s, m, args, below, meth, c, D, cA, A, ad0, n0, nL, Q⟩ := X
  obtain ⟨hx, hb, hml, hown, hts, hK, hA, hR, hnL, hlk, hnm, hn0, hXs⟩ := id C
  intro ad H locs ls h1 h2 h3 h4 h5 h6
  exact lv_bipush hx hb hd hv (kk ad H locs ls h1 h2 h3 h4 h5 h6)
theorem y_sipush {X : yX} {cc : ByteArray} {own nm : String} {rm : Room} {N : Nat} (C : yCx X cc own nm rm N) {K : yK} {M : yM} {k n pc : Nat} {L : List (Nat × Value)} {st : List Value} {i : Int} {v : Int32} (hd : decode cc pc = .ok (.sipush i, 3)) (hv : (Int16.ofInt i).toInt32 = v) (kk : Y X K M k n (pc + 3) L (.int v :: st)) : Y X K M k n pc L st := by
  obtain ⟨p, l, e, R, s, m, args, below, meth, c, D, cA, A, ad0, n0, nL, Q⟩ := X
  obtain ⟨hx, hb, hml, hown, hts, hK, hA, hR, hnL, hlk, hnm, hn0, hXs⟩ := id C
  intro ad H locs ls h1 h2 h3 h4 h5 h6
  exact lv_sipush hx hb hd hv (kk ad H locs ls h1 h2 h3 h4 h5 h6)
theorem y_lconst {X : yX} {cc : ByteArray} {own nm : String} {rm : Room} {N : Nat} (C : yCx X cc own nm rm N) {K : yK} {M : yM} {k n pc : Nat} {L : List (Nat × Value)} {st : List Value} {i : Fin 2} {v : Int64} (hd : decode cc pc = .ok (.lconst i, 1)) (hv : Int64.ofNat (i : Nat) = v) (kk : Y X K M k n (pc + 1) L (.long v :: st)) : Y X K M k n pc L st := by
  obtain ⟨p, l, e, R, s, m, args, below, meth, c, D, cA, A, ad0, n0, nL, Q⟩ := X
  obtain ⟨hx, hb, hml, hown, hts, hK, hA, hR, hnL, hlk, hnm, hn0, hXs⟩ := id C
  intro ad H locs ls h1 h2 h3 h4 h5 h6
  exact lv_lconst hx hb hd hv (kk ad H locs ls h1 h2 h3 h4 h5 h6)
theorem y_null {X : yX} {cc : ByteArray} {own nm : String} {rm : Room} {N : Nat} (C : yCx X cc own nm rm N) {K : yK} {M : yM} {k n pc : Nat} {L : List (Nat × Value)} {st : List Value}  (hd : decode cc pc = .ok (.aconst_null, 1)) (kk : Y X K M k n (pc + 1) L (.null :: st)) : Y X K M k n pc L st := by
  obtain ⟨p, l, e, R, s, m, args, below, meth, c, D, cA, A, ad0, n0, nL, Q⟩ := X
  obtain ⟨hx, hb, hml, hown, hts, hK, hA, hR, hnL, hlk, hnm, hn0, hXs⟩ := id C
  intro ad H locs ls h1 h2 h3 h4 h5 h6
  exact lv_null hx hb hd (kk ad H locs ls h1 h2 h3 h4 h5 h6)
theorem y_ldc {X : yX} {cc : ByteArray} {own nm : String} {rm : Room} {N : Nat} (C : yCx X cc own nm rm N) {K : yK} {M : yM} {k n pc : Nat} {L : List (Nat × Value)} {st : List Value} {index : Nat} {v : Int32} (hw : Cond.constant own index v ∈ yT) (hd : decode cc pc = .ok (.ldc index, 2)) (kk : Y X K M k n (pc + 2) L (.int v :: st)) : Y X K M k n pc L st := by
  obtain ⟨p, l, e, R, s, m, args, below, meth, c, D, cA, A, ad0, n0, nL, Q⟩ := X
  obtain ⟨hx, hb, hml, hown, hts, hK, hA, hR, hnL, hlk, hnm, hn0, hXs⟩ := id C
  intro ad H locs ls h1 h2 h3 h4 h5 h6
  exact lv_ldc hx hb hown (hts _ hw) hd (kk ad H locs ls h1 h2 h3 h4 h5 h6)
theorem y_ldcw {X : yX} {cc : ByteArray} {own nm : String} {rm : Room} {N : Nat} (C : yCx X cc own nm rm N) {K : yK} {M : yM} {k n pc : Nat} {L : List (Nat × Value)} {st : List Value} {index : Nat} {v : Int32} (hw : Cond.constant own index v ∈ yT) (hd : decode cc pc = .ok (.ldc_w index, 3)) (kk : Y X K M k n (pc + 3) L (.int v :: st)) : Y X K M k n pc L st := by
  obtain ⟨p, l, e, R, s, m, args, below, meth, c, D, cA, A, ad0, n0, nL, Q⟩ := X
  obtain ⟨hx, hb, hml, hown, hts, hK, hA, hR, hnL, hlk, hnm, hn0, hXs⟩ := id C
  intro ad H locs ls h1 h2 h3 h4 h5 h6
  exact lv_ldcw hx hb hown (hts _ hw) hd (kk ad H locs ls h1 h2 h3 h4 h5 h6)
theorem y_ldc2 {X : yX} {cc : ByteArray} {own nm : String} {rm : Room} {N : Nat} (C : yCx X cc own nm rm N) {K : yK} {M : yM} {k n pc : Nat} {L : List (Nat × Value)} {st : List Value} {index : Nat} {v : Int64} (hw : Cond.constantLong own index v ∈ yT) (hd : decode cc pc = .ok (.ldc2_w index, 3)) (kk : Y X K M k n (pc + 3) L (.long v :: st)) : Y X K M k n pc L st := by
  obtain ⟨p, l, e, R, s, m, args, below, meth, c, D, cA, A, ad0, n0, nL, Q⟩ := X
  obtain ⟨hx, hb, hml, hown, hts, hK, hA, hR, hnL, hlk, hnm, hn0, hXs⟩ := id C
  intro ad H locs ls h1 h2 h3 h4 h5 h6
  exact lv_ldc2 hx hb hown (hts _ hw) hd (kk ad H locs ls h1 h2 h3 h4 h5 h6)
theorem y_iload {X : yX} {cc : ByteArray} {own nm : String} {rm : Room} {N : Nat} (C : yCx X cc own nm rm N) {K : yK} {M : yM} {k n pc : Nat} {L : List (Nat × Value)} {st : List Value} {i : Nat} {x : Int32} (hd : decode cc pc = .ok (.iload i, 2)) (hL : yLk L i = some (.int x)) (kk : Y X K M k n (pc + 2) L (.int x :: st)) : Y X K M k n pc L st := by
  obtain ⟨p, l, e, R, s, m, args, below, meth, c, D, cA, A, ad0, n0, nL, Q⟩ := X
  obtain ⟨hx, hb, hml, hown, hts, hK, hA, hR, hnL, hlk, hnm, hn0, hXs⟩ := id C
  intro ad H locs ls h1 h2 h3 h4 h5 h6
  exact lv_iload hx hb hd (yLk_at h6 hL) (kk ad H locs ls h1 h2 h3 h4 h5 h6)
theorem y_iload_n {X : yX} {cc : ByteArray} {own nm : String} {rm : Room} {N : Nat} (C : yCx X cc own nm rm N) {K : yK} {M : yM} {k n pc : Nat} {L : List (Nat × Value)} {st : List Value} {i : Fin 4} {x : Int32} (hd : decode cc pc = .ok (.iload_n i, 1)) (hL : yLk L (i : Nat) = some (.int x)) (kk : Y X K M k n (pc + 1) L (.int x :: st)) : Y X K M k n pc L st := by
  obtain ⟨p, l, e, R, s, m, args, below, meth, c, D, cA, A, ad0, n0, nL, Q⟩ := X
  obtain ⟨hx, hb, hml, hown, hts, hK, hA, hR, hnL, hlk, hnm, hn0, hXs⟩ := id C
  intro ad H locs ls h1 h2 h3 h4 h5 h6
  exact lv_iload_n hx hb hd rfl (yLk_at h6 hL) (kk ad H locs ls h1 h2 h3 h4 h5 h6)
theorem y_lload {X : yX} {cc : ByteArray} {own nm : String} {rm : Room} {N : Nat} (C : yCx X cc own nm rm N) {K : yK} {M : yM} {k n pc : Nat} {L : List (Nat × Value)} {st : List Value} {i : Nat} {x : Int64} (hd : decode cc pc = .ok (.lload i, 2)) (hL : yLk L i = some (.long x)) (kk : Y X K M k n (pc + 2) L (.long x :: st)) : Y X K M k n pc L st := by
  obtain ⟨p, l, e, R, s, m, args, below, meth, c, D, cA, A, ad0, n0, nL, Q⟩ := X
  obtain ⟨hx, hb, hml, hown, hts, hK, hA, hR, hnL, hlk, hnm, hn0, hXs⟩ := id C
  intro ad H locs ls h1 h2 h3 h4 h5 h6
  exact lv_lload hx hb hd (yLk_at h6 hL) (kk ad H locs ls h1 h2 h3 h4 h5 h6)
theorem y_lload_n {X : yX} {cc : ByteArray} {own nm : String} {rm : Room} {N : Nat} (C : yCx X cc own nm rm N) {K : yK} {M : yM} {k n pc : Nat} {L : List (Nat × Value)} {st : List Value} {i : Fin 4} {x : Int64} (hd : decode cc pc = .ok (.lload_n i, 1)) (hL : yLk L (i : Nat) = some (.long x)) (kk : Y X K M k n (pc + 1) L (.long x :: st)) : Y X K M k n pc L st := by
  obtain ⟨p, l, e, R, s, m, args, below, meth, c, D, cA, A, ad0, n0, nL, Q⟩ := X
  obtain ⟨hx, hb, hml, hown, hts, hK, hA, hR, hnL, hlk, hnm, hn0, hXs⟩ := id C
  intro ad H locs ls h1 h2 h3 h4 h5 h6
  exact lv_lload_n hx hb hd rfl (yLk_at h6 hL) (kk ad H locs ls h1 h2 h3 h4 h5 h6)
theorem y_aload {X : yX} {cc : ByteArray} {own nm : String} {rm : Room} {N : Nat} (C : yCx X cc own nm rm N) {K : yK} {M : yM} {k n pc : Nat} {L : List (Nat × Value)} {st : List Value} {i : Nat} {x : Nat} (hd : decode cc pc = .ok (.aload i, 2)) (hL : yLk L i = some (.ref x)) (kk : Y X K M k n (pc + 2) L (.ref x :: st)) : Y X K M k n pc L st := by
  obtain ⟨p, l, e, R, s, m, args, below, meth, c, D, cA, A, ad0, n0, nL, Q⟩ := X
  obtain ⟨hx, hb, hml, hown, hts, hK, hA, hR, hnL, hlk, hnm, hn0, hXs⟩ := id C
  intro ad H locs ls h1 h2 h3 h4 h5 h6
  exact lv_aload hx hb hd (yLk_at h6 hL) (kk ad H locs ls h1 h2 h3 h4 h5 h6)
theorem y_aload_n {X : yX} {cc : ByteArray} {own nm : String} {rm : Room} {N : Nat} (C : yCx X cc own nm rm N) {K : yK} {M : yM} {k n pc : Nat} {L : List (Nat × Value)} {st : List Value} {i : Fin 4} {x : Nat} (hd : decode cc pc = .ok (.aload_n i, 1)) (hL : yLk L (i : Nat) = some (.ref x)) (kk : Y X K M k n (pc + 1) L (.ref x :: st)) : Y X K M k n pc L st := by
  obtain ⟨p, l, e, R, s, m, args, below, meth, c, D, cA, A, ad0, n0, nL, Q⟩ := X
  obtain ⟨hx, hb, hml, hown, hts, hK, hA, hR, hnL, hlk, hnm, hn0, hXs⟩ := id C
  intro ad H locs ls h1 h2 h3 h4 h5 h6
  exact lv_aload_n hx hb hd rfl (yLk_at h6 hL) (kk ad H locs ls h1 h2 h3 h4 h5 h6)
theorem y_aloadN {X : yX} {cc : ByteArray} {own nm : String} {rm : Room} {N : Nat} (C : yCx X cc own nm rm N) {K : yK} {M : yM} {k n pc : Nat} {L : List (Nat × Value)} {st : List Value} {i : Nat} (hd : decode cc pc = .ok (.aload i, 2)) (hL : yLk L i = some .null) (kk : Y X K M k n (pc + 2) L (.null :: st)) : Y X K M k n pc L st := by
  obtain ⟨p, l, e, R, s, m, args, below, meth, c, D, cA, A, ad0, n0, nL, Q⟩ := X
  obtain ⟨hx, hb, hml, hown, hts, hK, hA, hR, hnL, hlk, hnm, hn0, hXs⟩ := id C
  intro ad H locs ls h1 h2 h3 h4 h5 h6
  exact lv_aloadN hx hb hd (yLk_at h6 hL) (kk ad H locs ls h1 h2 h3 h4 h5 h6)
theorem y_aload_nN {X : yX} {cc : ByteArray} {own nm : String} {rm : Room} {N : Nat} (C : yCx X cc own nm rm N) {K : yK} {M : yM} {k n pc : Nat} {L : List (Nat × Value)} {st : List Value} {i : Fin 4} (hd : decode cc pc = .ok (.aload_n i, 1)) (hL : yLk L (i : Nat) = some .null) (kk : Y X K M k n (pc + 1) L (.null :: st)) : Y X K M k n pc L st := by
  obtain ⟨p, l, e, R, s, m, args, below, meth, c, D, cA, A, ad0, n0, nL, Q⟩ := X
  obtain ⟨hx, hb, hml, hown, hts, hK, hA, hR, hnL, hlk, hnm, hn0, hXs⟩ := id C
  intro ad H locs ls h1 h2 h3 h4 h5 h6
  exact lv_aload_nN hx hb hd rfl (yLk_at h6 hL) (kk ad H locs ls h1 h2 h3 h4 h5 h6)
theorem y_istore {X : yX} {cc : ByteArray} {own nm : String} {rm : Room} {N : Nat} (C : yCx X cc own nm rm N) {K : yK} {M : yM} {k n pc : Nat} {L : List (Nat × Value)} {st : List Value} {i : Nat} {x : Int32} {L' : List (Nat × Value)} (hd : decode cc pc = .ok (.istore i, 2)) (hi : i < N) (hL : ySt L i (.int x) = L') (kk : Y X K M k n (pc + 2) L' st) : Y X K M k n pc L (.int x :: st) := by
  obtain ⟨p, l, e, R, s, m, args, below, meth, c, D, cA, A, ad0, n0, nL, Q⟩ := X
  obtain ⟨hx, hb, hml, hown, hts, hK, hA, hR, hnL, hlk, hnm, hn0, hXs⟩ := id C
  intro ad H locs ls h1 h2 h3 h4 h5 h6
  subst hL; exact lv_istore hx hb hd h6 (by rw [hnL]; exact hi) (ySt_map (v := .int x)) (fun ls6 h6 => kk ad H locs ls6 h1 h2 h3 h4 h5 h6)
theorem y_istore_n {X : yX} {cc : ByteArray} {own nm : String} {rm : Room} {N : Nat} (C : yCx X cc own nm rm N) {K : yK} {M : yM} {k n pc : Nat} {L : List (Nat × Value)} {st : List Value} {i : Fin 4} {x : Int32} {L' : List (Nat × Value)} (hd : decode cc pc = .ok (.istore_n i, 1)) (hi : (i : Nat) < N) (hL : ySt L (i : Nat) (.int x) = L') (kk : Y X K M k n (pc + 1) L' st) : Y X K M k n pc L (.int x :: st) := by
  obtain ⟨p, l, e, R, s, m, args, below, meth, c, D, cA, A, ad0, n0, nL, Q⟩ := X
  obtain ⟨hx, hb, hml, hown, hts, hK, hA, hR, hnL, hlk, hnm, hn0, hXs⟩ := id C
  intro ad H locs ls h1 h2 h3 h4 h5 h6
  subst hL; exact lv_istore_n hx hb hd rfl h6 (by rw [hnL]; exact hi) (ySt_map (v := .int x)) (fun ls6 h6 => kk ad H locs ls6 h1 h2 h3 h4 h5 h6)
theorem y_lstore {X : yX} {cc : ByteArray} {own nm : String} {rm : Room} {N : Nat} (C : yCx X cc own nm rm N) {K : yK} {M : yM} {k n pc : Nat} {L : List (Nat × Value)} {st : List Value} {i : Nat} {x : Int64} {L' : List (Nat × Value)} (hd : decode cc pc = .ok (.lstore i, 2)) (hi : i + 1 < N) (hL : ySl L i (.long x) = L') (kk : Y X K M k n (pc + 2) L' st) : Y X K M k n pc L (.long x :: st) := by
  obtain ⟨p, l, e, R, s, m, args, below, meth, c, D, cA, A, ad0, n0, nL, Q⟩ := X
  obtain ⟨hx, hb, hml, hown, hts, hK, hA, hR, hnL, hlk, hnm, hn0, hXs⟩ := id C
  intro ad H locs ls h1 h2 h3 h4 h5 h6
  subst hL; exact lv_lstore hx hb hd h6 (by rw [hnL]; exact hi) (ySl_map (v := .long x)) (fun ls6 h6 => kk ad H locs ls6 h1 h2 h3 h4 h5 h6)
theorem y_lstore_n {X : yX} {cc : ByteArray} {own nm : String} {rm : Room} {N : Nat} (C : yCx X cc own nm rm N) {K : yK} {M : yM} {k n pc : Nat} {L : List (Nat × Value)} {st : List Value} {i : Fin 4} {x : Int64} {L' : List (Nat × Value)} (hd : decode cc pc = .ok (.lstore_n i, 1)) (hi : (i : Nat) + 1 < N) (hL : ySl L (i : Nat) (.long x) = L') (kk : Y X K M k n (pc + 1) L' st) : Y X K M k n pc L (.long x :: st) := by
  obtain ⟨p, l, e, R, s, m, args, below, meth, c, D, cA, A, ad0, n0, nL, Q⟩ := X
  obtain ⟨hx, hb, hml, hown, hts, hK, hA, hR, hnL, hlk, hnm, hn0, hXs⟩ := id C
  intro ad H locs ls h1 h2 h3 h4 h5 h6
  subst hL; exact lv_lstore_n hx hb hd rfl h6 (by rw [hnL]; exact hi) (ySl_map (v := .long x)) (fun ls6 h6 => kk ad H locs ls6 h1 h2 h3 h4 h5 h6)
theorem y_astore {X : yX} {cc : ByteArray} {own nm : String} {rm : Room} {N : Nat} (C : yCx X cc own nm rm N) {K : yK} {M : yM} {k n pc : Nat} {L : List (Nat × Value)} {st : List Value} {i : Nat} {x : Nat} {L' : List (Nat × Value)} (hd : decode cc pc = .ok (.astore i, 2)) (hi : i < N) (hL : ySt L i (.ref x) = L') (kk : Y X K M k n (pc + 2) L' st) : Y X K M k n pc L (.ref x :: st) := by
  obtain ⟨p, l, e, R, s, m, args, below, meth, c, D, cA, A, ad0, n0, nL, Q⟩ := X
  obtain ⟨hx, hb, hml, hown, hts, hK, hA, hR, hnL, hlk, hnm, hn0, hXs⟩ := id C
  intro ad H locs ls h1 h2 h3 h4 h5 h6
  subst hL; exact lv_astore hx hb hd h6 (by rw [hnL]; exact hi) (ySt_map (v := .ref x)) (fun ls6 h6 => kk ad H locs ls6 h1 h2 h3 h4 h5 h6)
theorem y_astore_n {X : yX} {cc : ByteArray} {own nm : String} {rm : Room} {N : Nat} (C : yCx X cc own nm rm N) {K : yK} {M : yM} {k n pc : Nat} {L : List (Nat × Value)} {st : List Value} {i : Fin 4} {x : Nat} {L' : List (Nat × Value)} (hd : decode cc pc = .ok (.astore_n i, 1)) (hi : (i : Nat) < N) (hL : ySt L (i : Nat) (.ref x) = L') (kk : Y X K M k n (pc + 1) L' st) : Y X K M k n pc L (.ref x :: st) := by
  obtain ⟨p, l, e, R, s, m, args, below, meth, c, D, cA, A, ad0, n0, nL, Q⟩ := X
  obtain ⟨hx, hb, hml, hown, hts, hK, hA, hR, hnL, hlk, hnm, hn0, hXs⟩ := id C
  intro ad H locs ls h1 h2 h3 h4 h5 h6
  subst hL; exact lv_astore_n hx hb hd rfl h6 (by rw [hnL]; exact hi) (ySt_map (v := .ref x)) (fun ls6 h6 => kk ad H locs ls6 h1 h2 h3 h4 h5 h6)
theorem y_astoreN {X : yX} {cc : ByteArray} {own nm : String} {rm : Room} {N : Nat} (C : yCx X cc own nm rm N) {K : yK} {M : yM} {k n pc : Nat} {L : List (Nat × Value)} {st : List Value} {i : Nat} {L' : List (Nat × Value)} (hd : decode cc pc = .ok (.astore i, 2)) (hi : i < N) (hL : ySt L i .null = L') (kk : Y X K M k n (pc + 2) L' st) : Y X K M k n pc L (.null :: st) := by
  obtain ⟨p, l, e, R, s, m, args, below, meth, c, D, cA, A, ad0, n0, nL, Q⟩ := X
  obtain ⟨hx, hb, hml, hown, hts, hK, hA, hR, hnL, hlk, hnm, hn0, hXs⟩ := id C
  intro ad H locs ls h1 h2 h3 h4 h5 h6
  subst hL; exact lv_astoreN hx hb hd h6 (by rw [hnL]; exact hi) (ySt_map (v := .null)) (fun ls6 h6 => kk ad H locs ls6 h1 h2 h3 h4 h5 h6)
theorem y_astore_nN {X : yX} {cc : ByteArray} {own nm : String} {rm : Room} {N : Nat} (C : yCx X cc own nm rm N) {K : yK} {M : yM} {k n pc : Nat} {L : List (Nat × Value)} {st : List Value} {i : Fin 4} {L' : List (Nat × Value)} (hd : decode cc pc = .ok (.astore_n i, 1)) (hi : (i : Nat) < N) (hL : ySt L (i : Nat) .null = L') (kk : Y X K M k n (pc + 1) L' st) : Y X K M k n pc L (.null :: st) := by
  obtain ⟨p, l, e, R, s, m, args, below, meth, c, D, cA, A, ad0, n0, nL, Q⟩ := X
  obtain ⟨hx, hb, hml, hown, hts, hK, hA, hR, hnL, hlk, hnm, hn0, hXs⟩ := id C
  intro ad H locs ls h1 h2 h3 h4 h5 h6
  subst hL; exact lv_astore_nN hx hb hd rfl h6 (by rw [hnL]; exact hi) (ySt_map (v := .null)) (fun ls6 h6 => kk ad H locs ls6 h1 h2 h3 h4 h5 h6)
theorem yLk_mem {i : Nat} {v : Value} : ∀ {L : List (Nat × Value)}, yLk L i = some v → ∃ j : Nat, L[j]? = some (i, v)
  | [], h => by cases h
  | q :: t, h => by
    rw [yLk] at h
    by_cases e : q.1 = i
    · rw [if_pos e] at h
      exact ⟨0, by cases h; rw [← e]; rfl⟩
    · rw [if_neg e] at h
      obtain ⟨j, hj⟩ := yLk_mem h
      exact ⟨j + 1, hj⟩
theorem y_iinc {X : yX} {cc : ByteArray} {own nm : String} {rm : Room} {N : Nat} (C : yCx X cc own nm rm N) {K : yK} {M : yM} {k n pc : Nat} {L : List (Nat × Value)} {st : List Value} {i : Nat} {z : Int} {x v : Int32} {L' : List (Nat × Value)} (hd : decode cc pc = .ok (.iinc i z, 3)) (hi : i < N) (hx0 : yLk L i = some (.int x)) (hv : x + Int32.ofInt z = v) (hL : ySt L i (.int v) = L') (kk : Y X K M k n (pc + 3) L' st) : Y X K M k n pc L st := by
  obtain ⟨p, l, e, R, s, m, args, below, meth, c, D, cA, A, ad0, n0, nL, Q⟩ := X
  obtain ⟨hx, hb, hml, hown, hts, hK, hA, hR, hnL, hlk, hnm, hn0, hXs⟩ := id C
  intro ad H locs ls h1 h2 h3 h4 h5 h6
  obtain ⟨j, hj⟩ := yLk_mem hx0
  subst hL; exact lv_iinc (k := j) hx hb hd h6 (by rw [List.getElem?_map, hj]; rfl) hv (by rw [hnL]; exact hi) (ySt_map (v := .int v)) (fun ls6 h6 => kk ad H locs ls6 h1 h2 h3 h4 h5 h6)
theorem y_iadd {X : yX} {cc : ByteArray} {own nm : String} {rm : Room} {N : Nat} (C : yCx X cc own nm rm N) {K : yK} {M : yM} {k n pc : Nat} {L : List (Nat × Value)} {st : List Value} {x y : Int32} (hd : decode cc pc = .ok (.iadd, 1)) (kk : Y X K M k n (pc + 1) L (.int (x + y) :: st)) : Y X K M k n pc L (.int y :: .int x :: st) := by
  obtain ⟨p, l, e, R, s, m, args, below, meth, c, D, cA, A, ad0, n0, nL, Q⟩ := X
  obtain ⟨hx, hb, hml, hown, hts, hK, hA, hR, hnL, hlk, hnm, hn0, hXs⟩ := id C
  intro ad H locs ls h1 h2 h3 h4 h5 h6
  exact lv_iadd hx hb hd (kk ad H locs ls h1 h2 h3 h4 h5 h6)
theorem y_isub {X : yX} {cc : ByteArray} {own nm : String} {rm : Room} {N : Nat} (C : yCx X cc own nm rm N) {K : yK} {M : yM} {k n pc : Nat} {L : List (Nat × Value)} {st : List Value} {x y : Int32} (hd : decode cc pc = .ok (.isub, 1)) (kk : Y X K M k n (pc + 1) L (.int (x - y) :: st)) : Y X K M k n pc L (.int y :: .int x :: st) := by
  obtain ⟨p, l, e, R, s, m, args, below, meth, c, D, cA, A, ad0, n0, nL, Q⟩ := X
  obtain ⟨hx, hb, hml, hown, hts, hK, hA, hR, hnL, hlk, hnm, hn0, hXs⟩ := id C
  intro ad H locs ls h1 h2 h3 h4 h5 h6
  exact lv_isub hx hb hd (kk ad H locs ls h1 h2 h3 h4 h5 h6)
theorem y_imul {X : yX} {cc : ByteArray} {own nm : String} {rm : Room} {N : Nat} (C : yCx X cc own nm rm N) {K : yK} {M : yM} {k n pc : Nat} {L : List (Nat × Value)} {st : List Value} {x y : Int32} (hd : decode cc pc = .ok (.imul, 1)) (kk : Y X K M k n (pc + 1) L (.int (x * y) :: st)) : Y X K M k n pc L (.int y :: .int x :: st) := by
  obtain ⟨p, l, e, R, s, m, args, below, meth, c, D, cA, A, ad0, n0, nL, Q⟩ := X
  obtain ⟨hx, hb, hml, hown, hts, hK, hA, hR, hnL, hlk, hnm, hn0, hXs⟩ := id C
  intro ad H locs ls h1 h2 h3 h4 h5 h6
  exact lv_imul hx hb hd (kk ad H locs ls h1 h2 h3 h4 h5 h6)
theorem y_iand {X : yX} {cc : ByteArray} {own nm : String} {rm : Room} {N : Nat} (C : yCx X cc own nm rm N) {K : yK} {M : yM} {k n pc : Nat} {L : List (Nat × Value)} {st : List Value} {x y : Int32} (hd : decode cc pc = .ok (.iand, 1)) (kk : Y X K M k n (pc + 1) L (.int (x &&& y) :: st)) : Y X K M k n pc L (.int y :: .int x :: st) := by
  obtain ⟨p, l, e, R, s, m, args, below, meth, c, D, cA, A, ad0, n0, nL, Q⟩ := X
  obtain ⟨hx, hb, hml, hown, hts, hK, hA, hR, hnL, hlk, hnm, hn0, hXs⟩ := id C
  intro ad H locs ls h1 h2 h3 h4 h5 h6
  exact lv_iand hx hb hd (kk ad H locs ls h1 h2 h3 h4 h5 h6)
theorem y_ior {X : yX} {cc : ByteArray} {own nm : String} {rm : Room} {N : Nat} (C : yCx X cc own nm rm N) {K : yK} {M : yM} {k n pc : Nat} {L : List (Nat × Value)} {st : List Value} {x y : Int32} (hd : decode cc pc = .ok (.ior, 1)) (kk : Y X K M k n (pc + 1) L (.int (x ||| y) :: st)) : Y X K M k n pc L (.int y :: .int x :: st) := by
  obtain ⟨p, l, e, R, s, m, args, below, meth, c, D, cA, A, ad0, n0, nL, Q⟩ := X
  obtain ⟨hx, hb, hml, hown, hts, hK, hA, hR, hnL, hlk, hnm, hn0, hXs⟩ := id C
  intro ad H locs ls h1 h2 h3 h4 h5 h6
  exact lv_ior hx hb hd (kk ad H locs ls h1 h2 h3 h4 h5 h6)
theorem y_ixor {X : yX} {cc : ByteArray} {own nm : String} {rm : Room} {N : Nat} (C : yCx X cc own nm rm N) {K : yK} {M : yM} {k n pc : Nat} {L : List (Nat × Value)} {st : List Value} {x y : Int32} (hd : decode cc pc = .ok (.ixor, 1)) (kk : Y X K M k n (pc + 1) L (.int (x ^^^ y) :: st)) : Y X K M k n pc L (.int y :: .int x :: st) := by
  obtain ⟨p, l, e, R, s, m, args, below, meth, c, D, cA, A, ad0, n0, nL, Q⟩ := X
  obtain ⟨hx, hb, hml, hown, hts, hK, hA, hR, hnL, hlk, hnm, hn0, hXs⟩ := id C
  intro ad H locs ls h1 h2 h3 h4 h5 h6
  exact lv_ixor hx hb hd (kk ad H locs ls h1 h2 h3 h4 h5 h6)
theorem y_ishl {X : yX} {cc : ByteArray} {own nm : String} {rm : Room} {N : Nat} (C : yCx X cc own nm rm N) {K : yK} {M : yM} {k n pc : Nat} {L : List (Nat × Value)} {st : List Value} {x y : Int32} (hd : decode cc pc = .ok (.ishl, 1)) (kk : Y X K M k n (pc + 1) L (.int (x <<< (y &&& 31)) :: st)) : Y X K M k n pc L (.int y :: .int x :: st) := by
  obtain ⟨p, l, e, R, s, m, args, below, meth, c, D, cA, A, ad0, n0, nL, Q⟩ := X
  obtain ⟨hx, hb, hml, hown, hts, hK, hA, hR, hnL, hlk, hnm, hn0, hXs⟩ := id C
  intro ad H locs ls h1 h2 h3 h4 h5 h6
  exact lv_ishl hx hb hd (kk ad H locs ls h1 h2 h3 h4 h5 h6)
theorem y_ishr {X : yX} {cc : ByteArray} {own nm : String} {rm : Room} {N : Nat} (C : yCx X cc own nm rm N) {K : yK} {M : yM} {k n pc : Nat} {L : List (Nat × Value)} {st : List Value} {x y : Int32} (hd : decode cc pc = .ok (.ishr, 1)) (kk : Y X K M k n (pc + 1) L (.int (x >>> (y &&& 31)) :: st)) : Y X K M k n pc L (.int y :: .int x :: st) := by
  obtain ⟨p, l, e, R, s, m, args, below, meth, c, D, cA, A, ad0, n0, nL, Q⟩ := X
  obtain ⟨hx, hb, hml, hown, hts, hK, hA, hR, hnL, hlk, hnm, hn0, hXs⟩ := id C
  intro ad H locs ls h1 h2 h3 h4 h5 h6
  exact lv_ishr hx hb hd (kk ad H locs ls h1 h2 h3 h4 h5 h6)
theorem y_iushr {X : yX} {cc : ByteArray} {own nm : String} {rm : Room} {N : Nat} (C : yCx X cc own nm rm N) {K : yK} {M : yM} {k n pc : Nat} {L : List (Nat × Value)} {st : List Value} {x y v : Int32} (hd : decode cc pc = .ok (.iushr, 1)) (hv : (x.toUInt32 >>> (y.toUInt32 &&& Int32.toUInt32 31)).toInt32 = v) (kk : Y X K M k n (pc + 1) L (.int v :: st)) : Y X K M k n pc L (.int y :: .int x :: st) := by
  obtain ⟨p, l, e, R, s, m, args, below, meth, c, D, cA, A, ad0, n0, nL, Q⟩ := X
  obtain ⟨hx, hb, hml, hown, hts, hK, hA, hR, hnL, hlk, hnm, hn0, hXs⟩ := id C
  intro ad H locs ls h1 h2 h3 h4 h5 h6
  exact lv_iushr hx hb hd hv (kk ad H locs ls h1 h2 h3 h4 h5 h6)
theorem y_idiv {X : yX} {cc : ByteArray} {own nm : String} {rm : Room} {N : Nat} (C : yCx X cc own nm rm N) {K : yK} {M : yM} {k n pc : Nat} {L : List (Nat × Value)} {st : List Value} {x y : Int32} (hd : decode cc pc = .ok (.idiv, 1)) (hne : ¬ y = 0) (kk : Y X K M k n (pc + 1) L (.int (x / y) :: st)) : Y X K M k n pc L (.int y :: .int x :: st) := by
  obtain ⟨p, l, e, R, s, m, args, below, meth, c, D, cA, A, ad0, n0, nL, Q⟩ := X
  obtain ⟨hx, hb, hml, hown, hts, hK, hA, hR, hnL, hlk, hnm, hn0, hXs⟩ := id C
  intro ad H locs ls h1 h2 h3 h4 h5 h6
  exact lv_idiv hx hb hd hne (kk ad H locs ls h1 h2 h3 h4 h5 h6)
theorem y_irem {X : yX} {cc : ByteArray} {own nm : String} {rm : Room} {N : Nat} (C : yCx X cc own nm rm N) {K : yK} {M : yM} {k n pc : Nat} {L : List (Nat × Value)} {st : List Value} {x y : Int32} (hd : decode cc pc = .ok (.irem, 1)) (hne : ¬ y = 0) (kk : Y X K M k n (pc + 1) L (.int (x - x / y * y) :: st)) : Y X K M k n pc L (.int y :: .int x :: st) := by
  obtain ⟨p, l, e, R, s, m, args, below, meth, c, D, cA, A, ad0, n0, nL, Q⟩ := X
  obtain ⟨hx, hb, hml, hown, hts, hK, hA, hR, hnL, hlk, hnm, hn0, hXs⟩ := id C
  intro ad H locs ls h1 h2 h3 h4 h5 h6
  exact lv_irem hx hb hd hne (kk ad H locs ls h1 h2 h3 h4 h5 h6)
theorem y_ladd {X : yX} {cc : ByteArray} {own nm : String} {rm : Room} {N : Nat} (C : yCx X cc own nm rm N) {K : yK} {M : yM} {k n pc : Nat} {L : List (Nat × Value)} {st : List Value} {x y : Int64} (hd : decode cc pc = .ok (.ladd, 1)) (kk : Y X K M k n (pc + 1) L (.long (x + y) :: st)) : Y X K M k n pc L (.long y :: .long x :: st) := by
  obtain ⟨p, l, e, R, s, m, args, below, meth, c, D, cA, A, ad0, n0, nL, Q⟩ := X
  obtain ⟨hx, hb, hml, hown, hts, hK, hA, hR, hnL, hlk, hnm, hn0, hXs⟩ := id C
  intro ad H locs ls h1 h2 h3 h4 h5 h6
  exact lv_ladd hx hb hd (kk ad H locs ls h1 h2 h3 h4 h5 h6)
theorem y_lmul {X : yX} {cc : ByteArray} {own nm : String} {rm : Room} {N : Nat} (C : yCx X cc own nm rm N) {K : yK} {M : yM} {k n pc : Nat} {L : List (Nat × Value)} {st : List Value} {x y : Int64} (hd : decode cc pc = .ok (.lmul, 1)) (kk : Y X K M k n (pc + 1) L (.long (x * y) :: st)) : Y X K M k n pc L (.long y :: .long x :: st) := by
  obtain ⟨p, l, e, R, s, m, args, below, meth, c, D, cA, A, ad0, n0, nL, Q⟩ := X
  obtain ⟨hx, hb, hml, hown, hts, hK, hA, hR, hnL, hlk, hnm, hn0, hXs⟩ := id C
  intro ad H locs ls h1 h2 h3 h4 h5 h6
  exact lv_lmul hx hb hd (kk ad H locs ls h1 h2 h3 h4 h5 h6)
theorem y_lsub {X : yX} {cc : ByteArray} {own nm : String} {rm : Room} {N : Nat} (C : yCx X cc own nm rm N) {K : yK} {M : yM} {k n pc : Nat} {L : List (Nat × Value)} {st : List Value} {x y : Int64} (hd : decode cc pc = .ok (.lsub, 1)) (kk : Y X K M k n (pc + 1) L (.long (x - y) :: st)) : Y X K M k n pc L (.long y :: .long x :: st) := by
  obtain ⟨p, l, e, R, s, m, args, below, meth, c, D, cA, A, ad0, n0, nL, Q⟩ := X
  obtain ⟨hx, hb, hml, hown, hts, hK, hA, hR, hnL, hlk, hnm, hn0, hXs⟩ := id C
  intro ad H locs ls h1 h2 h3 h4 h5 h6
  exact lv_lsub hx hb hd (kk ad H locs ls h1 h2 h3 h4 h5 h6)
theorem y_ldiv {X : yX} {cc : ByteArray} {own nm : String} {rm : Room} {N : Nat} (C : yCx X cc own nm rm N) {K : yK} {M : yM} {k n pc : Nat} {L : List (Nat × Value)} {st : List Value} {x y : Int64} (hd : decode cc pc = .ok (.ldiv, 1)) (hne : ¬ y = 0) (kk : Y X K M k n (pc + 1) L (.long (x / y) :: st)) : Y X K M k n pc L (.long y :: .long x :: st) := by
  obtain ⟨p, l, e, R, s, m, args, below, meth, c, D, cA, A, ad0, n0, nL, Q⟩ := X
  obtain ⟨hx, hb, hml, hown, hts, hK, hA, hR, hnL, hlk, hnm, hn0, hXs⟩ := id C
  intro ad H locs ls h1 h2 h3 h4 h5 h6
  exact lv_ldiv hx hb hd hne (kk ad H locs ls h1 h2 h3 h4 h5 h6)
theorem y_lrem {X : yX} {cc : ByteArray} {own nm : String} {rm : Room} {N : Nat} (C : yCx X cc own nm rm N) {K : yK} {M : yM} {k n pc : Nat} {L : List (Nat × Value)} {st : List Value} {x y : Int64} (hd : decode cc pc = .ok (.lrem, 1)) (hne : ¬ y = 0) (kk : Y X K M k n (pc + 1) L (.long (x - x / y * y) :: st)) : Y X K M k n pc L (.long y :: .long x :: st) := by
  obtain ⟨p, l, e, R, s, m, args, below, meth, c, D, cA, A, ad0, n0, nL, Q⟩ := X
  obtain ⟨hx, hb, hml, hown, hts, hK, hA, hR, hnL, hlk, hnm, hn0, hXs⟩ := id C
  intro ad H locs ls h1 h2 h3 h4 h5 h6
  exact lv_lrem hx hb hd hne (kk ad H locs ls h1 h2 h3 h4 h5 h6)
theorem y_ineg {X : yX} {cc : ByteArray} {own nm : String} {rm : Room} {N : Nat} (C : yCx X cc own nm rm N) {K : yK} {M : yM} {k n pc : Nat} {L : List (Nat × Value)} {st : List Value} {x : Int32} (hd : decode cc pc = .ok (.ineg, 1)) (kk : Y X K M k n (pc + 1) L (.int (-x) :: st)) : Y X K M k n pc L (.int x :: st) := by
  obtain ⟨p, l, e, R, s, m, args, below, meth, c, D, cA, A, ad0, n0, nL, Q⟩ := X
  obtain ⟨hx, hb, hml, hown, hts, hK, hA, hR, hnL, hlk, hnm, hn0, hXs⟩ := id C
  intro ad H locs ls h1 h2 h3 h4 h5 h6
  exact lv_ineg hx hb hd (kk ad H locs ls h1 h2 h3 h4 h5 h6)
theorem y_i2l {X : yX} {cc : ByteArray} {own nm : String} {rm : Room} {N : Nat} (C : yCx X cc own nm rm N) {K : yK} {M : yM} {k n pc : Nat} {L : List (Nat × Value)} {st : List Value} {x : Int32} {v : Int64} (hd : decode cc pc = .ok (.i2l, 1)) (hv : x.toInt64 = v) (kk : Y X K M k n (pc + 1) L (.long v :: st)) : Y X K M k n pc L (.int x :: st) := by
  obtain ⟨p, l, e, R, s, m, args, below, meth, c, D, cA, A, ad0, n0, nL, Q⟩ := X
  obtain ⟨hx, hb, hml, hown, hts, hK, hA, hR, hnL, hlk, hnm, hn0, hXs⟩ := id C
  intro ad H locs ls h1 h2 h3 h4 h5 h6
  exact lv_i2l hx hb hd hv (kk ad H locs ls h1 h2 h3 h4 h5 h6)
theorem y_i2b {X : yX} {cc : ByteArray} {own nm : String} {rm : Room} {N : Nat} (C : yCx X cc own nm rm N) {K : yK} {M : yM} {k n pc : Nat} {L : List (Nat × Value)} {st : List Value} {x v : Int32} (hd : decode cc pc = .ok (.i2b, 1)) (hv : x.toInt8.toInt32 = v) (kk : Y X K M k n (pc + 1) L (.int v :: st)) : Y X K M k n pc L (.int x :: st) := by
  obtain ⟨p, l, e, R, s, m, args, below, meth, c, D, cA, A, ad0, n0, nL, Q⟩ := X
  obtain ⟨hx, hb, hml, hown, hts, hK, hA, hR, hnL, hlk, hnm, hn0, hXs⟩ := id C
  intro ad H locs ls h1 h2 h3 h4 h5 h6
  exact lv_i2b hx hb hd hv (kk ad H locs ls h1 h2 h3 h4 h5 h6)
theorem y_i2s {X : yX} {cc : ByteArray} {own nm : String} {rm : Room} {N : Nat} (C : yCx X cc own nm rm N) {K : yK} {M : yM} {k n pc : Nat} {L : List (Nat × Value)} {st : List Value} {x v : Int32} (hd : decode cc pc = .ok (.i2s, 1)) (hv : x.toInt16.toInt32 = v) (kk : Y X K M k n (pc + 1) L (.int v :: st)) : Y X K M k n pc L (.int x :: st) := by
  obtain ⟨p, l, e, R, s, m, args, below, meth, c, D, cA, A, ad0, n0, nL, Q⟩ := X
  obtain ⟨hx, hb, hml, hown, hts, hK, hA, hR, hnL, hlk, hnm, hn0, hXs⟩ := id C
  intro ad H locs ls h1 h2 h3 h4 h5 h6
  exact lv_i2s hx hb hd hv (kk ad H locs ls h1 h2 h3 h4 h5 h6)
theorem y_dup {X : yX} {cc : ByteArray} {own nm : String} {rm : Room} {N : Nat} (C : yCx X cc own nm rm N) {K : yK} {M : yM} {k n pc : Nat} {L : List (Nat × Value)} {st : List Value} {v : Value} (hd : decode cc pc = .ok (.dup, 1)) (hv : v.category = 1) (kk : Y X K M k n (pc + 1) L (v :: v :: st)) : Y X K M k n pc L (v :: st) := by
  obtain ⟨p, l, e, R, s, m, args, below, meth, c, D, cA, A, ad0, n0, nL, Q⟩ := X
  obtain ⟨hx, hb, hml, hown, hts, hK, hA, hR, hnL, hlk, hnm, hn0, hXs⟩ := id C
  intro ad H locs ls h1 h2 h3 h4 h5 h6
  exact lv_dup hx hb hd (by rw [yV_cat]; exact hv) (kk ad H locs ls h1 h2 h3 h4 h5 h6)
theorem y_pop {X : yX} {cc : ByteArray} {own nm : String} {rm : Room} {N : Nat} (C : yCx X cc own nm rm N) {K : yK} {M : yM} {k n pc : Nat} {L : List (Nat × Value)} {st : List Value} {v : Value} (hd : decode cc pc = .ok (.pop, 1)) (hv : v.category = 1) (kk : Y X K M k n (pc + 1) L st) : Y X K M k n pc L (v :: st) := by
  obtain ⟨p, l, e, R, s, m, args, below, meth, c, D, cA, A, ad0, n0, nL, Q⟩ := X
  obtain ⟨hx, hb, hml, hown, hts, hK, hA, hR, hnL, hlk, hnm, hn0, hXs⟩ := id C
  intro ad H locs ls h1 h2 h3 h4 h5 h6
  exact lv_pop hx hb hd (by rw [yV_cat]; exact hv) (kk ad H locs ls h1 h2 h3 h4 h5 h6)
theorem y_dup_x1 {X : yX} {cc : ByteArray} {own nm : String} {rm : Room} {N : Nat} (C : yCx X cc own nm rm N) {K : yK} {M : yM} {k n pc : Nat} {L : List (Nat × Value)} {st : List Value} {v u : Value} (hd : decode cc pc = .ok (.dup_x1, 1)) (hv : v.category = 1) (hu : u.category = 1) (kk : Y X K M k n (pc + 1) L (v :: u :: v :: st)) : Y X K M k n pc L (v :: u :: st) := by
  obtain ⟨p, l, e, R, s, m, args, below, meth, c, D, cA, A, ad0, n0, nL, Q⟩ := X
  obtain ⟨hx, hb, hml, hown, hts, hK, hA, hR, hnL, hlk, hnm, hn0, hXs⟩ := id C
  intro ad H locs ls h1 h2 h3 h4 h5 h6
  exact lv_dup_x1 hx hb hd (by rw [yV_cat]; exact hv) (by rw [yV_cat]; exact hu) (kk ad H locs ls h1 h2 h3 h4 h5 h6)
theorem y_dup2 {X : yX} {cc : ByteArray} {own nm : String} {rm : Room} {N : Nat} (C : yCx X cc own nm rm N) {K : yK} {M : yM} {k n pc : Nat} {L : List (Nat × Value)} {st : List Value} {v u : Value} (hd : decode cc pc = .ok (.dup2, 1)) (hv : v.category = 1) (hu : u.category = 1) (kk : Y X K M k n (pc + 1) L (v :: u :: v :: u :: st)) : Y X K M k n pc L (v :: u :: st) := by
  obtain ⟨p, l, e, R, s, m, args, below, meth, c, D, cA, A, ad0, n0, nL, Q⟩ := X
  obtain ⟨hx, hb, hml, hown, hts, hK, hA, hR, hnL, hlk, hnm, hn0, hXs⟩ := id C
  intro ad H locs ls h1 h2 h3 h4 h5 h6
  exact lv_dup2_11 hx hb hd (by rw [yV_cat]; exact hv) (by rw [yV_cat]; exact hu) (kk ad H locs ls h1 h2 h3 h4 h5 h6)
theorem y_goto {X : yX} {cc : ByteArray} {own nm : String} {rm : Room} {N : Nat} (C : yCx X cc own nm rm N) {K : yK} {M : yM} {k n pc : Nat} {L : List (Nat × Value)} {st : List Value} {off : Int} {tgt : Nat} (hd : decode cc pc = .ok (.goto off, 3)) (ht : (pc : Int) + off = (tgt : Int)) (kk : Y X K M k n tgt L st) : Y X K M k n pc L st := by
  obtain ⟨p, l, e, R, s, m, args, below, meth, c, D, cA, A, ad0, n0, nL, Q⟩ := X
  obtain ⟨hx, hb, hml, hown, hts, hK, hA, hR, hnL, hlk, hnm, hn0, hXs⟩ := id C
  intro ad H locs ls h1 h2 h3 h4 h5 h6
  exact lv_goto hx hb hd ht (kk ad H locs ls h1 h2 h3 h4 h5 h6)
theorem y_if_eq {X : yX} {cc : ByteArray} {own nm : String} {rm : Room} {N : Nat} (C : yCx X cc own nm rm N) {K : yK} {M : yM} {k n pc : Nat} {L : List (Nat × Value)} {st : List Value} {x : Int32} {off : Int} {tgt : Nat} (hd : decode cc pc = .ok (.ifCond .eq off, 3)) (ht : (pc : Int) + off = (tgt : Int)) (kt : x = 0 → Y X K M k n tgt L st) (kf : ¬ (x = 0) → Y X K M k n (pc + 3) L st) : Y X K M k n pc L (.int x :: st) := by
  obtain ⟨p, l, e, R, s, m, args, below, meth, c, D, cA, A, ad0, n0, nL, Q⟩ := X
  obtain ⟨hx, hb, hml, hown, hts, hK, hA, hR, hnL, hlk, hnm, hn0, hXs⟩ := id C
  intro ad H locs ls h1 h2 h3 h4 h5 h6
  exact lv_if_eq hx hb hd ht (fun q => kt q ad H locs ls h1 h2 h3 h4 h5 h6) (fun q => kf q ad H locs ls h1 h2 h3 h4 h5 h6)
theorem y_if_ne {X : yX} {cc : ByteArray} {own nm : String} {rm : Room} {N : Nat} (C : yCx X cc own nm rm N) {K : yK} {M : yM} {k n pc : Nat} {L : List (Nat × Value)} {st : List Value} {x : Int32} {off : Int} {tgt : Nat} (hd : decode cc pc = .ok (.ifCond .ne off, 3)) (ht : (pc : Int) + off = (tgt : Int)) (kt : ¬ x = 0 → Y X K M k n tgt L st) (kf : x = 0 → Y X K M k n (pc + 3) L st) : Y X K M k n pc L (.int x :: st) := by
  obtain ⟨p, l, e, R, s, m, args, below, meth, c, D, cA, A, ad0, n0, nL, Q⟩ := X
  obtain ⟨hx, hb, hml, hown, hts, hK, hA, hR, hnL, hlk, hnm, hn0, hXs⟩ := id C
  intro ad H locs ls h1 h2 h3 h4 h5 h6
  exact lv_if_ne hx hb hd ht (fun q => kt q ad H locs ls h1 h2 h3 h4 h5 h6) (fun q => kf q ad H locs ls h1 h2 h3 h4 h5 h6)
theorem y_if_lt {X : yX} {cc : ByteArray} {own nm : String} {rm : Room} {N : Nat} (C : yCx X cc own nm rm N) {K : yK} {M : yM} {k n pc : Nat} {L : List (Nat × Value)} {st : List Value} {x : Int32} {off : Int} {tgt : Nat} (hd : decode cc pc = .ok (.ifCond .lt off, 3)) (ht : (pc : Int) + off = (tgt : Int)) (kt : x < 0 → Y X K M k n tgt L st) (kf : ¬ (x < 0) → Y X K M k n (pc + 3) L st) : Y X K M k n pc L (.int x :: st) := by
  obtain ⟨p, l, e, R, s, m, args, below, meth, c, D, cA, A, ad0, n0, nL, Q⟩ := X
  obtain ⟨hx, hb, hml, hown, hts, hK, hA, hR, hnL, hlk, hnm, hn0, hXs⟩ := id C
  intro ad H locs ls h1 h2 h3 h4 h5 h6
  exact lv_if_lt hx hb hd ht (fun q => kt q ad H locs ls h1 h2 h3 h4 h5 h6) (fun q => kf q ad H locs ls h1 h2 h3 h4 h5 h6)
theorem y_if_ge {X : yX} {cc : ByteArray} {own nm : String} {rm : Room} {N : Nat} (C : yCx X cc own nm rm N) {K : yK} {M : yM} {k n pc : Nat} {L : List (Nat × Value)} {st : List Value} {x : Int32} {off : Int} {tgt : Nat} (hd : decode cc pc = .ok (.ifCond .ge off, 3)) (ht : (pc : Int) + off = (tgt : Int)) (kt : 0 ≤ x → Y X K M k n tgt L st) (kf : ¬ (0 ≤ x) → Y X K M k n (pc + 3) L st) : Y X K M k n pc L (.int x :: st) := by
  obtain ⟨p, l, e, R, s, m, args, below, meth, c, D, cA, A, ad0, n0, nL, Q⟩ := X
  obtain ⟨hx, hb, hml, hown, hts, hK, hA, hR, hnL, hlk, hnm, hn0, hXs⟩ := id C
  intro ad H locs ls h1 h2 h3 h4 h5 h6
  exact lv_if_ge hx hb hd ht (fun q => kt q ad H locs ls h1 h2 h3 h4 h5 h6) (fun q => kf q ad H locs ls h1 h2 h3 h4 h5 h6)
theorem y_if_gt {X : yX} {cc : ByteArray} {own nm : String} {rm : Room} {N : Nat} (C : yCx X cc own nm rm N) {K : yK} {M : yM} {k n pc : Nat} {L : List (Nat × Value)} {st : List Value} {x : Int32} {off : Int} {tgt : Nat} (hd : decode cc pc = .ok (.ifCond .gt off, 3)) (ht : (pc : Int) + off = (tgt : Int)) (kt : 0 < x → Y X K M k n tgt L st) (kf : ¬ (0 < x) → Y X K M k n (pc + 3) L st) : Y X K M k n pc L (.int x :: st) := by
  obtain ⟨p, l, e, R, s, m, args, below, meth, c, D, cA, A, ad0, n0, nL, Q⟩ := X
  obtain ⟨hx, hb, hml, hown, hts, hK, hA, hR, hnL, hlk, hnm, hn0, hXs⟩ := id C
  intro ad H locs ls h1 h2 h3 h4 h5 h6
  exact lv_if_gt hx hb hd ht (fun q => kt q ad H locs ls h1 h2 h3 h4 h5 h6) (fun q => kf q ad H locs ls h1 h2 h3 h4 h5 h6)
theorem y_if_le {X : yX} {cc : ByteArray} {own nm : String} {rm : Room} {N : Nat} (C : yCx X cc own nm rm N) {K : yK} {M : yM} {k n pc : Nat} {L : List (Nat × Value)} {st : List Value} {x : Int32} {off : Int} {tgt : Nat} (hd : decode cc pc = .ok (.ifCond .le off, 3)) (ht : (pc : Int) + off = (tgt : Int)) (kt : x ≤ 0 → Y X K M k n tgt L st) (kf : ¬ (x ≤ 0) → Y X K M k n (pc + 3) L st) : Y X K M k n pc L (.int x :: st) := by
  obtain ⟨p, l, e, R, s, m, args, below, meth, c, D, cA, A, ad0, n0, nL, Q⟩ := X
  obtain ⟨hx, hb, hml, hown, hts, hK, hA, hR, hnL, hlk, hnm, hn0, hXs⟩ := id C
  intro ad H locs ls h1 h2 h3 h4 h5 h6
  exact lv_if_le hx hb hd ht (fun q => kt q ad H locs ls h1 h2 h3 h4 h5 h6) (fun q => kf q ad H locs ls h1 h2 h3 h4 h5 h6)
theorem y_icmp_eq {X : yX} {cc : ByteArray} {own nm : String} {rm : Room} {N : Nat} (C : yCx X cc own nm rm N) {K : yK} {M : yM} {k n pc : Nat} {L : List (Nat × Value)} {st : List Value} {x y : Int32} {off : Int} {tgt : Nat} (hd : decode cc pc = .ok (.if_icmp .eq off, 3)) (ht : (pc : Int) + off = (tgt : Int)) (kt : x = y → Y X K M k n tgt L st) (kf : ¬ (x = y) → Y X K M k n (pc + 3) L st) : Y X K M k n pc L (.int y :: .int x :: st) := by
  obtain ⟨p, l, e, R, s, m, args, below, meth, c, D, cA, A, ad0, n0, nL, Q⟩ := X
  obtain ⟨hx, hb, hml, hown, hts, hK, hA, hR, hnL, hlk, hnm, hn0, hXs⟩ := id C
  intro ad H locs ls h1 h2 h3 h4 h5 h6
  exact lv_icmp_eq hx hb hd ht (fun q => kt q ad H locs ls h1 h2 h3 h4 h5 h6) (fun q => kf q ad H locs ls h1 h2 h3 h4 h5 h6)
theorem y_icmp_ne {X : yX} {cc : ByteArray} {own nm : String} {rm : Room} {N : Nat} (C : yCx X cc own nm rm N) {K : yK} {M : yM} {k n pc : Nat} {L : List (Nat × Value)} {st : List Value} {x y : Int32} {off : Int} {tgt : Nat} (hd : decode cc pc = .ok (.if_icmp .ne off, 3)) (ht : (pc : Int) + off = (tgt : Int)) (kt : ¬ x = y → Y X K M k n tgt L st) (kf : x = y → Y X K M k n (pc + 3) L st) : Y X K M k n pc L (.int y :: .int x :: st) := by
  obtain ⟨p, l, e, R, s, m, args, below, meth, c, D, cA, A, ad0, n0, nL, Q⟩ := X
  obtain ⟨hx, hb, hml, hown, hts, hK, hA, hR, hnL, hlk, hnm, hn0, hXs⟩ := id C
  intro ad H locs ls h1 h2 h3 h4 h5 h6
  exact lv_icmp_ne hx hb hd ht (fun q => kt q ad H locs ls h1 h2 h3 h4 h5 h6) (fun q => kf q ad H locs ls h1 h2 h3 h4 h5 h6)
theorem y_icmp_lt {X : yX} {cc : ByteArray} {own nm : String} {rm : Room} {N : Nat} (C : yCx X cc own nm rm N) {K : yK} {M : yM} {k n pc : Nat} {L : List (Nat × Value)} {st : List Value} {x y : Int32} {off : Int} {tgt : Nat} (hd : decode cc pc = .ok (.if_icmp .lt off, 3)) (ht : (pc : Int) + off = (tgt : Int)) (kt : x < y → Y X K M k n tgt L st) (kf : ¬ (x < y) → Y X K M k n (pc + 3) L st) : Y X K M k n pc L (.int y :: .int x :: st) := by
  obtain ⟨p, l, e, R, s, m, args, below, meth, c, D, cA, A, ad0, n0, nL, Q⟩ := X
  obtain ⟨hx, hb, hml, hown, hts, hK, hA, hR, hnL, hlk, hnm, hn0, hXs⟩ := id C
  intro ad H locs ls h1 h2 h3 h4 h5 h6
  exact lv_icmp_lt hx hb hd ht (fun q => kt q ad H locs ls h1 h2 h3 h4 h5 h6) (fun q => kf q ad H locs ls h1 h2 h3 h4 h5 h6)
theorem y_icmp_ge {X : yX} {cc : ByteArray} {own nm : String} {rm : Room} {N : Nat} (C : yCx X cc own nm rm N) {K : yK} {M : yM} {k n pc : Nat} {L : List (Nat × Value)} {st : List Value} {x y : Int32} {off : Int} {tgt : Nat} (hd : decode cc pc = .ok (.if_icmp .ge off, 3)) (ht : (pc : Int) + off = (tgt : Int)) (kt : y ≤ x → Y X K M k n tgt L st) (kf : ¬ (y ≤ x) → Y X K M k n (pc + 3) L st) : Y X K M k n pc L (.int y :: .int x :: st) := by
  obtain ⟨p, l, e, R, s, m, args, below, meth, c, D, cA, A, ad0, n0, nL, Q⟩ := X
  obtain ⟨hx, hb, hml, hown, hts, hK, hA, hR, hnL, hlk, hnm, hn0, hXs⟩ := id C
  intro ad H locs ls h1 h2 h3 h4 h5 h6
  exact lv_icmp_ge hx hb hd ht (fun q => kt q ad H locs ls h1 h2 h3 h4 h5 h6) (fun q => kf q ad H locs ls h1 h2 h3 h4 h5 h6)
theorem y_icmp_gt {X : yX} {cc : ByteArray} {own nm : String} {rm : Room} {N : Nat} (C : yCx X cc own nm rm N) {K : yK} {M : yM} {k n pc : Nat} {L : List (Nat × Value)} {st : List Value} {x y : Int32} {off : Int} {tgt : Nat} (hd : decode cc pc = .ok (.if_icmp .gt off, 3)) (ht : (pc : Int) + off = (tgt : Int)) (kt : y < x → Y X K M k n tgt L st) (kf : ¬ (y < x) → Y X K M k n (pc + 3) L st) : Y X K M k n pc L (.int y :: .int x :: st) := by
  obtain ⟨p, l, e, R, s, m, args, below, meth, c, D, cA, A, ad0, n0, nL, Q⟩ := X
  obtain ⟨hx, hb, hml, hown, hts, hK, hA, hR, hnL, hlk, hnm, hn0, hXs⟩ := id C
  intro ad H locs ls h1 h2 h3 h4 h5 h6
  exact lv_icmp_gt hx hb hd ht (fun q => kt q ad H locs ls h1 h2 h3 h4 h5 h6) (fun q => kf q ad H locs ls h1 h2 h3 h4 h5 h6)
theorem y_icmp_le {X : yX} {cc : ByteArray} {own nm : String} {rm : Room} {N : Nat} (C : yCx X cc own nm rm N) {K : yK} {M : yM} {k n pc : Nat} {L : List (Nat × Value)} {st : List Value} {x y : Int32} {off : Int} {tgt : Nat} (hd : decode cc pc = .ok (.if_icmp .le off, 3)) (ht : (pc : Int) + off = (tgt : Int)) (kt : x ≤ y → Y X K M k n tgt L st) (kf : ¬ (x ≤ y) → Y X K M k n (pc + 3) L st) : Y X K M k n pc L (.int y :: .int x :: st) := by
  obtain ⟨p, l, e, R, s, m, args, below, meth, c, D, cA, A, ad0, n0, nL, Q⟩ := X
  obtain ⟨hx, hb, hml, hown, hts, hK, hA, hR, hnL, hlk, hnm, hn0, hXs⟩ := id C
  intro ad H locs ls h1 h2 h3 h4 h5 h6
  exact lv_icmp_le hx hb hd ht (fun q => kt q ad H locs ls h1 h2 h3 h4 h5 h6) (fun q => kf q ad H locs ls h1 h2 h3 h4 h5 h6)
theorem y_ifeqB {X : yX} {cc : ByteArray} {own nm : String} {rm : Room} {N : Nat} (C : yCx X cc own nm rm N) {K : yK} {M : yM} {k n pc : Nat} {L : List (Nat × Value)} {st : List Value} {b : Bool} {off : Int} {tgt : Nat} (hd : decode cc pc = .ok (.ifCond .eq off, 3)) (ht : (pc : Int) + off = (tgt : Int)) (kt : b = false → Y X K M k n tgt L st) (kf : b = true → Y X K M k n (pc + 3) L st) : Y X K M k n pc L (.int (bI b) :: st) := by
  obtain ⟨p, l, e, R, s, m, args, below, meth, c, D, cA, A, ad0, n0, nL, Q⟩ := X
  obtain ⟨hx, hb, hml, hown, hts, hK, hA, hR, hnL, hlk, hnm, hn0, hXs⟩ := id C
  intro ad H locs ls h1 h2 h3 h4 h5 h6
  exact lv_if_eq hx hb hd ht (fun q => kt ((bI_0 b).mp q) ad H locs ls h1 h2 h3 h4 h5 h6) (fun q => kf (by cases b with | true => rfl | false => exact absurd rfl q) ad H locs ls h1 h2 h3 h4 h5 h6)
theorem y_ifneB {X : yX} {cc : ByteArray} {own nm : String} {rm : Room} {N : Nat} (C : yCx X cc own nm rm N) {K : yK} {M : yM} {k n pc : Nat} {L : List (Nat × Value)} {st : List Value} {b : Bool} {off : Int} {tgt : Nat} (hd : decode cc pc = .ok (.ifCond .ne off, 3)) (ht : (pc : Int) + off = (tgt : Int)) (kt : b = true → Y X K M k n tgt L st) (kf : b = false → Y X K M k n (pc + 3) L st) : Y X K M k n pc L (.int (bI b) :: st) := by
  obtain ⟨p, l, e, R, s, m, args, below, meth, c, D, cA, A, ad0, n0, nL, Q⟩ := X
  obtain ⟨hx, hb, hml, hown, hts, hK, hA, hR, hnL, hlk, hnm, hn0, hXs⟩ := id C
  intro ad H locs ls h1 h2 h3 h4 h5 h6
  exact lv_if_ne hx hb hd ht (fun q => kt (by cases b with | true => rfl | false => exact absurd rfl q) ad H locs ls h1 h2 h3 h4 h5 h6) (fun q => kf ((bI_0 b).mp q) ad H locs ls h1 h2 h3 h4 h5 h6)
theorem y_ifnonnull {X : yX} {cc : ByteArray} {own nm : String} {rm : Room} {N : Nat} (C : yCx X cc own nm rm N) {K : yK} {M : yM} {k n pc : Nat} {L : List (Nat × Value)} {st : List Value} {x : Nat} {off : Int} {tgt : Nat} (hd : decode cc pc = .ok (.ifnonnull off, 3)) (ht : (pc : Int) + off = (tgt : Int)) (kk : Y X K M k n tgt L st) : Y X K M k n pc L (.ref x :: st) := by
  obtain ⟨p, l, e, R, s, m, args, below, meth, c, D, cA, A, ad0, n0, nL, Q⟩ := X
  obtain ⟨hx, hb, hml, hown, hts, hK, hA, hR, hnL, hlk, hnm, hn0, hXs⟩ := id C
  intro ad H locs ls h1 h2 h3 h4 h5 h6
  exact lv_ifnonnull hx hb hd ht (kk ad H locs ls h1 h2 h3 h4 h5 h6)
theorem y_ifnonnullN {X : yX} {cc : ByteArray} {own nm : String} {rm : Room} {N : Nat} (C : yCx X cc own nm rm N) {K : yK} {M : yM} {k n pc : Nat} {L : List (Nat × Value)} {st : List Value} {off : Int} (hd : decode cc pc = .ok (.ifnonnull off, 3)) (kk : Y X K M k n (pc + 3) L st) : Y X K M k n pc L (.null :: st) := by
  obtain ⟨p, l, e, R, s, m, args, below, meth, c, D, cA, A, ad0, n0, nL, Q⟩ := X
  obtain ⟨hx, hb, hml, hown, hts, hK, hA, hR, hnL, hlk, hnm, hn0, hXs⟩ := id C
  intro ad H locs ls h1 h2 h3 h4 h5 h6
  exact lv_ifnonnullN hx hb hd (kk ad H locs ls h1 h2 h3 h4 h5 h6)
theorem y_tabIn {X : yX} {cc : ByteArray} {own nm : String} {rm : Room} {N : Nat} (C : yCx X cc own nm rm N) {K : yK} {M : yM} {k n pc : Nat} {L : List (Nat × Value)} {st : List Value} {dflt lo hi : Int} {offs : Array Int} {len : Nat} {x : Int32} {off : Int} {tgt : Nat} (hd : decode cc pc = .ok (.tableswitch dflt lo hi offs, len)) (q1 : ¬ x.toInt < lo) (q2 : ¬ hi < x.toInt) (ho : offs[(x.toInt - lo).toNat]? = some off) (ht : (pc : Int) + off = (tgt : Int)) (kk : Y X K M k n tgt L st) : Y X K M k n pc L (.int x :: st) := by
  obtain ⟨p, l, e, R, s, m, args, below, meth, c, D, cA, A, ad0, n0, nL, Q⟩ := X
  obtain ⟨hx, hb, hml, hown, hts, hK, hA, hR, hnL, hlk, hnm, hn0, hXs⟩ := id C
  intro ad H locs ls h1 h2 h3 h4 h5 h6
  exact lv_tableIn hx hb hd q1 q2 ho ht (kk ad H locs ls h1 h2 h3 h4 h5 h6)
theorem y_tabOut {X : yX} {cc : ByteArray} {own nm : String} {rm : Room} {N : Nat} (C : yCx X cc own nm rm N) {K : yK} {M : yM} {k n pc : Nat} {L : List (Nat × Value)} {st : List Value} {dflt lo hi : Int} {offs : Array Int} {len : Nat} {x : Int32} {tgt : Nat} (hd : decode cc pc = .ok (.tableswitch dflt lo hi offs, len)) (q : x.toInt < lo ∨ hi < x.toInt) (ht : (pc : Int) + dflt = (tgt : Int)) (kk : Y X K M k n tgt L st) : Y X K M k n pc L (.int x :: st) := by
  obtain ⟨p, l, e, R, s, m, args, below, meth, c, D, cA, A, ad0, n0, nL, Q⟩ := X
  obtain ⟨hx, hb, hml, hown, hts, hK, hA, hR, hnL, hlk, hnm, hn0, hXs⟩ := id C
  intro ad H locs ls h1 h2 h3 h4 h5 h6
  exact lv_tableOut hx hb hd q ht (kk ad H locs ls h1 h2 h3 h4 h5 h6)
theorem y_lookup {X : yX} {cc : ByteArray} {own nm : String} {rm : Room} {N : Nat} (C : yCx X cc own nm rm N) {K : yK} {M : yM} {k n pc : Nat} {L : List (Nat × Value)} {st : List Value} {dflt : Int} {ps : Array (Int × Int)} {len : Nat} {x : Int32} {off : Int} {tgt : Nat} (hd : decode cc pc = .ok (.lookupswitch dflt ps, len)) (hp : (ps.toList.zip (ps.toList.drop 1)).all (fun (a, next) => a.1 < next.1) = true) (ho : Op.lookupswitch.offset ps.toList dflt x.toInt = off) (ht : (pc : Int) + off = (tgt : Int)) (kk : Y X K M k n tgt L st) : Y X K M k n pc L (.int x :: st) := by
  obtain ⟨p, l, e, R, s, m, args, below, meth, c, D, cA, A, ad0, n0, nL, Q⟩ := X
  obtain ⟨hx, hb, hml, hown, hts, hK, hA, hR, hnL, hlk, hnm, hn0, hXs⟩ := id C
  intro ad H locs ls h1 h2 h3 h4 h5 h6
  exact lv_lookup hx hb hd hp ho ht (kk ad H locs ls h1 h2 h3 h4 h5 h6)
