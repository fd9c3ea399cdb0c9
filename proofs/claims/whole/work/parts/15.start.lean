theorem yLm1 : ∀ w ∈ tables_1_1, w ∈ lw_tbl := fun w h => List.mem_append_right _ (List.mem_append_left _ h)
theorem yLm2 : ∀ w ∈ tables_1_2, w ∈ lw_tbl := fun w h => List.mem_append_right _ (List.mem_append_right _ (List.mem_append_left _ h))
theorem yLm3 : ∀ w ∈ tables_1_3, w ∈ lw_tbl := fun w h => List.mem_append_right _ (List.mem_append_right _ (List.mem_append_right _ (List.mem_append_left _ h)))
theorem yLm4 : ∀ w ∈ tables_1_4, w ∈ lw_tbl := fun w h => List.mem_append_right _ (List.mem_append_right _ (List.mem_append_right _ (List.mem_append_right _ (List.mem_append_left _ h))))
theorem yLm5 : ∀ w ∈ tables_1_5, w ∈ lw_tbl := fun w h => List.mem_append_right _ (List.mem_append_right _ (List.mem_append_right _ (List.mem_append_right _ (List.mem_append_right _ (List.mem_append_left _ h)))))
theorem yLm6 : ∀ w ∈ tables_1_6, w ∈ lw_tbl := fun w h => List.mem_append_right _ (List.mem_append_right _ (List.mem_append_right _ (List.mem_append_right _ (List.mem_append_right _ (List.mem_append_right _ (h))))))
theorem wl_27 : (Jvm.Cond.arrayOver (Jvm.ClassFile.FieldType.object "OneReader$Law")) ∈ lw_tbl := yLm1 _ (List.mem_of_getElem? (i := 27) rfl)
theorem wl_49 : (Jvm.Cond.methodLinkNest "OneReader" (21 : Nat) ({ cls := "OneReader$Reckoner", name := "<init>", desc := "()V" } : Jvm.MethodName) "OneReader") ∈ lw_tbl := yLm1 _ (List.mem_of_getElem? (i := 49) rfl)
theorem wl_144 : (Jvm.Cond.methodLinkNest "OneReader" (39 : Nat) ({ cls := "OneReader$Grammar", name := "<init>", desc := "()V" } : Jvm.MethodName) "OneReader") ∈ lw_tbl := yLm1 _ (List.mem_of_getElem? (i := 144) rfl)
theorem wl_150 : (Jvm.Cond.methodLinkNest "OneReader$Grammar" (11 : Nat) ({ cls := "OneReader$Tokens", name := "<init>", desc := "()V" } : Jvm.MethodName) "OneReader") ∈ lw_tbl := yLm1 _ (List.mem_of_getElem? (i := 150) rfl)
theorem wl_190 : (Jvm.Cond.arrayOver (Jvm.ClassFile.FieldType.object "OneReader$Sheet")) ∈ lw_tbl := yLm1 _ (List.mem_of_getElem? (i := 190) rfl)
theorem wl_192 : (Jvm.Cond.methodLinkNest "OneReader" (50 : Nat) ({ cls := "OneReader$Sheet", name := "<init>", desc := "()V" } : Jvm.MethodName) "OneReader") ∈ lw_tbl := yLm1 _ (List.mem_of_getElem? (i := 192) rfl)
theorem wl_312 : (Jvm.Cond.stringRef "OneReader$Tokens" (79 : Nat) "reads") ∈ lw_tbl := yLm2 _ (List.mem_of_getElem? (i := 72) rfl)
theorem wl_313 : (Jvm.Cond.stringRef "OneReader$Tokens" (81 : Nat) "holds") ∈ lw_tbl := yLm2 _ (List.mem_of_getElem? (i := 73) rfl)
theorem wl_314 : (Jvm.Cond.stringRef "OneReader$Tokens" (83 : Nat) "worth") ∈ lw_tbl := yLm2 _ (List.mem_of_getElem? (i := 74) rfl)
theorem wl_315 : (Jvm.Cond.stringRef "OneReader$Tokens" (85 : Nat) "or") ∈ lw_tbl := yLm2 _ (List.mem_of_getElem? (i := 75) rfl)
theorem wl_316 : (Jvm.Cond.stringRef "OneReader$Tokens" (87 : Nat) "and") ∈ lw_tbl := yLm2 _ (List.mem_of_getElem? (i := 76) rfl)
theorem wl_317 : (Jvm.Cond.stringRef "OneReader$Tokens" (89 : Nat) "not") ∈ lw_tbl := yLm2 _ (List.mem_of_getElem? (i := 77) rfl)
theorem wl_318 : (Jvm.Cond.stringRef "OneReader$Tokens" (91 : Nat) "day") ∈ lw_tbl := yLm2 _ (List.mem_of_getElem? (i := 78) rfl)
theorem wl_319 : (Jvm.Cond.stringRef "OneReader$Tokens" (93 : Nat) "more") ∈ lw_tbl := yLm2 _ (List.mem_of_getElem? (i := 79) rfl)
theorem wl_320 : (Jvm.Cond.stringRef "OneReader$Tokens" (95 : Nat) "pages") ∈ lw_tbl := yLm2 _ (List.mem_of_getElem? (i := 80) rfl)
theorem wl_321 : (Jvm.Cond.stringRef "OneReader$Tokens" (97 : Nat) "entry") ∈ lw_tbl := yLm2 _ (List.mem_of_getElem? (i := 81) rfl)
theorem wl_322 : (Jvm.Cond.stringRef "OneReader$Tokens" (99 : Nat) "words") ∈ lw_tbl := yLm2 _ (List.mem_of_getElem? (i := 82) rfl)
theorem wl_323 : (Jvm.Cond.stringRef "OneReader$Tokens" (101 : Nat) "behind") ∈ lw_tbl := yLm2 _ (List.mem_of_getElem? (i := 83) rfl)
theorem wl_336 : (Jvm.Cond.laysStatic "java/lang/String" "COMPACT_STRINGS" "Z") ∈ lw_tbl := yLm2 _ (List.mem_of_getElem? (i := 96) rfl)
theorem wl_352 : (Jvm.Cond.laysStatic "jdk/internal/util/Preconditions" "SIOOBE_FORMATTER" "Ljava/util/function/BiFunction;") ∈ lw_tbl := yLm2 _ (List.mem_of_getElem? (i := 112) rfl)
theorem wl_370 : (Jvm.Cond.laysStatic "java/lang/StringUTF16" "$assertionsDisabled" "Z") ∈ lw_tbl := yLm2 _ (List.mem_of_getElem? (i := 130) rfl)
theorem wl_372 : (Jvm.Cond.laysStatic "java/lang/StringUTF16" "HI_BYTE_SHIFT" "I") ∈ lw_tbl := yLm2 _ (List.mem_of_getElem? (i := 132) rfl)
theorem wl_374 : (Jvm.Cond.laysStatic "java/lang/StringUTF16" "LO_BYTE_SHIFT" "I") ∈ lw_tbl := yLm2 _ (List.mem_of_getElem? (i := 134) rfl)
theorem wl_532 : (Jvm.Cond.laysStatic "OneReader$Kind" "ABOVE" "[I") ∈ lw_tbl := yLm3 _ (List.mem_of_getElem? (i := 52) rfl)
/-! the law, from its entry, out of what the pure part says -/
def K00 : yK := (0, fun _ => (0, 0), fun _ _ => none)
def M00 : yM := fun _ _ => 0
def pOK : Prop := ∃ I : yK → yM → Nat → Nat → Prop, (∃ r, b_law_pre K00 M00 = some r ∧ I r.2.2.1 r.2.2.2 r.1 r.2.1) ∧
  ∀ (xs : Nat → Int32) (Ln : Nat) (K : yK) (M : yM) (x z j : Nat), I K M x z → j + 7 ≤ Ln → Ln ≤ 3584 → ∃ r, b_law_it xs Ln K M x z (nI j) = some r ∧ r.1 = nI (j + 7) ∧ I r.2.1 r.2.2 x z
theorem y_lawloop {X : yX} {nm : String} (C : yCx X code RL nm room_1 4) {xs : Nat → Int32} {Ln : Nat} (hs : ySx X xs Ln) (hL : Ln ≤ 3584) (I : yK → yM → Nat → Nat → Prop) (step : ∀ (xs : Nat → Int32) (Ln : Nat) (K : yK) (M : yM) (x z j : Nat), I K M x z → j + 7 ≤ Ln → Ln ≤ 3584 → ∃ r, b_law_it xs Ln K M x z (nI j) = some r ∧ r.1 = nI (j + 7) ∧ I r.2.1 r.2.2 x z)
    (hend : ∀ (K : yK) (M : yM) (k n : Nat) (L : List (Nat × Value)), k ≤ 600000 → n ≤ 7302249 → Y X K M k n 1464 L []) : ∀ (f j : Nat) (K : yK) (M : yM) (x z k n : Nat), Ln < j + 7 * f + 7 → k + 3 * f + 3 ≤ 600000 → n + 200 * f + 200 ≤ 7302249 → I K M x z → j ≤ 3591 → Y X K M k n 18 [(0, .ref 1000300), (1, .ref x), (2, .ref z), (3, .int (nI j))] [] := by
  intro f
  induction f with
  | zero =>
    intro j K M x z k n h1 h2 h3 h4 h5
    refine y_iload_n C dL_law_18 rfl ?_
    refine y_aload_n C dL_law_19 rfl ?_
    refine y_slen C hs dL_law_20 ?_
    refine y_bipush C dL_law_21 kb_7 ?_
    refine y_isub C dL_law_23 ?_
    refine y_icmp_gt C dL_law_24 (tgt := 1464) rfl (fun c => hend _ _ _ _ _ (by omega) (by omega)) (fun c => ?_)
    exfalso
    apply c
    rw [Int32.lt_iff_toInt_lt]
    have e1 : (nI Ln - nI 7).toInt = (Ln : Int) - 7 := pk_sub_toInt (by omega) (by omega)
    have e2 : (nI j).toInt = (j : Int) := nI_toInt (by omega)
    show (nI Ln - nI 7).toInt < (nI j).toInt
    omega
  | succ f ih =>
    intro j K M x z k n h1 h2 h3 h4 h5
    refine y_iload_n C dL_law_18 rfl ?_
    refine y_aload_n C dL_law_19 rfl ?_
    refine y_slen C hs dL_law_20 ?_
    refine y_bipush C dL_law_21 kb_7 ?_
    refine y_isub C dL_law_23 ?_
    refine y_icmp_gt C dL_law_24 (tgt := 1464) rfl (fun c => hend _ _ _ _ _ (by omega) (by omega)) (fun c => ?_)
    have hj : j + 7 ≤ Ln := by
      rw [Int32.lt_iff_toInt_lt] at c
      have e1 : (nI Ln - nI 7).toInt = (Ln : Int) - 7 := pk_sub_toInt (by omega) (by omega)
      have e2 : (nI j).toInt = (j : Int) := nI_toInt (by omega)
      have c2 : ¬ (nI Ln - nI 7).toInt < (nI j).toInt := c
      omega
    obtain ⟨r, hr, hr1, hI⟩ := step xs Ln K M x z j h4 hj hL
    refine l_law_it C hs (by omega) (by omega) K M x z (nI j) r hr ?_
    rw [hr1]
    exact ih (j + 7) r.2.1 r.2.2 x z (k + 3) (n + 200) (by omega) (by omega) (by omega) hI (by omega)
theorem vk_S_cg {N : Nat} {len : List Nat} {byt : List (List Int32)} {adK adV adK' adV' : Nat → Nat} {A : Nat → Prop} {U : State} {H : Heap} (h : vk_S N len byt adK adV A U H) (hk : ∀ i, i < N → adK' i = adK i ∧ adV' i = adV i) : vk_S N len byt adK' adV' A U H := by
  refine ⟨fun i hi => ?_, fun i j hi hj e => h.2 i j hi hj (by rw [← (hk i hi).1, ← (hk j hj).1]; exact e)⟩
  rw [(hk i hi).1, (hk i hi).2]
  exact h.1 i hi
def yFl1 : List Cond := flatC (Jvm.Cond.and given_1 narrow_1)
theorem yN_ab : Cond.arrayOf (.static RX2 "ABOVE" "[I") .int ∈ yFl1 ∧ Cond.eq (.length (.static RX2 "ABOVE" "[I")) (.int 6) ∈ yFl1 := by decide +kernel
theorem yN_ae : ∀ j, j < 6 → Cond.eq (.elem (.static RX2 "ABOVE" "[I") (.int (Int32.ofNat j))) (.int (yAb.getD j 0)) ∈ yFl1 := by decide +kernel
theorem yN_st : Cond.eq (.static "java/lang/String" "COMPACT_STRINGS" "Z") (.int 1) ∈ yFl1 ∧ Cond.isRef (.static "jdk/internal/util/Preconditions" "SIOOBE_FORMATTER" "Ljava/util/function/BiFunction;") ∈ yFl1 := by decide +kernel
theorem yN_s1 : ∀ i, i < 12 → Cond.exactly (.string RX6 (yTi i)) "java/lang/String" ∈ yFl1 := by decide +kernel
theorem yN_s2 : ∀ i, i < 12 → Cond.eq (.field (.string RX6 (yTi i)) "java/lang/String" "coder" "B") (.int 0) ∈ yFl1 := by decide +kernel
theorem yN_s3 : ∀ i, i < 12 → Cond.arrayOf (.field (.string RX6 (yTi i)) "java/lang/String" "value" "[B") .byte ∈ yFl1 := by decide +kernel
theorem yN_s4 : ∀ i, i < 12 → Cond.eq (.length (.field (.string RX6 (yTi i)) "java/lang/String" "value" "[B")) (.int (Int32.ofNat (yTl.getD i 0))) ∈ yFl1 := by decide +kernel
theorem yN_s5 : ∀ i, i < 12 → ∀ j, j < yTl.getD i 0 → Cond.eq (.elem (.field (.string RX6 (yTi i)) "java/lang/String" "value" "[B") (.int (Int32.ofNat j))) (.int ((yTx.getD i []).getD j 0)) ∈ yFl1 := by decide +kernel
theorem yN_s6 : ∀ i, i < 12 → ∀ j, j < i → Cond.not (Cond.eq (.string RX6 (yTi j)) (.string RX6 (yTi i))) ∈ yFl1 := by decide +kernel
theorem yN_s7 : ∀ i, i < 12 → Cond.stringRef RX6 (yTi i) (yTq i) ∈ [Cond.stringRef "OneReader$Tokens" 79 "reads", .stringRef "OneReader$Tokens" 81 "holds", .stringRef "OneReader$Tokens" 83 "worth", .stringRef "OneReader$Tokens" 85 "or", .stringRef "OneReader$Tokens" 87 "and", .stringRef "OneReader$Tokens" 89 "not", .stringRef "OneReader$Tokens" 91 "day", .stringRef "OneReader$Tokens" 93 "more", .stringRef "OneReader$Tokens" 95 "pages", .stringRef "OneReader$Tokens" 97 "entry", .stringRef "OneReader$Tokens" 99 "words", .stringRef "OneReader$Tokens" 101 "behind"] := by decide +kernel
theorem yN_s8 : ∀ i, i < 12 → Cond.stringRef RX6 (yTi i) (yTq i) ∈ lw_tbl := by
  intro i hi
  have h := yN_s7 i hi
  simp only [List.mem_cons, List.not_mem_nil, or_false] at h
  rcases h with h | h | h | h | h | h | h | h | h | h | h | h <;> rw [h]
  · exact wl_312
  · exact wl_313
  · exact wl_314
  · exact wl_315
  · exact wl_316
  · exact wl_317
  · exact wl_318
  · exact wl_319
  · exact wl_320
  · exact wl_321
  · exact wl_322
  · exact wl_323
theorem yN_tl : ∀ i, i < 12 → yTl.getD i 0 < 2 ^ 31 := by decide +kernel
/-- where the outside places lie -/
def yA0 (tA tF b : Nat) (adK adV : Nat → Nat) : Nat → Nat := fun p => if p = 1000000 then tA else if p = 1000200 then tF else if p = 1000300 then b else if p < 1000100 then adK (p - 1000001) else adV (p - 1000101)
theorem yXs_start {b : Nat} {s : State} {m : MethodId} (A : Nat → Prop) (hA : ∀ a : Nat, a < s.heap.size → ¬ A a) (hts : ∀ w ∈ lw_tbl, w.before #[Value.ref b] s = true) (hgv : (Jvm.Cond.and given_1 narrow_1).before #[Value.ref b] s = true) : ∃ ad0 : Nat → Nat, ad0 1000300 = b ∧ yXs ad0 A s s.heap := by
  have hs : ∀ c ∈ yFl1, c.before #[Value.ref b] s = true := flat_of_before _ hgv
  obtain ⟨tA, hA1, hA2⟩ := va_Tof (N := 6) (f := fun j => .int (yAb.getD j 0)) (A := A) (by decide) (hs _ yN_ab.1) (va_eqt (hs _ yN_ab.2)) (fun j hj => va_eqt (hs _ (yN_ae j hj))) hA
  have hA3 : va_Z RX2 "ABOVE" "[I" (.ref tA) A s s.heap := va_Zof (hts _ wl_532) (hts _ (yT_lw _ wd_16)) hA1 hA
  have hC : va_Z "java/lang/String" "COMPACT_STRINGS" "Z" (.int 1) A s s.heap := va_Zof (hts _ wl_336) (hts _ (yT_lw _ wd_10)) (va_eqi (hs _ yN_st.1)) hA
  have hF0 : va_Zq "jdk/internal/util/Preconditions" "SIOOBE_FORMATTER" "Ljava/util/function/BiFunction;" A s s.heap := va_Zqof (hts _ wl_352) (hts _ (yT_lw _ wd_12)) (hs _ yN_st.2) hA
  obtain ⟨tF, hF⟩ : ∃ tF : Nat, va_Z "jdk/internal/util/Preconditions" "SIOOBE_FORMATTER" "Ljava/util/function/BiFunction;" .null A s s.heap ∨ va_Z "jdk/internal/util/Preconditions" "SIOOBE_FORMATTER" "Ljava/util/function/BiFunction;" (.ref tF) A s s.heap := by
    rcases hF0 with h | ⟨t, h⟩
    · exact ⟨0, Or.inl h⟩
    · exact ⟨t, Or.inr h⟩
  obtain ⟨adK, adV, hS, hE⟩ := vk_Sof (N := 12) (tm := fun i => .string RX6 (yTi i)) (len := yTl) (byt := yTx) (A := A) yN_tl (fun i hi => hs _ (yN_s1 i hi)) (fun i hi => hs _ (yN_s2 i hi)) (fun i hi => hs _ (yN_s3 i hi)) (fun i hi => hs _ (yN_s4 i hi)) (fun i hi j hj => hs _ (yN_s5 i hi j hj)) (fun i j hi hj hne => by
    rcases Nat.lt_or_gt_of_ne hne with q | q
    · exact Or.inl (hs _ (yN_s6 j hj i q))
    · exact Or.inr (hs _ (yN_s6 i hi j q))) hA
  have eK : ∀ i, i < 12 → yA0 tA tF b adK adV (1000001 + i) = adK i ∧ yA0 tA tF b adK adV (1000101 + i) = adV i := by
    intro i hi
    refine ⟨?_, ?_⟩
    · rw [yA0, if_neg (by omega), if_neg (by omega), if_neg (by omega), if_pos (by omega), show 1000001 + i - 1000001 = i by omega]
    · rw [yA0, if_neg (by omega), if_neg (by omega), if_neg (by omega), if_neg (by omega), show 1000101 + i - 1000101 = i by omega]
  refine ⟨yA0 tA tF b adK adV, rfl, ⟨hA3, hA2⟩, hC, hF, vk_S_cg hS eK, fun i hi => ?_, fun q hq => ?_, hts _ wl_27, hts _ wl_190⟩
  · rw [(eK i hi).1]
    exact vk_R.of (hts _ (yN_s8 i hi)) (hE i hi)
  · simp only [yNs, List.mem_cons, List.not_mem_nil, or_false] at hq
    rcases hq with rfl | rfl | rfl | rfl
    · exact va_Nw.of rfl (hts _ wl_49)
    · exact va_Nw.of rfl (hts _ wl_144)
    · exact va_Nw.of rfl (hts _ wl_150)
    · exact va_Nw.of rfl (hts _ wl_192)
theorem yK_start {b : Nat} {s : State} (hts : ∀ w ∈ lw_tbl, w.before #[Value.ref b] s = true) : ∃ (D : va_G) (cA : Nat → ClassId), va_K D vwCl (yTys cA) s := by
  have hy : ∀ w ∈ yT, w.before #[Value.ref b] s = true := fun w h => hts w (yT_lw w h)
  have hin : ∀ ci, ci < 8 → (Cond.instantiable (yCn ci) (yNf ci)).before #[Value.ref b] s = true := by
    intro ci h
    rcases y_lt8 h with rfl | rfl | rfl | rfl | rfl | rfl | rfl | rfl
    · exact hy _ wd_61
    · exact hy _ wd_143
    · exact hy _ wd_31
    · exact hy _ wd_48
    · exact hy _ wd_191
    · exact hy _ wd_149
    · exact hy _ wd_19
    · exact hy _ wd_817
  have hk : ∀ ci : Nat, ∃ q : ClassId × (Nat → Nat), ci < 8 → u_Kn s (yCn ci) (yTab ci) (yNf ci) q.1 q.2 := by
    intro ci
    by_cases h : ci < 8
    · obtain ⟨cC, iS, h2⟩ := u_known (C := yCn ci) (T := yTab ci) (N := yNf ci) hy (yIn h) (hin ci h)
      exact ⟨(cC, iS), fun _ => h2⟩
    · exact ⟨(Classical.choice ⟨0⟩, fun _ => 0), fun z => absurd z h⟩
  obtain ⟨fq, hfq⟩ := Classical.axiomOfChoice hk
  obtain ⟨c0, k0, comp0, a1, a2, a3⟩ := Cond.arrayClass_spec (hy _ wd_46)
  obtain ⟨p1, c1, k1, b1, b2, b3, b4, b5⟩ := Cond.arrayOver_spec (hts _ wl_27)
  obtain ⟨p2, c2, k2, d1, d2, d3, d4, d5⟩ := Cond.arrayOver_spec (hts _ wl_190)
  refine ⟨(fun c => (fq c).1, fun c => (fq c).2), fun t => if t = 0 then c0 else if t = 1 then c1 else c2, fun c q hq => ?_, fun t q hq => ?_⟩
  · have hc : c < 8 := (List.getElem?_eq_some_iff.mp hq).1
    rw [yCl_at hc] at hq
    cases hq
    exact hfq c hc
  · have ht : t < 3 := (List.getElem?_eq_some_iff.mp hq).1
    rcases (show t = 0 ∨ t = 1 ∨ t = 2 by omega) with rfl | rfl | rfl
    · cases hq
      exact ⟨fun n z => ⟨fun k h => (by cases h), k0, a2, comp0, a3⟩, a1⟩
    · cases hq
      exact ⟨fun n z => ⟨fun k h => (by cases h), k1, b3, p1, b4⟩, k1, p1, b3, b4, b1, b5⟩
    · cases hq
      exact ⟨fun n z => ⟨fun k h => (by cases h), k2, d3, p2, d4⟩, k2, p2, d3, d4, d1, d5⟩
