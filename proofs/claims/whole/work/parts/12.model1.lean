set_option maxRecDepth 100000 in
def b_X8_all (K : yK) (M : yM) (t : Nat) : Option Int32 := (if gO K t 7 = true then (some (((1 : Int32) <<< ((M t 0) &&& 31)) - (1 : Int32))) else none)
set_option maxHeartbeats 4000000 in
set_option maxRecDepth 100000 in
theorem m_X8_all (K : yK) (M : yM) (t : Nat) : yMet yX8_all cX8_all 1 (Option.some Jvm.ClassFile.FieldType.int) rm_X8_all K M [.ref t] (b_X8_all K M t) (yFi K M) := by
  refine yM_intro (by decide) (Nat.le_of_ble_eq_true rfl) (fun X r h C E => ?_)
  replace C : yCx X cX8_all RX8 "all" rm_X8_all 1 := C
  show Y X K M 0 0 0 [(0, .ref t)] []
  unfold b_X8_all at h
  refine y_iconst C dX8_all_0 kc_1 ?_
  refine y_aload_n C dX8_all_1 rfl ?_
  obtain ⟨g1, h⟩ := gd h
  refine y_geti C fl_X8_87 g1 dX8_all_2 ?_
  refine y_ishl C dX8_all_5 ?_
  refine y_iconst C dX8_all_6 kc_1 ?_
  refine y_isub C dX8_all_7 ?_
  have e0 := Option.some.inj h
  subst e0
  exact y_iret C E (Nat.zero_le _) (Nat.zero_le _) dX8_all_8
set_option maxRecDepth 100000 in
def b_X8_two (K : yK) (M : yM) (x1 : Int32) (x2 : Int32) (x3 : Int32) : Option Int32 := (if x1 = (11 : Int32) then (if x2 = 0 then (if x3 = 0 then (some (0 : Int32)) else (some (1 : Int32))) else (some (1 : Int32))) else (if x1 = (12 : Int32) then (if x2 = 0 then (some (0 : Int32)) else (if x3 = 0 then (some (0 : Int32)) else (some (1 : Int32)))) else (if x1 = (13 : Int32) then (some (x2 * x3)) else (if x1 = (14 : Int32) then (if x3 ≤ x2 then (some (0 : Int32)) else (some (1 : Int32))) else (if x1 = (15 : Int32) then (if x2 = x3 then (some (1 : Int32)) else (some (0 : Int32))) else (if x1 = (16 : Int32) then (some (x2 + x3)) else (if x1 = (17 : Int32) then (some (x2 - x3)) else (some (x2 * x3)))))))))
set_option maxHeartbeats 4000000 in
set_option maxRecDepth 100000 in
theorem m_X8_two (K : yK) (M : yM) (x1 : Int32) (x2 : Int32) (x3 : Int32) : yMet yX8_two cX8_two 3 (Option.some Jvm.ClassFile.FieldType.int) rm_X8_two K M [.int x1, .int x2, .int x3] (b_X8_two K M x1 x2 x3) (yFi K M) := by
  refine yM_intro (by decide) (Nat.le_of_ble_eq_true rfl) (fun X r h C E => ?_)
  replace C : yCx X cX8_two RX8 "two" rm_X8_two 3 := C
  show Y X K M 0 0 0 [(0, .int x1), (1, .int x2), (2, .int x3)] []
  unfold b_X8_two at h
  refine y_iload_n C dX8_two_0 rfl ?_
  rcases Classical.em (x1 = (11 : Int32)) with c1 | c1
  · have h := itT c1 h
    refine y_tabIn C dX8_two_1 (off := 43) (tgt := 44) (by rw [c1]; decide) (by rw [c1]; decide) (by rw [c1]; rfl) rfl ?_
    refine y_iload_n C dX8_two_44 rfl ?_
    refine y_if_ne C dX8_two_45 (tgt := 52) rfl (fun c8 => ?_) (fun c8 => ?_)
    · have h := itF c8 h
      refine y_iconst C dX8_two_52 kc_1 ?_
      refine y_goto C dX8_two_53 (tgt := 57) rfl ?_
      have e0 := Option.some.inj h
      subst e0
      exact y_iret C E (Nat.zero_le _) (Nat.zero_le _) dX8_two_57
    · have h := itT c8 h
      refine y_iload_n C dX8_two_48 rfl ?_
      refine y_if_eq C dX8_two_49 (tgt := 56) rfl (fun c9 => ?_) (fun c9 => ?_)
      · have h := itT c9 h
        refine y_iconst C dX8_two_56 kc_0 ?_
        have e0 := Option.some.inj h
        subst e0
        exact y_iret C E (Nat.zero_le _) (Nat.zero_le _) dX8_two_57
      · have h := itF c9 h
        refine y_iconst C dX8_two_52 kc_1 ?_
        refine y_goto C dX8_two_53 (tgt := 57) rfl ?_
        have e0 := Option.some.inj h
        subst e0
        exact y_iret C E (Nat.zero_le _) (Nat.zero_le _) dX8_two_57
  replace h := itF c1 h
  rcases Classical.em (x1 = (12 : Int32)) with c2 | c2
  · have h := itT c2 h
    refine y_tabIn C dX8_two_1 (off := 57) (tgt := 58) (by rw [c2]; decide) (by rw [c2]; decide) (by rw [c2]; rfl) rfl ?_
    refine y_iload_n C dX8_two_58 rfl ?_
    refine y_if_eq C dX8_two_59 (tgt := 70) rfl (fun c10 => ?_) (fun c10 => ?_)
    · have h := itT c10 h
      refine y_iconst C dX8_two_70 kc_0 ?_
      have e0 := Option.some.inj h
      subst e0
      exact y_iret C E (Nat.zero_le _) (Nat.zero_le _) dX8_two_71
    · have h := itF c10 h
      refine y_iload_n C dX8_two_62 rfl ?_
      refine y_if_eq C dX8_two_63 (tgt := 70) rfl (fun c11 => ?_) (fun c11 => ?_)
      · have h := itT c11 h
        refine y_iconst C dX8_two_70 kc_0 ?_
        have e0 := Option.some.inj h
        subst e0
        exact y_iret C E (Nat.zero_le _) (Nat.zero_le _) dX8_two_71
      · have h := itF c11 h
        refine y_iconst C dX8_two_66 kc_1 ?_
        refine y_goto C dX8_two_67 (tgt := 71) rfl ?_
        have e0 := Option.some.inj h
        subst e0
        exact y_iret C E (Nat.zero_le _) (Nat.zero_le _) dX8_two_71
  replace h := itF c2 h
  rcases Classical.em (x1 = (13 : Int32)) with c3 | c3
  · have h := itT c3 h
    refine y_tabIn C dX8_two_1 (off := 101) (tgt := 102) (by rw [c3]; decide) (by rw [c3]; decide) (by rw [c3]; rfl) rfl ?_
    refine y_iload_n C dX8_two_102 rfl ?_
    refine y_iload_n C dX8_two_103 rfl ?_
    refine y_imul C dX8_two_104 ?_
    have e0 := Option.some.inj h
    subst e0
    exact y_iret C E (Nat.zero_le _) (Nat.zero_le _) dX8_two_105
  replace h := itF c3 h
  rcases Classical.em (x1 = (14 : Int32)) with c4 | c4
  · have h := itT c4 h
    refine y_tabIn C dX8_two_1 (off := 71) (tgt := 72) (by rw [c4]; decide) (by rw [c4]; decide) (by rw [c4]; rfl) rfl ?_
    refine y_iload_n C dX8_two_72 rfl ?_
    refine y_iload_n C dX8_two_73 rfl ?_
    refine y_icmp_ge C dX8_two_74 (tgt := 81) rfl (fun c12 => ?_) (fun c12 => ?_)
    · have h := itT c12 h
      refine y_iconst C dX8_two_81 kc_0 ?_
      have e0 := Option.some.inj h
      subst e0
      exact y_iret C E (Nat.zero_le _) (Nat.zero_le _) dX8_two_82
    · have h := itF c12 h
      refine y_iconst C dX8_two_77 kc_1 ?_
      refine y_goto C dX8_two_78 (tgt := 82) rfl ?_
      have e0 := Option.some.inj h
      subst e0
      exact y_iret C E (Nat.zero_le _) (Nat.zero_le _) dX8_two_82
  replace h := itF c4 h
  rcases Classical.em (x1 = (15 : Int32)) with c5 | c5
  · have h := itT c5 h
    refine y_tabIn C dX8_two_1 (off := 82) (tgt := 83) (by rw [c5]; decide) (by rw [c5]; decide) (by rw [c5]; rfl) rfl ?_
    refine y_iload_n C dX8_two_83 rfl ?_
    refine y_iload_n C dX8_two_84 rfl ?_
    refine y_icmp_ne C dX8_two_85 (tgt := 92) rfl (fun c13 => ?_) (fun c13 => ?_)
    · have h := itF c13 h
      refine y_iconst C dX8_two_92 kc_0 ?_
      have e0 := Option.some.inj h
      subst e0
      exact y_iret C E (Nat.zero_le _) (Nat.zero_le _) dX8_two_93
    · have h := itT c13 h
      refine y_iconst C dX8_two_88 kc_1 ?_
      refine y_goto C dX8_two_89 (tgt := 93) rfl ?_
      have e0 := Option.some.inj h
      subst e0
      exact y_iret C E (Nat.zero_le _) (Nat.zero_le _) dX8_two_93
  replace h := itF c5 h
  rcases Classical.em (x1 = (16 : Int32)) with c6 | c6
  · have h := itT c6 h
    refine y_tabIn C dX8_two_1 (off := 93) (tgt := 94) (by rw [c6]; decide) (by rw [c6]; decide) (by rw [c6]; rfl) rfl ?_
    refine y_iload_n C dX8_two_94 rfl ?_
    refine y_iload_n C dX8_two_95 rfl ?_
    refine y_iadd C dX8_two_96 ?_
    have e0 := Option.some.inj h
    subst e0
    exact y_iret C E (Nat.zero_le _) (Nat.zero_le _) dX8_two_97
  replace h := itF c6 h
  rcases Classical.em (x1 = (17 : Int32)) with c7 | c7
  · have h := itT c7 h
    refine y_tabIn C dX8_two_1 (off := 97) (tgt := 98) (by rw [c7]; decide) (by rw [c7]; decide) (by rw [c7]; rfl) rfl ?_
    refine y_iload_n C dX8_two_98 rfl ?_
    refine y_iload_n C dX8_two_99 rfl ?_
    refine y_isub C dX8_two_100 ?_
    have e0 := Option.some.inj h
    subst e0
    exact y_iret C E (Nat.zero_le _) (Nat.zero_le _) dX8_two_101
  replace h := itF c7 h
  refine y_tabOut C dX8_two_1 (tgt := 102) (by have q0 : (x1).toInt ≠ 11 := yNe c1; have q1 : (x1).toInt ≠ 12 := yNe c2; have q2 : (x1).toInt ≠ 13 := yNe c3; have q3 : (x1).toInt ≠ 14 := yNe c4; have q4 : (x1).toInt ≠ 15 := yNe c5; have q5 : (x1).toInt ≠ 16 := yNe c6; have q6 : (x1).toInt ≠ 17 := yNe c7; omega) rfl ?_
  refine y_iload_n C dX8_two_102 rfl ?_
  refine y_iload_n C dX8_two_103 rfl ?_
  refine y_imul C dX8_two_104 ?_
  have e0 := Option.some.inj h
  subst e0
  exact y_iret C E (Nat.zero_le _) (Nat.zero_le _) dX8_two_105
def b_X8_says_16 (K : yK) (t : Nat) (x_1 : Int32) : Nat → yM → Int32 → Int32 → Option yM
  | 0, _, _, _ => none
  | n + 1, M, u16_2, u16_3 => (if gO K t 7 = true then (Option.bind (K.2.2 t 14) fun q2 => (if gA K q2 ((((4 : Int32) * (M t 16)) + x_1) + (1 : Int32)) = true then (if (M q2 (((((4 : Int32) * (M t 16)) + x_1) + (1 : Int32))).toNatClampNeg) ≤ u16_3 then (some M) else (Option.bind (K.2.2 t 13) fun q5 => (if gA K q5 (((200 : Int32) * (M t 16)) + u16_3) = true then (Option.bind (some (M q5 ((((200 : Int32) * (M t 16)) + u16_3)).toNatClampNeg)) fun v7 => (if (100000 : Int32) ≤ v7 then (Option.bind (K.2.2 t 37) fun q9 => (Option.bind (if (11 : Int32) ≤ v7 then (some (v7 - (100000 : Int32))) else (Option.bind (K.2.2 t 38) fun q12 => (if gA K q12 v7 = true then (some (M q12 (v7).toNatClampNeg)) else none))) fun j11 => (if gA K q9 u16_2 = true then (Option.bind (some (yS M q9 (u16_2).toNatClampNeg j11)) fun M15 => (Option.bind (some (u16_2 + (1 : Int32))) fun v16 => (Option.bind (some (u16_3 + (1 : Int32))) fun v17 => (b_X8_says_16 K t x_1 n M15 v16 v17)))) else none))) else (Option.bind (if (11 : Int32) ≤ v7 then (if v7 = (13 : Int32) then (Option.bind (K.2.2 t 37) fun q31 => (if gA K q31 (u16_2 - (1 : Int32)) = true then (Option.bind (if (M q31 ((u16_2 - (1 : Int32))).toNatClampNeg) = 0 then (some true) else (some false)) fun j34 => (Option.bind (some (yS M q31 ((u16_2 - (1 : Int32))).toNatClampNeg (bI j34))) fun M35 => (some (u16_2, M35)))) else none)) else (if v7 = (19 : Int32) then (Option.bind (K.2.2 t 37) fun q28 => (if gA K q28 (u16_2 - (1 : Int32)) = true then (Option.bind (some (yS M q28 ((u16_2 - (1 : Int32))).toNatClampNeg (-(M q28 ((u16_2 - (1 : Int32))).toNatClampNeg)))) fun M30 => (some (u16_2, M30))) else none)) else (Option.bind (some (u16_2 + (-1 : Int32))) fun v22 => (Option.bind (K.2.2 t 37) fun q23 => (if gA K q23 (v22 - (1 : Int32)) = true then (if gA K q23 v22 = true then (Option.bind (b_X8_two K M v7 ((M q23 ((v22 - (1 : Int32))).toNatClampNeg)) ((M q23 (v22).toNatClampNeg))) fun r26 => (Option.bind (some (yS M q23 ((v22 - (1 : Int32))).toNatClampNeg r26)) fun M27 => (some (v22, M27)))) else none) else none))))) else (Option.bind (K.2.2 t 37) fun q36 => (Option.bind (if (11 : Int32) ≤ v7 then (some (v7 - (100000 : Int32))) else (Option.bind (K.2.2 t 38) fun q39 => (if gA K q39 v7 = true then (some (M q39 (v7).toNatClampNeg)) else none))) fun j38 => (if gA K q36 u16_2 = true then (Option.bind (some (yS M q36 (u16_2).toNatClampNeg j38)) fun M42 => (Option.bind (some (u16_2 + (1 : Int32))) fun v43 => (some (v43, M42)))) else none)))) fun j19 => (Option.bind (some (u16_3 + (1 : Int32))) fun v44 => (b_X8_says_16 K t x_1 n j19.2 j19.1 v44))))) else none))) else none)) else none)
set_option maxHeartbeats 4000000 in
set_option maxRecDepth 100000 in
theorem l_X8_says_16 {X : yX} {K : yK} {t : Nat} {x_1 : Int32} (C : yCx X cX8_says RX8 "says" rm_X8_says 5) : ∀ (n : Nat) (M : yM) (u16_2 : Int32) (u16_3 : Int32) (x : yM), b_X8_says_16 K t x_1 n M u16_2 u16_3 = some x → ∀ (hX : Y X K x 0 0 197 [(0, .ref t)] []), Y X K M 0 0 16 [(0, .ref t), (1, .int x_1), (2, .int u16_2), (3, .int u16_3)] [] := by
  intro n
  induction n with
  | zero =>
    intro M u16_2 u16_3 x h
    exact nomatch (show (none : Option _) = some x from h)
  | succ n ih =>
    intro M u16_2 u16_3 x h hX
    rw [b_X8_says_16] at h
    refine y_iload_n C dX8_says_16 rfl ?_
    refine y_aload_n C dX8_says_17 rfl ?_
    obtain ⟨g1, h⟩ := gd h
    obtain ⟨q2, hq2, h⟩ := ob h
    refine y_getr C fl_X8_32 g1 hq2 dX8_says_18 ?_
    refine y_iconst C dX8_says_21 kc_4 ?_
    refine y_aload_n C dX8_says_22 rfl ?_
    refine y_geti C fl_X8_116 g1 dX8_says_23 ?_
    refine y_imul C dX8_says_26 ?_
    refine y_iload_n C dX8_says_27 rfl ?_
    refine y_iadd C dX8_says_28 ?_
    refine y_iconst C dX8_says_29 kc_1 ?_
    refine y_iadd C dX8_says_30 ?_
    obtain ⟨g3, h⟩ := gd h
    refine y_iald C g3 dX8_says_31 ?_
    refine y_icmp_ge C dX8_says_32 (tgt := 197) rfl (fun c4 => ?_) (fun c4 => ?_)
    · have h := itT c4 h
      have e0 := Option.some.inj h
      subst e0
      exact y_sel [0] rfl hX
    · have h := itF c4 h
      refine y_aload_n C dX8_says_35 rfl ?_
      obtain ⟨q5, hq5, h⟩ := ob h
      refine y_getr C fl_X8_29 g1 hq5 dX8_says_36 ?_
      refine y_sipush C dX8_says_39 ks_200 ?_
      refine y_aload_n C dX8_says_42 rfl ?_
      refine y_geti C fl_X8_116 g1 dX8_says_43 ?_
      refine y_imul C dX8_says_46 ?_
      refine y_iload_n C dX8_says_47 rfl ?_
      refine y_iadd C dX8_says_48 ?_
      obtain ⟨g6, h⟩ := gd h
      refine y_iald C g6 dX8_says_49 ?_
      obtain ⟨v7, ev7, h⟩ := ob h
      have ev7 := Option.some.inj ev7
      refine y_istore C dX8_says_50 (by decide) (L' := [(4, .int v7), (0, .ref t), (1, .int x_1), (2, .int u16_2), (3, .int u16_3)]) (by subst ev7; rfl) ?_
      refine y_iload C dX8_says_52 rfl ?_
      refine y_ldc C wd_841 dX8_says_54 ?_
      refine y_icmp_ge C dX8_says_56 (tgt := 66) rfl (fun c8 => ?_) (fun c8 => ?_)
      · have h := itT c8 h
        refine y_aload_n C dX8_says_66 rfl ?_
        obtain ⟨q9, hq9, h⟩ := ob h
        refine y_getr C fl_X8_62 g1 hq9 dX8_says_67 ?_
        refine y_iload_n C dX8_says_70 rfl ?_
        refine y_iload C dX8_says_71 rfl ?_
        refine y_bipush C dX8_says_73 kb_11 ?_
        obtain ⟨j11, hj11, h⟩ := ob h
        have hJj11 : Y X K M 0 0 93 [(0, .ref t), (1, .int x_1), (2, .int u16_2), (3, .int u16_3)] [.int j11, .int u16_2, .ref q9] := by
          obtain ⟨g14, h⟩ := gd h
          obtain ⟨M15, eM15, h⟩ := ob h
          have eM15 := Option.some.inj eM15
          refine y_iast C g14 dX8_says_93 eM15 ?_
          obtain ⟨v16, ev16, h⟩ := ob h
          have ev16 := Option.some.inj ev16
          refine y_iinc C dX8_says_94 (by decide) rfl (v := v16) (by subst ev16; rfl) (L' := [(2, .int v16), (0, .ref t), (1, .int x_1), (3, .int u16_3)]) rfl ?_
          refine y_goto C dX8_says_97 (tgt := 191) rfl ?_
          obtain ⟨v17, ev17, h⟩ := ob h
          have ev17 := Option.some.inj ev17
          refine y_iinc C dX8_says_191 (by decide) rfl (v := v17) (by subst ev17; rfl) (L' := [(3, .int v17), (2, .int v16), (0, .ref t), (1, .int x_1)]) rfl ?_
          refine y_goto C dX8_says_194 (tgt := 16) rfl ?_
          exact y_sel [0, 1, 2, 3] rfl (ih _ _ _ _  h hX)
        replace h := hj11
        refine y_icmp_ge C dX8_says_75 (tgt := 88) rfl (fun c10 => ?_) (fun c10 => ?_)
        · have h := itT c10 h
          refine y_iload C dX8_says_88 rfl ?_
          refine y_ldc C wd_841 dX8_says_90 ?_
          refine y_isub C dX8_says_92 ?_
          have e0 := Option.some.inj h
          subst e0
          exact y_sel [0, 1, 2, 3] rfl hJj11
        · have h := itF c10 h
          refine y_aload_n C dX8_says_78 rfl ?_
          obtain ⟨q12, hq12, h⟩ := ob h
          refine y_getr C fl_X8_65 g1 hq12 dX8_says_79 ?_
          refine y_iload C dX8_says_82 rfl ?_
          obtain ⟨g13, h⟩ := gd h
          refine y_iald C g13 dX8_says_84 ?_
          refine y_goto C dX8_says_85 (tgt := 93) rfl ?_
          have e0 := Option.some.inj h
          subst e0
          exact y_sel [0, 1, 2, 3] rfl hJj11
      · have h := itF c8 h
        refine y_iload C dX8_says_59 rfl ?_
        refine y_bipush C dX8_says_61 kb_11 ?_
        obtain ⟨j19, hj19, h⟩ := ob h
        have hJj19 : Y X K j19.2 0 0 191 [(2, .int j19.1), (0, .ref t), (1, .int x_1), (3, .int u16_3)] [] := by
          obtain ⟨v44, ev44, h⟩ := ob h
          have ev44 := Option.some.inj ev44
          refine y_iinc C dX8_says_191 (by decide) rfl (v := v44) (by subst ev44; rfl) (L' := [(3, .int v44), (2, .int j19.1), (0, .ref t), (1, .int x_1)]) rfl ?_
          refine y_goto C dX8_says_194 (tgt := 16) rfl ?_
          exact y_sel [0, 1, 2, 3] rfl (ih _ _ _ _  h hX)
        replace h := hj19
        refine y_icmp_ge C dX8_says_63 (tgt := 100) rfl (fun c18 => ?_) (fun c18 => ?_)
        · have h := itT c18 h
          refine y_iload C dX8_says_100 rfl ?_
          refine y_bipush C dX8_says_102 kb_13 ?_
          refine y_icmp_ne C dX8_says_104 (tgt := 134) rfl (fun c20 => ?_) (fun c20 => ?_)
          · have h := itF c20 h
            refine y_iload C dX8_says_134 rfl ?_
            refine y_bipush C dX8_says_136 kb_19 ?_
            refine y_icmp_ne C dX8_says_138 (tgt := 161) rfl (fun c21 => ?_) (fun c21 => ?_)
            · have h := itF c21 h
              obtain ⟨v22, ev22, h⟩ := ob h
              have ev22 := Option.some.inj ev22
              refine y_iinc C dX8_says_161 (by decide) rfl (v := v22) (by subst ev22; rfl) (L' := [(2, .int v22), (4, .int v7), (0, .ref t), (1, .int x_1), (3, .int u16_3)]) rfl ?_
              refine y_aload_n C dX8_says_164 rfl ?_
              obtain ⟨q23, hq23, h⟩ := ob h
              refine y_getr C fl_X8_62 g1 hq23 dX8_says_165 ?_
              refine y_iload_n C dX8_says_168 rfl ?_
              refine y_iconst C dX8_says_169 kc_1 ?_
              refine y_isub C dX8_says_170 ?_
              refine y_iload C dX8_says_171 rfl ?_
              refine y_aload_n C dX8_says_173 rfl ?_
              refine y_getr C fl_X8_62 g1 hq23 dX8_says_174 ?_
              refine y_iload_n C dX8_says_177 rfl ?_
              refine y_iconst C dX8_says_178 kc_1 ?_
              refine y_isub C dX8_says_179 ?_
              obtain ⟨g24, h⟩ := gd h
              refine y_iald C g24 dX8_says_180 ?_
              refine y_aload_n C dX8_says_181 rfl ?_
              refine y_getr C fl_X8_62 g1 hq23 dX8_says_182 ?_
              refine y_iload_n C dX8_says_185 rfl ?_
              obtain ⟨g25, h⟩ := gd h
              refine y_iald C g25 dX8_says_186 ?_
              obtain ⟨r26, hr26, h⟩ := ob h
              refine y_cS C [.int v7, .int (M q23 ((v22 - (1 : Int32))).toNatClampNeg), .int (M q23 (v22).toNatClampNeg)] (m_X8_two K M v7 ((M q23 ((v22 - (1 : Int32))).toNatClampNeg)) ((M q23 (v22).toNatClampNeg))) hr26 cw_X8_195 rfl (by decide) ⟨rfl, rfl⟩ ⟨Nat.zero_le _, Nat.zero_le _⟩ (Nat.le_of_ble_eq_true rfl) rfl rfl rfl dX8_says_187 ?_
              obtain ⟨M27, eM27, h⟩ := ob h
              have eM27 := Option.some.inj eM27
              refine y_iast C g24 dX8_says_190 eM27 ?_
              have e0 := Option.some.inj h
              subst e0
              exact y_sel [2, 0, 1, 3] rfl hJj19
            · have h := itT c21 h
              refine y_aload_n C dX8_says_141 rfl ?_
              obtain ⟨q28, hq28, h⟩ := ob h
              refine y_getr C fl_X8_62 g1 hq28 dX8_says_142 ?_
              refine y_iload_n C dX8_says_145 rfl ?_
              refine y_iconst C dX8_says_146 kc_1 ?_
              refine y_isub C dX8_says_147 ?_
              refine y_aload_n C dX8_says_148 rfl ?_
              refine y_getr C fl_X8_62 g1 hq28 dX8_says_149 ?_
              refine y_iload_n C dX8_says_152 rfl ?_
              refine y_iconst C dX8_says_153 kc_1 ?_
              refine y_isub C dX8_says_154 ?_
              obtain ⟨g29, h⟩ := gd h
              refine y_iald C g29 dX8_says_155 ?_
              refine y_ineg C dX8_says_156 ?_
              obtain ⟨M30, eM30, h⟩ := ob h
              have eM30 := Option.some.inj eM30
              refine y_iast C g29 dX8_says_157 eM30 ?_
              refine y_goto C dX8_says_158 (tgt := 191) rfl ?_
              have e0 := Option.some.inj h
              subst e0
              exact y_sel [2, 0, 1, 3] rfl hJj19
          · have h := itT c20 h
            refine y_aload_n C dX8_says_107 rfl ?_
            obtain ⟨q31, hq31, h⟩ := ob h
            refine y_getr C fl_X8_62 g1 hq31 dX8_says_108 ?_
            refine y_iload_n C dX8_says_111 rfl ?_
            refine y_iconst C dX8_says_112 kc_1 ?_
            refine y_isub C dX8_says_113 ?_
            refine y_aload_n C dX8_says_114 rfl ?_
            refine y_getr C fl_X8_62 g1 hq31 dX8_says_115 ?_
            refine y_iload_n C dX8_says_118 rfl ?_
            refine y_iconst C dX8_says_119 kc_1 ?_
            refine y_isub C dX8_says_120 ?_
            obtain ⟨g32, h⟩ := gd h
            refine y_iald C g32 dX8_says_121 ?_
            obtain ⟨j34, hj34, h⟩ := ob h
            have hJj34 : Y X K M 0 0 130 [(0, .ref t), (1, .int x_1), (2, .int u16_2), (3, .int u16_3)] [.int (bI j34), .int (u16_2 - (1 : Int32)), .ref q31] := by
              obtain ⟨M35, eM35, h⟩ := ob h
              have eM35 := Option.some.inj eM35
              refine y_iast C g32 dX8_says_130 eM35 ?_
              refine y_goto C dX8_says_131 (tgt := 191) rfl ?_
              have e0 := Option.some.inj h
              subst e0
              exact y_sel [2, 0, 1, 3] rfl hJj19
            replace h := hj34
            refine y_if_ne C dX8_says_122 (tgt := 129) rfl (fun c33 => ?_) (fun c33 => ?_)
            · have h := itF c33 h
              refine y_iconst C dX8_says_129 kc_0 ?_
              have e0 := Option.some.inj h
              subst e0
              exact y_sel [0, 1, 2, 3] rfl hJj34
            · have h := itT c33 h
              refine y_iconst C dX8_says_125 kc_1 ?_
              refine y_goto C dX8_says_126 (tgt := 130) rfl ?_
              have e0 := Option.some.inj h
              subst e0
              exact y_sel [0, 1, 2, 3] rfl hJj34
        · have h := itF c18 h
          refine y_aload_n C dX8_says_66 rfl ?_
          obtain ⟨q36, hq36, h⟩ := ob h
          refine y_getr C fl_X8_62 g1 hq36 dX8_says_67 ?_
          refine y_iload_n C dX8_says_70 rfl ?_
          refine y_iload C dX8_says_71 rfl ?_
          refine y_bipush C dX8_says_73 kb_11 ?_
          obtain ⟨j38, hj38, h⟩ := ob h
          have hJj38 : Y X K M 0 0 93 [(0, .ref t), (1, .int x_1), (2, .int u16_2), (3, .int u16_3)] [.int j38, .int u16_2, .ref q36] := by
            obtain ⟨g41, h⟩ := gd h
            obtain ⟨M42, eM42, h⟩ := ob h
            have eM42 := Option.some.inj eM42
            refine y_iast C g41 dX8_says_93 eM42 ?_
            obtain ⟨v43, ev43, h⟩ := ob h
            have ev43 := Option.some.inj ev43
            refine y_iinc C dX8_says_94 (by decide) rfl (v := v43) (by subst ev43; rfl) (L' := [(2, .int v43), (0, .ref t), (1, .int x_1), (3, .int u16_3)]) rfl ?_
            refine y_goto C dX8_says_97 (tgt := 191) rfl ?_
            have e0 := Option.some.inj h
            subst e0
            exact y_sel [2, 0, 1, 3] rfl hJj19
          replace h := hj38
          refine y_icmp_ge C dX8_says_75 (tgt := 88) rfl (fun c37 => ?_) (fun c37 => ?_)
          · have h := itT c37 h
            refine y_iload C dX8_says_88 rfl ?_
            refine y_ldc C wd_841 dX8_says_90 ?_
            refine y_isub C dX8_says_92 ?_
            have e0 := Option.some.inj h
            subst e0
            exact y_sel [0, 1, 2, 3] rfl hJj38
          · have h := itF c37 h
            refine y_aload_n C dX8_says_78 rfl ?_
            obtain ⟨q39, hq39, h⟩ := ob h
            refine y_getr C fl_X8_65 g1 hq39 dX8_says_79 ?_
            refine y_iload C dX8_says_82 rfl ?_
            obtain ⟨g40, h⟩ := gd h
            refine y_iald C g40 dX8_says_84 ?_
            refine y_goto C dX8_says_85 (tgt := 93) rfl ?_
            have e0 := Option.some.inj h
            subst e0
            exact y_sel [0, 1, 2, 3] rfl hJj38
set_option maxRecDepth 100000 in
def b_X8_says (K : yK) (M : yM) (t : Nat) (x1 : Int32) : Option (Int32 × yM) := (if gO K t 7 = true then (Option.bind (K.2.2 t 14) fun q2 => (if gA K q2 (((4 : Int32) * (M t 16)) + x1) = true then (Option.bind (some (M q2 ((((4 : Int32) * (M t 16)) + x1)).toNatClampNeg)) fun v4 => (Option.bind (b_X8_says_16 K t x1 1000 M ((0 : Int32)) v4) fun j5 => (Option.bind (K.2.2 t 37) fun q6 => (if gA K q6 (0 : Int32) = true then (some ((j5 q6 ((0 : Int32)).toNatClampNeg), j5)) else none)))) else none)) else none)
set_option maxHeartbeats 4000000 in
set_option maxRecDepth 100000 in
theorem m_X8_says (K : yK) (M : yM) (t : Nat) (x1 : Int32) : yMet yX8_says cX8_says 5 (Option.some Jvm.ClassFile.FieldType.int) rm_X8_says K M [.ref t, .int x1] (b_X8_says K M t x1) (yGi K) := by
  refine yM_intro (by decide) (Nat.le_of_ble_eq_true rfl) (fun X r h C E => ?_)
  replace C : yCx X cX8_says RX8 "says" rm_X8_says 5 := C
  show Y X K M 0 0 0 [(0, .ref t), (1, .int x1)] []
  unfold b_X8_says at h
  refine y_iconst C dX8_says_0 kc_0 ?_
  refine y_istore_n C dX8_says_1 (by decide) (L' := [(2, .int (0)), (0, .ref t), (1, .int x1)]) rfl ?_
  refine y_aload_n C dX8_says_2 rfl ?_
  obtain ⟨g1, h⟩ := gd h
  obtain ⟨q2, hq2, h⟩ := ob h
  refine y_getr C fl_X8_32 g1 hq2 dX8_says_3 ?_
  refine y_iconst C dX8_says_6 kc_4 ?_
  refine y_aload_n C dX8_says_7 rfl ?_
  refine y_geti C fl_X8_116 g1 dX8_says_8 ?_
  refine y_imul C dX8_says_11 ?_
  refine y_iload_n C dX8_says_12 rfl ?_
  refine y_iadd C dX8_says_13 ?_
  obtain ⟨g3, h⟩ := gd h
  refine y_iald C g3 dX8_says_14 ?_
  obtain ⟨v4, ev4, h⟩ := ob h
  have ev4 := Option.some.inj ev4
  refine y_istore_n C dX8_says_15 (by decide) (L' := [(3, .int v4), (2, .int (0)), (0, .ref t), (1, .int x1)]) (by subst ev4; rfl) ?_
  obtain ⟨j5, hj5, h⟩ := ob h
  refine y_sel [0, 1, 2, 3] rfl (l_X8_says_16 C 1000 _ _ _ _ hj5 ?_)
  refine y_aload_n C dX8_says_197 rfl ?_
  obtain ⟨q6, hq6, h⟩ := ob h
  refine y_getr C fl_X8_62 g1 hq6 dX8_says_198 ?_
  refine y_iconst C dX8_says_201 kc_0 ?_
  obtain ⟨g7, h⟩ := gd h
  refine y_iald C g7 dX8_says_202 ?_
  have e0 := Option.some.inj h
  subst e0
  exact y_iret C E (Nat.zero_le _) (Nat.zero_le _) dX8_says_203
set_option maxRecDepth 100000 in
def b_X8_within (K : yK) (M : yM) (x1 : Int32) (x2 : Int32) (x3 : Int32) : Option Int32 := (if x2 ≤ x1 then (if x1 ≤ x3 then (some x1) else (some x3)) else (some x2))
set_option maxHeartbeats 4000000 in
set_option maxRecDepth 100000 in
theorem m_X8_within (K : yK) (M : yM) (x1 : Int32) (x2 : Int32) (x3 : Int32) : yMet yX8_within cX8_within 3 (Option.some Jvm.ClassFile.FieldType.int) rm_X8_within K M [.int x1, .int x2, .int x3] (b_X8_within K M x1 x2 x3) (yFi K M) := by
  refine yM_intro (by decide) (Nat.le_of_ble_eq_true rfl) (fun X r h C E => ?_)
  replace C : yCx X cX8_within RX8 "within" rm_X8_within 3 := C
  show Y X K M 0 0 0 [(0, .int x1), (1, .int x2), (2, .int x3)] []
  unfold b_X8_within at h
  refine y_iload_n C dX8_within_0 rfl ?_
  refine y_iload_n C dX8_within_1 rfl ?_
  refine y_icmp_ge C dX8_within_2 (tgt := 9) rfl (fun c1 => ?_) (fun c1 => ?_)
  · have h := itT c1 h
    refine y_iload_n C dX8_within_9 rfl ?_
    refine y_iload_n C dX8_within_10 rfl ?_
    refine y_icmp_le C dX8_within_11 (tgt := 18) rfl (fun c2 => ?_) (fun c2 => ?_)
    · have h := itT c2 h
      refine y_iload_n C dX8_within_18 rfl ?_
      have e0 := Option.some.inj h
      subst e0
      exact y_iret C E (Nat.zero_le _) (Nat.zero_le _) dX8_within_19
    · have h := itF c2 h
      refine y_iload_n C dX8_within_14 rfl ?_
      refine y_goto C dX8_within_15 (tgt := 19) rfl ?_
      have e0 := Option.some.inj h
      subst e0
      exact y_iret C E (Nat.zero_le _) (Nat.zero_le _) dX8_within_19
  · have h := itF c1 h
    refine y_iload_n C dX8_within_5 rfl ?_
    refine y_goto C dX8_within_6 (tgt := 19) rfl ?_
    have e0 := Option.some.inj h
    subst e0
    exact y_iret C E (Nat.zero_le _) (Nat.zero_le _) dX8_within_19
set_option maxRecDepth 100000 in
def b_X8_asksOf (K : yK) (M : yM) (t : Nat) (x1 : Int32) (x2 : Int32) (x3 : Int32) (x4 : Int32) : Option (Int32 × yM) := (if gO K t 7 = true then (Option.bind (K.2.2 t 38) fun q2 => (if gA K q2 (0 : Int32) = true then (Option.bind (some (yS M q2 ((0 : Int32)).toNatClampNeg (M t 7))) fun M4 => (Option.bind (K.2.2 t 2) fun q5 => (if gA K q5 x2 = true then (if gA K q2 (1 : Int32) = true then (Option.bind (some (yS M4 q2 ((1 : Int32)).toNatClampNeg (M4 q5 (x2).toNatClampNeg))) fun M8 => (Option.bind (K.2.2 t 3) fun q9 => (if gA K q9 ((3 : Int32) * x2) = true then (if gA K q2 (2 : Int32) = true then (Option.bind (some (yS M8 q2 ((2 : Int32)).toNatClampNeg (M8 q9 (((3 : Int32) * x2)).toNatClampNeg))) fun M12 => (if gA K q2 (3 : Int32) = true then (Option.bind (some (yS M12 q2 ((3 : Int32)).toNatClampNeg x2)) fun M14 => (if gA K q2 (4 : Int32) = true then (Option.bind (some (yS M14 q2 ((4 : Int32)).toNatClampNeg x3)) fun M16 => (if gA K q2 (5 : Int32) = true then (Option.bind (some (yS M16 q2 ((5 : Int32)).toNatClampNeg x4)) fun M18 => (Option.bind (b_X8_says K M18 t x1) fun r19 => (if x1 = (1 : Int32) then (if r19.1 = 0 then (some ((0 : Int32), r19.2)) else (some ((1 : Int32), r19.2))) else (Option.bind (b_X8_within K r19.2 r19.1 ((0 : Int32)) ((99 : Int32))) fun r21 => (some (r21, r19.2)))))) else none)) else none)) else none)) else none) else none))) else none) else none))) else none)) else none)
set_option maxHeartbeats 4000000 in
set_option maxRecDepth 100000 in
theorem m_X8_asksOf (K : yK) (M : yM) (t : Nat) (x1 : Int32) (x2 : Int32) (x3 : Int32) (x4 : Int32) : yMet yX8_asksOf cX8_asksOf 6 (Option.some Jvm.ClassFile.FieldType.int) rm_X8_asksOf K M [.ref t, .int x1, .int x2, .int x3, .int x4] (b_X8_asksOf K M t x1 x2 x3 x4) (yGi K) := by
  refine yM_intro (by decide) (Nat.le_of_ble_eq_true rfl) (fun X r h C E => ?_)
  replace C : yCx X cX8_asksOf RX8 "asksOf" rm_X8_asksOf 6 := C
  show Y X K M 0 0 0 [(0, .ref t), (1, .int x1), (2, .int x2), (3, .int x3), (4, .int x4)] []
  unfold b_X8_asksOf at h
  refine y_aload_n C dX8_asksOf_0 rfl ?_
  obtain ⟨g1, h⟩ := gd h
  obtain ⟨q2, hq2, h⟩ := ob h
  refine y_getr C fl_X8_65 g1 hq2 dX8_asksOf_1 ?_
  refine y_iconst C dX8_asksOf_4 kc_0 ?_
  refine y_aload_n C dX8_asksOf_5 rfl ?_
  refine y_geti C fl_X8_107 g1 dX8_asksOf_6 ?_
  obtain ⟨g3, h⟩ := gd h
  obtain ⟨M4, eM4, h⟩ := ob h
  have eM4 := Option.some.inj eM4
  refine y_iast C g3 dX8_asksOf_9 eM4 ?_
  refine y_aload_n C dX8_asksOf_10 rfl ?_
  refine y_getr C fl_X8_65 g1 hq2 dX8_asksOf_11 ?_
  refine y_iconst C dX8_asksOf_14 kc_1 ?_
  refine y_aload_n C dX8_asksOf_15 rfl ?_
  obtain ⟨q5, hq5, h⟩ := ob h
  refine y_getr C fl_X8_13 g1 hq5 dX8_asksOf_16 ?_
  refine y_iload_n C dX8_asksOf_19 rfl ?_
  obtain ⟨g6, h⟩ := gd h
  refine y_iald C g6 dX8_asksOf_20 ?_
  obtain ⟨g7, h⟩ := gd h
  obtain ⟨M8, eM8, h⟩ := ob h
  have eM8 := Option.some.inj eM8
  refine y_iast C g7 dX8_asksOf_21 eM8 ?_
  refine y_aload_n C dX8_asksOf_22 rfl ?_
  refine y_getr C fl_X8_65 g1 hq2 dX8_asksOf_23 ?_
  refine y_iconst C dX8_asksOf_26 kc_2 ?_
  refine y_aload_n C dX8_asksOf_27 rfl ?_
  obtain ⟨q9, hq9, h⟩ := ob h
  refine y_getr C fl_X8_16 g1 hq9 dX8_asksOf_28 ?_
  refine y_iconst C dX8_asksOf_31 kc_3 ?_
  refine y_iload_n C dX8_asksOf_32 rfl ?_
  refine y_imul C dX8_asksOf_33 ?_
  obtain ⟨g10, h⟩ := gd h
  refine y_iald C g10 dX8_asksOf_34 ?_
  obtain ⟨g11, h⟩ := gd h
  obtain ⟨M12, eM12, h⟩ := ob h
  have eM12 := Option.some.inj eM12
  refine y_iast C g11 dX8_asksOf_35 eM12 ?_
  refine y_aload_n C dX8_asksOf_36 rfl ?_
  refine y_getr C fl_X8_65 g1 hq2 dX8_asksOf_37 ?_
  refine y_iconst C dX8_asksOf_40 kc_3 ?_
  refine y_iload_n C dX8_asksOf_41 rfl ?_
  obtain ⟨g13, h⟩ := gd h
  obtain ⟨M14, eM14, h⟩ := ob h
  have eM14 := Option.some.inj eM14
  refine y_iast C g13 dX8_asksOf_42 eM14 ?_
  refine y_aload_n C dX8_asksOf_43 rfl ?_
  refine y_getr C fl_X8_65 g1 hq2 dX8_asksOf_44 ?_
  refine y_iconst C dX8_asksOf_47 kc_4 ?_
  refine y_iload_n C dX8_asksOf_48 rfl ?_
  obtain ⟨g15, h⟩ := gd h
  obtain ⟨M16, eM16, h⟩ := ob h
  have eM16 := Option.some.inj eM16
  refine y_iast C g15 dX8_asksOf_49 eM16 ?_
  refine y_aload_n C dX8_asksOf_50 rfl ?_
  refine y_getr C fl_X8_65 g1 hq2 dX8_asksOf_51 ?_
  refine y_iconst C dX8_asksOf_54 kc_5 ?_
  refine y_iload C dX8_asksOf_55 rfl ?_
  obtain ⟨g17, h⟩ := gd h
  obtain ⟨M18, eM18, h⟩ := ob h
  have eM18 := Option.some.inj eM18
  refine y_iast C g17 dX8_asksOf_57 eM18 ?_
  refine y_aload_n C dX8_asksOf_58 rfl ?_
  refine y_iload_n C dX8_asksOf_59 rfl ?_
  obtain ⟨r19, hr19, h⟩ := ob h
  refine y_cV C [.int x1] (m_X8_says K M18 t x1) hr19 g1 cw_X8_198 rfl (by decide) ⟨rfl, rfl⟩ ⟨Nat.zero_le _, Nat.zero_le _⟩ (Nat.le_of_ble_eq_true rfl) rfl rfl rfl dX8_asksOf_60 ?_
  refine y_istore C dX8_asksOf_63 (by decide) (L' := [(5, .int r19.1), (0, .ref t), (1, .int x1), (2, .int x2), (3, .int x3), (4, .int x4)]) rfl ?_
  refine y_iload_n C dX8_asksOf_65 rfl ?_
  refine y_iconst C dX8_asksOf_66 kc_1 ?_
  refine y_icmp_ne C dX8_asksOf_67 (tgt := 83) rfl (fun c20 => ?_) (fun c20 => ?_)
  · have h := itF c20 h
    refine y_iload C dX8_asksOf_83 rfl ?_
    refine y_iconst C dX8_asksOf_85 kc_0 ?_
    refine y_bipush C dX8_asksOf_86 kb_99 ?_
    obtain ⟨r21, hr21, h⟩ := ob h
    refine y_cS C [.int r19.1, .int (0 : Int32), .int (99 : Int32)] (m_X8_within K r19.2 r19.1 ((0 : Int32)) ((99 : Int32))) hr21 cw_X8_122 rfl (by decide) ⟨rfl, rfl⟩ ⟨Nat.zero_le _, Nat.zero_le _⟩ (Nat.le_of_ble_eq_true rfl) rfl rfl rfl dX8_asksOf_88 ?_
    have e0 := Option.some.inj h
    subst e0
    exact y_iret C E (Nat.zero_le _) (Nat.zero_le _) dX8_asksOf_91
  · have h := itT c20 h
    refine y_iload C dX8_asksOf_70 rfl ?_
    refine y_if_ne C dX8_asksOf_72 (tgt := 79) rfl (fun c22 => ?_) (fun c22 => ?_)
    · have h := itF c22 h
      refine y_iconst C dX8_asksOf_79 kc_1 ?_
      refine y_goto C dX8_asksOf_80 (tgt := 91) rfl ?_
      have e0 := Option.some.inj h
      subst e0
      exact y_iret C E (Nat.zero_le _) (Nat.zero_le _) dX8_asksOf_91
    · have h := itT c22 h
      refine y_iconst C dX8_asksOf_75 kc_0 ?_
      refine y_goto C dX8_asksOf_76 (tgt := 91) rfl ?_
      have e0 := Option.some.inj h
      subst e0
      exact y_iret C E (Nat.zero_le _) (Nat.zero_le _) dX8_asksOf_91
set_option maxRecDepth 100000 in
def b_X8_in (K : yK) (M : yM) (x1 : Int32) (x2 : Int32) (x3 : Int32) : Option Bool := (if x1 < x2 then (some false) else (if x3 < x1 then (some false) else (some true)))
set_option maxHeartbeats 4000000 in
set_option maxRecDepth 100000 in
theorem m_X8_in (K : yK) (M : yM) (x1 : Int32) (x2 : Int32) (x3 : Int32) : yMet yX8_in cX8_in 3 (Option.some Jvm.ClassFile.FieldType.boolean) rm_X8_in K M [.int x1, .int x2, .int x3] (b_X8_in K M x1 x2 x3) (yFb K M) := by
  refine yM_intro (by decide) (Nat.le_of_ble_eq_true rfl) (fun X r h C E => ?_)
  replace C : yCx X cX8_in RX8 "in" rm_X8_in 3 := C
  show Y X K M 0 0 0 [(0, .int x1), (1, .int x2), (2, .int x3)] []
  unfold b_X8_in at h
  refine y_iload_n C dX8_in_0 rfl ?_
  refine y_iload_n C dX8_in_1 rfl ?_
  refine y_icmp_lt C dX8_in_2 (tgt := 14) rfl (fun c1 => ?_) (fun c1 => ?_)
  · have h := itT c1 h
    refine y_iconst C dX8_in_14 kc_0 ?_
    have e0 := Option.some.inj h
    subst e0
    exact y_bret (b := false) C E (Nat.zero_le _) (Nat.zero_le _) dX8_in_15
  · have h := itF c1 h
    refine y_iload_n C dX8_in_5 rfl ?_
    refine y_iload_n C dX8_in_6 rfl ?_
    refine y_icmp_gt C dX8_in_7 (tgt := 14) rfl (fun c2 => ?_) (fun c2 => ?_)
    · have h := itT c2 h
      refine y_iconst C dX8_in_14 kc_0 ?_
      have e0 := Option.some.inj h
      subst e0
      exact y_bret (b := false) C E (Nat.zero_le _) (Nat.zero_le _) dX8_in_15
    · have h := itF c2 h
      refine y_iconst C dX8_in_10 kc_1 ?_
      refine y_goto C dX8_in_11 (tgt := 15) rfl ?_
      have e0 := Option.some.inj h
      subst e0
      exact y_bret (b := true) C E (Nat.zero_le _) (Nat.zero_le _) dX8_in_15
set_option maxRecDepth 100000 in
def b_X8_isEntry (K : yK) (M : yM) (t : Nat) (x1 : Int32) : Option Bool := (if gO K t 7 = true then (Option.bind (b_X8_in K M x1 ((0 : Int32)) (((M t 0) - (1 : Int32)))) fun r2 => (some r2)) else none)
set_option maxHeartbeats 4000000 in
set_option maxRecDepth 100000 in
theorem m_X8_isEntry (K : yK) (M : yM) (t : Nat) (x1 : Int32) : yMet yX8_isEntry cX8_isEntry 2 (Option.some Jvm.ClassFile.FieldType.boolean) rm_X8_isEntry K M [.ref t, .int x1] (b_X8_isEntry K M t x1) (yFb K M) := by
  refine yM_intro (by decide) (Nat.le_of_ble_eq_true rfl) (fun X r h C E => ?_)
  replace C : yCx X cX8_isEntry RX8 "isEntry" rm_X8_isEntry 2 := C
  show Y X K M 0 0 0 [(0, .ref t), (1, .int x1)] []
  unfold b_X8_isEntry at h
  refine y_iload_n C dX8_isEntry_0 rfl ?_
  refine y_iconst C dX8_isEntry_1 kc_0 ?_
  refine y_aload_n C dX8_isEntry_2 rfl ?_
  obtain ⟨g1, h⟩ := gd h
  refine y_geti C fl_X8_87 g1 dX8_isEntry_3 ?_
  refine y_iconst C dX8_isEntry_6 kc_1 ?_
  refine y_isub C dX8_isEntry_7 ?_
  obtain ⟨r2, hr2, h⟩ := ob h
  refine y_cS C [.int x1, .int (0 : Int32), .int ((M t 0) - (1 : Int32))] (m_X8_in K M x1 ((0 : Int32)) (((M t 0) - (1 : Int32)))) hr2 cw_X8_90 rfl (by decide) ⟨rfl, rfl⟩ ⟨Nat.zero_le _, Nat.zero_le _⟩ (Nat.le_of_ble_eq_true rfl) rfl rfl rfl dX8_isEntry_8 ?_
  have e0 := Option.some.inj h
  subst e0
  exact y_bret (b := r2) C E (Nat.zero_le _) (Nat.zero_le _) dX8_isEntry_11
set_option maxRecDepth 100000 in
def b_X8_asks (K : yK) (M : yM) (t : Nat) (x1 : Int32) (x2 : Int32) (x3 : Int32) (x4 : Int32) : Option (Int32 × yM) := (Option.bind (b_X8_in K M x1 ((0 : Int32)) ((2 : Int32))) fun r1 => (if r1 = true then (if gO K t 7 = true then (Option.bind (b_X8_isEntry K M t x2) fun r4 => (if r4 = true then (Option.bind (b_X8_in K M x3 ((0 : Int32)) ((12 : Int32))) fun r6 => (if r6 = true then (Option.bind (b_X8_in K M x4 ((0 : Int32)) ((999 : Int32))) fun r8 => (if r8 = true then (Option.bind (b_X8_asksOf K M t x1 x2 x3 x4) fun r10 => (some (r10.1, r10.2))) else (some ((-2 : Int32), M)))) else (some ((-2 : Int32), M)))) else (some ((-2 : Int32), M)))) else none) else (some ((-2 : Int32), M))))
set_option maxHeartbeats 4000000 in
set_option maxRecDepth 100000 in
theorem m_X8_asks (K : yK) (M : yM) (t : Nat) (x1 : Int32) (x2 : Int32) (x3 : Int32) (x4 : Int32) : yMet yX8_asks cX8_asks 5 (Option.some Jvm.ClassFile.FieldType.int) rm_X8_asks K M [.ref t, .int x1, .int x2, .int x3, .int x4] (b_X8_asks K M t x1 x2 x3 x4) (yGi K) := by
  refine yM_intro (by decide) (Nat.le_of_ble_eq_true rfl) (fun X r h C E => ?_)
  replace C : yCx X cX8_asks RX8 "asks" rm_X8_asks 5 := C
  show Y X K M 0 0 0 [(0, .ref t), (1, .int x1), (2, .int x2), (3, .int x3), (4, .int x4)] []
  unfold b_X8_asks at h
  refine y_iload_n C dX8_asks_0 rfl ?_
  refine y_iconst C dX8_asks_1 kc_0 ?_
  refine y_iconst C dX8_asks_2 kc_2 ?_
  obtain ⟨r1, hr1, h⟩ := ob h
  refine y_cS C [.int x1, .int (0 : Int32), .int (2 : Int32)] (m_X8_in K M x1 ((0 : Int32)) ((2 : Int32))) hr1 cw_X8_90 rfl (by decide) ⟨rfl, rfl⟩ ⟨Nat.zero_le _, Nat.zero_le _⟩ (Nat.le_of_ble_eq_true rfl) rfl rfl rfl dX8_asks_3 ?_
  refine y_ifeqB C dX8_asks_6 (tgt := 51) rfl (fun c2 => ?_) (fun c2 => ?_)
  · have h := itFb c2 h
    refine y_bipush C dX8_asks_51 kb_m2 ?_
    have e0 := Option.some.inj h
    subst e0
    exact y_iret C E (Nat.zero_le _) (Nat.zero_le _) dX8_asks_53
  · have h := itT c2 h
    refine y_aload_n C dX8_asks_9 rfl ?_
    refine y_iload_n C dX8_asks_10 rfl ?_
    obtain ⟨g3, h⟩ := gd h
    obtain ⟨r4, hr4, h⟩ := ob h
    refine y_cV C [.int x2] (m_X8_isEntry K M t x2) hr4 g3 cw_X8_201 rfl (by decide) ⟨rfl, rfl⟩ ⟨Nat.zero_le _, Nat.zero_le _⟩ (Nat.le_of_ble_eq_true rfl) rfl rfl rfl dX8_asks_11 ?_
    refine y_ifeqB C dX8_asks_14 (tgt := 51) rfl (fun c5 => ?_) (fun c5 => ?_)
    · have h := itFb c5 h
      refine y_bipush C dX8_asks_51 kb_m2 ?_
      have e0 := Option.some.inj h
      subst e0
      exact y_iret C E (Nat.zero_le _) (Nat.zero_le _) dX8_asks_53
    · have h := itT c5 h
      refine y_iload_n C dX8_asks_17 rfl ?_
      refine y_iconst C dX8_asks_18 kc_0 ?_
      refine y_bipush C dX8_asks_19 kb_12 ?_
      obtain ⟨r6, hr6, h⟩ := ob h
      refine y_cS C [.int x3, .int (0 : Int32), .int (12 : Int32)] (m_X8_in K M x3 ((0 : Int32)) ((12 : Int32))) hr6 cw_X8_90 rfl (by decide) ⟨rfl, rfl⟩ ⟨Nat.zero_le _, Nat.zero_le _⟩ (Nat.le_of_ble_eq_true rfl) rfl rfl rfl dX8_asks_21 ?_
      refine y_ifeqB C dX8_asks_24 (tgt := 51) rfl (fun c7 => ?_) (fun c7 => ?_)
      · have h := itFb c7 h
        refine y_bipush C dX8_asks_51 kb_m2 ?_
        have e0 := Option.some.inj h
        subst e0
        exact y_iret C E (Nat.zero_le _) (Nat.zero_le _) dX8_asks_53
      · have h := itT c7 h
        refine y_iload C dX8_asks_27 rfl ?_
        refine y_iconst C dX8_asks_29 kc_0 ?_
        refine y_sipush C dX8_asks_30 ks_999 ?_
        obtain ⟨r8, hr8, h⟩ := ob h
        refine y_cS C [.int x4, .int (0 : Int32), .int (999 : Int32)] (m_X8_in K M x4 ((0 : Int32)) ((999 : Int32))) hr8 cw_X8_90 rfl (by decide) ⟨rfl, rfl⟩ ⟨Nat.zero_le _, Nat.zero_le _⟩ (Nat.le_of_ble_eq_true rfl) rfl rfl rfl dX8_asks_33 ?_
        refine y_ifeqB C dX8_asks_36 (tgt := 51) rfl (fun c9 => ?_) (fun c9 => ?_)
        · have h := itFb c9 h
          refine y_bipush C dX8_asks_51 kb_m2 ?_
          have e0 := Option.some.inj h
          subst e0
          exact y_iret C E (Nat.zero_le _) (Nat.zero_le _) dX8_asks_53
        · have h := itT c9 h
          refine y_aload_n C dX8_asks_39 rfl ?_
          refine y_iload_n C dX8_asks_40 rfl ?_
          refine y_iload_n C dX8_asks_41 rfl ?_
          refine y_iload_n C dX8_asks_42 rfl ?_
          refine y_iload C dX8_asks_43 rfl ?_
          obtain ⟨r10, hr10, h⟩ := ob h
          refine y_cV C [.int x1, .int x2, .int x3, .int x4] (m_X8_asksOf K M t x1 x2 x3 x4) hr10 g3 cw_X8_204 rfl (by decide) ⟨rfl, rfl⟩ ⟨Nat.zero_le _, Nat.zero_le _⟩ (Nat.le_of_ble_eq_true rfl) rfl rfl rfl dX8_asks_45 ?_
          refine y_goto C dX8_asks_48 (tgt := 53) rfl ?_
          have e0 := Option.some.inj h
          subst e0
          exact y_iret C E (Nat.zero_le _) (Nat.zero_le _) dX8_asks_53
def b_X8_back_36 (K : yK) (t : Nat) : Nat → yM → Int32 → Option yM
  | 0, _, _ => none
  | n + 1, M, u36_1 => (if (36 : Int32) ≤ u36_1 then (some M) else (if gO K t 7 = true then (Option.bind (K.2.2 t 3) fun q3 => (Option.bind (K.2.2 t 21) fun q4 => (if gA K q4 u36_1 = true then (if gA K q3 u36_1 = true then (Option.bind (some (yS M q3 (u36_1).toNatClampNeg (M q4 (u36_1).toNatClampNeg))) fun M7 => (Option.bind (some (u36_1 + (1 : Int32))) fun v8 => (b_X8_back_36 K t n M7 v8))) else none) else none))) else none))
set_option maxHeartbeats 4000000 in
set_option maxRecDepth 100000 in
theorem l_X8_back_36 {X : yX} {K : yK} {t : Nat} (C : yCx X cX8_back RX8 "back" rm_X8_back 2) : ∀ (n : Nat) (M : yM) (u36_1 : Int32) (x : yM), b_X8_back_36 K t n M u36_1 = some x → ∀ (hX : Y X K x 0 0 60 [(0, .ref t)] []), Y X K M 0 0 36 [(0, .ref t), (1, .int u36_1)] [] := by
  intro n
  induction n with
  | zero =>
    intro M u36_1 x h
    exact nomatch (show (none : Option _) = some x from h)
  | succ n ih =>
    intro M u36_1 x h hX
    rw [b_X8_back_36] at h
    refine y_iload_n C dX8_back_36 rfl ?_
    refine y_bipush C dX8_back_37 kb_36 ?_
    refine y_icmp_ge C dX8_back_39 (tgt := 60) rfl (fun c1 => ?_) (fun c1 => ?_)
    · have h := itT c1 h
      have e0 := Option.some.inj h
      subst e0
      exact y_sel [0] rfl hX
    · have h := itF c1 h
      refine y_aload_n C dX8_back_42 rfl ?_
      obtain ⟨g2, h⟩ := gd h
      obtain ⟨q3, hq3, h⟩ := ob h
      refine y_getr C fl_X8_16 g2 hq3 dX8_back_43 ?_
      refine y_iload_n C dX8_back_46 rfl ?_
      refine y_aload_n C dX8_back_47 rfl ?_
      obtain ⟨q4, hq4, h⟩ := ob h
      refine y_getr C fl_X8_35 g2 hq4 dX8_back_48 ?_
      refine y_iload_n C dX8_back_51 rfl ?_
      obtain ⟨g5, h⟩ := gd h
      refine y_iald C g5 dX8_back_52 ?_
      obtain ⟨g6, h⟩ := gd h
      obtain ⟨M7, eM7, h⟩ := ob h
      have eM7 := Option.some.inj eM7
      refine y_iast C g6 dX8_back_53 eM7 ?_
      obtain ⟨v8, ev8, h⟩ := ob h
      have ev8 := Option.some.inj ev8
      refine y_iinc C dX8_back_54 (by decide) rfl (v := v8) (by subst ev8; rfl) (L' := [(1, .int v8), (0, .ref t)]) rfl ?_
      refine y_goto C dX8_back_57 (tgt := 36) rfl ?_
      exact y_sel [0, 1] rfl (ih _ _ _  h hX)
def b_X8_back_62 (K : yK) (t : Nat) : Nat → yM → Int32 → Option yM
  | 0, _, _ => none
  | n + 1, M, u62_1 => (if (6 : Int32) ≤ u62_1 then (some M) else (if gO K t 7 = true then (Option.bind (K.2.2 t 5) fun q3 => (Option.bind (K.2.2 t 22) fun q4 => (if gA K q4 u62_1 = true then (if gA K q3 u62_1 = true then (Option.bind (some (yS M q3 (u62_1).toNatClampNeg (M q4 (u62_1).toNatClampNeg))) fun M7 => (Option.bind (some (u62_1 + (1 : Int32))) fun v8 => (b_X8_back_62 K t n M7 v8))) else none) else none))) else none))
set_option maxHeartbeats 4000000 in
set_option maxRecDepth 100000 in
theorem l_X8_back_62 {X : yX} {K : yK} {t : Nat} (C : yCx X cX8_back RX8 "back" rm_X8_back 2) : ∀ (n : Nat) (M : yM) (u62_1 : Int32) (x : yM), b_X8_back_62 K t n M u62_1 = some x → ∀ (hX : Y X K x 0 0 86 [(0, .ref t)] []), Y X K M 0 0 62 [(0, .ref t), (1, .int u62_1)] [] := by
  intro n
  induction n with
  | zero =>
    intro M u62_1 x h
    exact nomatch (show (none : Option _) = some x from h)
  | succ n ih =>
    intro M u62_1 x h hX
    rw [b_X8_back_62] at h
    refine y_iload_n C dX8_back_62 rfl ?_
    refine y_bipush C dX8_back_63 kb_6 ?_
    refine y_icmp_ge C dX8_back_65 (tgt := 86) rfl (fun c1 => ?_) (fun c1 => ?_)
    · have h := itT c1 h
      have e0 := Option.some.inj h
      subst e0
      exact y_sel [0] rfl hX
    · have h := itF c1 h
      refine y_aload_n C dX8_back_68 rfl ?_
      obtain ⟨g2, h⟩ := gd h
      obtain ⟨q3, hq3, h⟩ := ob h
      refine y_getr C fl_X8_19 g2 hq3 dX8_back_69 ?_
      refine y_iload_n C dX8_back_72 rfl ?_
      refine y_aload_n C dX8_back_73 rfl ?_
      obtain ⟨q4, hq4, h⟩ := ob h
      refine y_getr C fl_X8_38 g2 hq4 dX8_back_74 ?_
      refine y_iload_n C dX8_back_77 rfl ?_
      obtain ⟨g5, h⟩ := gd h
      refine y_iald C g5 dX8_back_78 ?_
      obtain ⟨g6, h⟩ := gd h
      obtain ⟨M7, eM7, h⟩ := ob h
      have eM7 := Option.some.inj eM7
      refine y_iast C g6 dX8_back_79 eM7 ?_
      obtain ⟨v8, ev8, h⟩ := ob h
      have ev8 := Option.some.inj ev8
      refine y_iinc C dX8_back_80 (by decide) rfl (v := v8) (by subst ev8; rfl) (L' := [(1, .int v8), (0, .ref t)]) rfl ?_
      refine y_goto C dX8_back_83 (tgt := 62) rfl ?_
      exact y_sel [0, 1] rfl (ih _ _ _  h hX)
set_option maxRecDepth 100000 in
def b_X8_back (K : yK) (M : yM) (t : Nat) : Option (Int32 × yM) := (if gO K t 7 = true then (if (M t 17) = 0 then (some ((-3 : Int32), M)) else (Option.bind (some (yS M t 0 (M t 18))) fun M3 => (Option.bind (some (yS M3 t 4 (M3 t 19))) fun M4 => (Option.bind (some (yS M4 t 16 (M4 t 20))) fun M5 => (Option.bind (b_X8_back_36 K t 1000 M5 ((0 : Int32))) fun j6 => (Option.bind (b_X8_back_62 K t 1000 j6 ((0 : Int32))) fun j7 => (Option.bind (K.2.2 t 23) fun q8 => (if gA K q8 (0 : Int32) = true then (Option.bind (some (yS j7 t 6 (j7 q8 ((0 : Int32)).toNatClampNeg))) fun M10 => (if gA K q8 (1 : Int32) = true then (Option.bind (some (yS M10 t 7 (M10 q8 ((1 : Int32)).toNatClampNeg))) fun M12 => (if gA K q8 (2 : Int32) = true then (Option.bind (some (yS M12 t 8 (M12 q8 ((2 : Int32)).toNatClampNeg))) fun M14 => (if gA K q8 (3 : Int32) = true then (Option.bind (some (yS M14 t 9 (M14 q8 ((3 : Int32)).toNatClampNeg))) fun M16 => (if gA K q8 (4 : Int32) = true then (Option.bind (some (yS M16 t 10 (M16 q8 ((4 : Int32)).toNatClampNeg))) fun M18 => (some ((M18 t 0), M18))) else none)) else none)) else none)) else none)) else none)))))))) else none)
set_option maxHeartbeats 4000000 in
set_option maxRecDepth 100000 in
theorem m_X8_back (K : yK) (M : yM) (t : Nat) : yMet yX8_back cX8_back 2 (Option.some Jvm.ClassFile.FieldType.int) rm_X8_back K M [.ref t] (b_X8_back K M t) (yGi K) := by
  refine yM_intro (by decide) (Nat.le_of_ble_eq_true rfl) (fun X r h C E => ?_)
  replace C : yCx X cX8_back RX8 "back" rm_X8_back 2 := C
  show Y X K M 0 0 0 [(0, .ref t)] []
  unfold b_X8_back at h
  refine y_aload_n C dX8_back_0 rfl ?_
  obtain ⟨g1, h⟩ := gd h
  refine y_geti C fl_X8_321 g1 dX8_back_1 ?_
  refine y_if_ne C dX8_back_4 (tgt := 10) rfl (fun c2 => ?_) (fun c2 => ?_)
  · have h := itF c2 h
    refine y_aload_n C dX8_back_10 rfl ?_
    refine y_aload_n C dX8_back_11 rfl ?_
    refine y_geti C fl_X8_325 g1 dX8_back_12 ?_
    obtain ⟨M3, eM3, h⟩ := ob h
    have eM3 := Option.some.inj eM3
    refine y_puti C fl_X8_87 rfl g1 rfl rfl dX8_back_15 eM3 ?_
    refine y_aload_n C dX8_back_18 rfl ?_
    refine y_aload_n C dX8_back_19 rfl ?_
    refine y_geti C fl_X8_328 g1 dX8_back_20 ?_
    obtain ⟨M4, eM4, h⟩ := ob h
    have eM4 := Option.some.inj eM4
    refine y_puti C fl_X8_94 rfl g1 rfl rfl dX8_back_23 eM4 ?_
    refine y_aload_n C dX8_back_26 rfl ?_
    refine y_aload_n C dX8_back_27 rfl ?_
    refine y_geti C fl_X8_331 g1 dX8_back_28 ?_
    obtain ⟨M5, eM5, h⟩ := ob h
    have eM5 := Option.some.inj eM5
    refine y_puti C fl_X8_116 rfl g1 rfl rfl dX8_back_31 eM5 ?_
    refine y_iconst C dX8_back_34 kc_0 ?_
    refine y_istore_n C dX8_back_35 (by decide) (L' := [(1, .int (0)), (0, .ref t)]) rfl ?_
    obtain ⟨j6, hj6, h⟩ := ob h
    refine y_sel [0, 1] rfl (l_X8_back_36 C 1000 _ _ _ hj6 ?_)
    refine y_iconst C dX8_back_60 kc_0 ?_
    refine y_istore_n C dX8_back_61 (by decide) (L' := [(1, .int (0)), (0, .ref t)]) rfl ?_
    obtain ⟨j7, hj7, h⟩ := ob h
    refine y_sel [0, 1] rfl (l_X8_back_62 C 1000 _ _ _ hj7 ?_)
    refine y_aload_n C dX8_back_86 rfl ?_
    refine y_aload_n C dX8_back_87 rfl ?_
    obtain ⟨q8, hq8, h⟩ := ob h
    refine y_getr C fl_X8_41 g1 hq8 dX8_back_88 ?_
    refine y_iconst C dX8_back_91 kc_0 ?_
    obtain ⟨g9, h⟩ := gd h
    refine y_iald C g9 dX8_back_92 ?_
    obtain ⟨M10, eM10, h⟩ := ob h
    have eM10 := Option.some.inj eM10
    refine y_puti C fl_X8_104 rfl g1 rfl rfl dX8_back_93 eM10 ?_
    refine y_aload_n C dX8_back_96 rfl ?_
    refine y_aload_n C dX8_back_97 rfl ?_
    refine y_getr C fl_X8_41 g1 hq8 dX8_back_98 ?_
    refine y_iconst C dX8_back_101 kc_1 ?_
    obtain ⟨g11, h⟩ := gd h
    refine y_iald C g11 dX8_back_102 ?_
    obtain ⟨M12, eM12, h⟩ := ob h
    have eM12 := Option.some.inj eM12
    refine y_puti C fl_X8_107 rfl g1 rfl rfl dX8_back_103 eM12 ?_
    refine y_aload_n C dX8_back_106 rfl ?_
    refine y_aload_n C dX8_back_107 rfl ?_
    refine y_getr C fl_X8_41 g1 hq8 dX8_back_108 ?_
    refine y_iconst C dX8_back_111 kc_2 ?_
    obtain ⟨g13, h⟩ := gd h
    refine y_iald C g13 dX8_back_112 ?_
    obtain ⟨M14, eM14, h⟩ := ob h
    have eM14 := Option.some.inj eM14
    refine y_puti C fl_X8_22 rfl g1 rfl rfl dX8_back_113 eM14 ?_
    refine y_aload_n C dX8_back_116 rfl ?_
    refine y_aload_n C dX8_back_117 rfl ?_
    refine y_getr C fl_X8_41 g1 hq8 dX8_back_118 ?_
    refine y_iconst C dX8_back_121 kc_3 ?_
    obtain ⟨g15, h⟩ := gd h
    refine y_iald C g15 dX8_back_122 ?_
    obtain ⟨M16, eM16, h⟩ := ob h
    have eM16 := Option.some.inj eM16
    refine y_puti C fl_X8_110 rfl g1 rfl rfl dX8_back_123 eM16 ?_
    refine y_aload_n C dX8_back_126 rfl ?_
    refine y_aload_n C dX8_back_127 rfl ?_
    refine y_getr C fl_X8_41 g1 hq8 dX8_back_128 ?_
    refine y_iconst C dX8_back_131 kc_4 ?_
    obtain ⟨g17, h⟩ := gd h
    refine y_iald C g17 dX8_back_132 ?_
    obtain ⟨M18, eM18, h⟩ := ob h
    have eM18 := Option.some.inj eM18
    refine y_puti C fl_X8_215 rfl g1 rfl rfl dX8_back_133 eM18 ?_
    refine y_aload_n C dX8_back_136 rfl ?_
    refine y_geti C fl_X8_87 g1 dX8_back_137 ?_
    have e0 := Option.some.inj h
    subst e0
    exact y_iret C E (Nat.zero_le _) (Nat.zero_le _) dX8_back_140
  · have h := itT c2 h
    refine y_bipush C dX8_back_7 kb_m3 ?_
    have e0 := Option.some.inj h
    subst e0
    exact y_iret C E (Nat.zero_le _) (Nat.zero_le _) dX8_back_9
set_option maxRecDepth 100000 in
def b_X8_takesOf (K : yK) (M : yM) (t : Nat) (x1 : Int32) : Option Int32 := (if gO K t 7 = true then (Option.bind (K.2.2 t 3) fun q2 => (if gA K q2 ((3 : Int32) * x1) = true then (Option.bind (some (M q2 (((3 : Int32) * x1)).toNatClampNeg)) fun v4 => (Option.bind (K.2.2 t 1) fun q5 => (if gA K q5 x1 = true then (Option.bind (if (M q5 (x1).toNatClampNeg) = (2 : Int32) then (Option.bind (K.2.2 t 2) fun q9 => (if gA K q9 x1 = true then (some (v4 + ((M q9 (x1).toNatClampNeg) / (3 : Int32)))) else none)) else (if (M q5 (x1).toNatClampNeg) = (4 : Int32) then (Option.bind (K.2.2 t 2) fun q13 => (if gA K q13 x1 = true then (some (v4 + ((M q13 (x1).toNatClampNeg) / (3 : Int32)))) else none)) else (if (M q5 (x1).toNatClampNeg) = (5 : Int32) then (some (v4 / (2 : Int32))) else (some v4)))) fun j8 => (if (1 : Int32) ≤ j8 then (some j8) else (some (1 : Int32)))) else none))) else none)) else none)
set_option maxHeartbeats 4000000 in
set_option maxRecDepth 100000 in
theorem m_X8_takesOf (K : yK) (M : yM) (t : Nat) (x1 : Int32) : yMet yX8_takesOf cX8_takesOf 4 (Option.some Jvm.ClassFile.FieldType.int) rm_X8_takesOf K M [.ref t, .int x1] (b_X8_takesOf K M t x1) (yFi K M) := by
  refine yM_intro (by decide) (Nat.le_of_ble_eq_true rfl) (fun X r h C E => ?_)
  replace C : yCx X cX8_takesOf RX8 "takesOf" rm_X8_takesOf 4 := C
  show Y X K M 0 0 0 [(0, .ref t), (1, .int x1)] []
  unfold b_X8_takesOf at h
  refine y_aload_n C dX8_takesOf_0 rfl ?_
  obtain ⟨g1, h⟩ := gd h
  obtain ⟨q2, hq2, h⟩ := ob h
  refine y_getr C fl_X8_16 g1 hq2 dX8_takesOf_1 ?_
  refine y_iconst C dX8_takesOf_4 kc_3 ?_
  refine y_iload_n C dX8_takesOf_5 rfl ?_
  refine y_imul C dX8_takesOf_6 ?_
  obtain ⟨g3, h⟩ := gd h
  refine y_iald C g3 dX8_takesOf_7 ?_
  obtain ⟨v4, ev4, h⟩ := ob h
  have ev4 := Option.some.inj ev4
  refine y_istore_n C dX8_takesOf_8 (by decide) (L' := [(2, .int v4), (0, .ref t), (1, .int x1)]) (by subst ev4; rfl) ?_
  refine y_aload_n C dX8_takesOf_9 rfl ?_
  obtain ⟨q5, hq5, h⟩ := ob h
  refine y_getr C fl_X8_7 g1 hq5 dX8_takesOf_10 ?_
  refine y_iload_n C dX8_takesOf_13 rfl ?_
  obtain ⟨g6, h⟩ := gd h
  refine y_iald C g6 dX8_takesOf_14 ?_
  refine y_iconst C dX8_takesOf_15 kc_2 ?_
  obtain ⟨j8, hj8, h⟩ := ob h
  have hJj8 : Y X K M 0 0 59 [] [.int j8] := by
    refine y_istore_n C dX8_takesOf_59 (by decide) (L' := [(3, .int j8)]) rfl ?_
    refine y_iload_n C dX8_takesOf_60 rfl ?_
    refine y_iconst C dX8_takesOf_61 kc_1 ?_
    refine y_icmp_ge C dX8_takesOf_62 (tgt := 69) rfl (fun c15 => ?_) (fun c15 => ?_)
    · have h := itT c15 h
      refine y_iload_n C dX8_takesOf_69 rfl ?_
      have e0 := Option.some.inj h
      subst e0
      exact y_iret C E (Nat.zero_le _) (Nat.zero_le _) dX8_takesOf_70
    · have h := itF c15 h
      refine y_iconst C dX8_takesOf_65 kc_1 ?_
      refine y_goto C dX8_takesOf_66 (tgt := 70) rfl ?_
      have e0 := Option.some.inj h
      subst e0
      exact y_iret C E (Nat.zero_le _) (Nat.zero_le _) dX8_takesOf_70
  replace h := hj8
  refine y_icmp_eq C dX8_takesOf_16 (tgt := 29) rfl (fun c7 => ?_) (fun c7 => ?_)
  · have h := itT c7 h
    refine y_iload_n C dX8_takesOf_29 rfl ?_
    refine y_aload_n C dX8_takesOf_30 rfl ?_
    obtain ⟨q9, hq9, h⟩ := ob h
    refine y_getr C fl_X8_13 g1 hq9 dX8_takesOf_31 ?_
    refine y_iload_n C dX8_takesOf_34 rfl ?_
    obtain ⟨g10, h⟩ := gd h
    refine y_iald C g10 dX8_takesOf_35 ?_
    refine y_iconst C dX8_takesOf_36 kc_3 ?_
    refine y_idiv C dX8_takesOf_37 (by decide) ?_
    refine y_iadd C dX8_takesOf_38 ?_
    refine y_goto C dX8_takesOf_39 (tgt := 59) rfl ?_
    have e0 := Option.some.inj h
    subst e0
    exact y_sel [] rfl hJj8
  · have h := itF c7 h
    refine y_aload_n C dX8_takesOf_19 rfl ?_
    refine y_getr C fl_X8_7 g1 hq5 dX8_takesOf_20 ?_
    refine y_iload_n C dX8_takesOf_23 rfl ?_
    refine y_iald C g6 dX8_takesOf_24 ?_
    refine y_iconst C dX8_takesOf_25 kc_4 ?_
    refine y_icmp_ne C dX8_takesOf_26 (tgt := 42) rfl (fun c11 => ?_) (fun c11 => ?_)
    · have h := itF c11 h
      refine y_aload_n C dX8_takesOf_42 rfl ?_
      refine y_getr C fl_X8_7 g1 hq5 dX8_takesOf_43 ?_
      refine y_iload_n C dX8_takesOf_46 rfl ?_
      refine y_iald C g6 dX8_takesOf_47 ?_
      refine y_iconst C dX8_takesOf_48 kc_5 ?_
      refine y_icmp_ne C dX8_takesOf_49 (tgt := 58) rfl (fun c12 => ?_) (fun c12 => ?_)
      · have h := itF c12 h
        refine y_iload_n C dX8_takesOf_58 rfl ?_
        have e0 := Option.some.inj h
        subst e0
        exact y_sel [] rfl hJj8
      · have h := itT c12 h
        refine y_iload_n C dX8_takesOf_52 rfl ?_
        refine y_iconst C dX8_takesOf_53 kc_2 ?_
        refine y_idiv C dX8_takesOf_54 (by decide) ?_
        refine y_goto C dX8_takesOf_55 (tgt := 59) rfl ?_
        have e0 := Option.some.inj h
        subst e0
        exact y_sel [] rfl hJj8
    · have h := itT c11 h
      refine y_iload_n C dX8_takesOf_29 rfl ?_
      refine y_aload_n C dX8_takesOf_30 rfl ?_
      obtain ⟨q13, hq13, h⟩ := ob h
      refine y_getr C fl_X8_13 g1 hq13 dX8_takesOf_31 ?_
      refine y_iload_n C dX8_takesOf_34 rfl ?_
      obtain ⟨g14, h⟩ := gd h
      refine y_iald C g14 dX8_takesOf_35 ?_
      refine y_iconst C dX8_takesOf_36 kc_3 ?_
      refine y_idiv C dX8_takesOf_37 (by decide) ?_
      refine y_iadd C dX8_takesOf_38 ?_
      refine y_goto C dX8_takesOf_39 (tgt := 59) rfl ?_
      have e0 := Option.some.inj h
      subst e0
      exact y_sel [] rfl hJj8
def b_X8_firstPage_4 (K : yK) (M : yM) (t : Nat) (x_1 : Int32) : Nat → Int32 → Int32 → Option Int32
  | 0, _, _ => none
  | n + 1, u4_2, u4_3 => (if x_1 ≤ u4_3 then (some u4_2) else (if gO K t 7 = true then (Option.bind (b_X8_takesOf K M t u4_3) fun r3 => (Option.bind (some (u4_2 + r3)) fun v4 => (Option.bind (some (u4_3 + (1 : Int32))) fun v5 => (b_X8_firstPage_4 K M t x_1 n v4 v5)))) else none))
set_option maxHeartbeats 4000000 in
set_option maxRecDepth 100000 in
theorem l_X8_firstPage_4 {X : yX} {K : yK} {M : yM} {t : Nat} {x_1 : Int32} (C : yCx X cX8_firstPage RX8 "firstPage" rm_X8_firstPage 4) : ∀ (n : Nat) (u4_2 : Int32) (u4_3 : Int32) (x : Int32), b_X8_firstPage_4 K M t x_1 n u4_2 u4_3 = some x → ∀ (hX : Y X K M 0 0 23 [(2, .int x)] []), Y X K M 0 0 4 [(0, .ref t), (1, .int x_1), (2, .int u4_2), (3, .int u4_3)] [] := by
  intro n
  induction n with
  | zero =>
    intro u4_2 u4_3 x h
    exact nomatch (show (none : Option _) = some x from h)
  | succ n ih =>
    intro u4_2 u4_3 x h hX
    rw [b_X8_firstPage_4] at h
    refine y_iload_n C dX8_firstPage_4 rfl ?_
    refine y_iload_n C dX8_firstPage_5 rfl ?_
    refine y_icmp_ge C dX8_firstPage_6 (tgt := 23) rfl (fun c1 => ?_) (fun c1 => ?_)
    · have h := itT c1 h
      have e0 := Option.some.inj h
      subst e0
      exact y_sel [2] rfl hX
    · have h := itF c1 h
      refine y_iload_n C dX8_firstPage_9 rfl ?_
      refine y_aload_n C dX8_firstPage_10 rfl ?_
      refine y_iload_n C dX8_firstPage_11 rfl ?_
      obtain ⟨g2, h⟩ := gd h
      obtain ⟨r3, hr3, h⟩ := ob h
      refine y_cV C [.int u4_3] (m_X8_takesOf K M t u4_3) hr3 g2 cw_X8_97 rfl (by decide) ⟨rfl, rfl⟩ ⟨Nat.zero_le _, Nat.zero_le _⟩ (Nat.le_of_ble_eq_true rfl) rfl rfl rfl dX8_firstPage_12 ?_
      refine y_iadd C dX8_firstPage_15 ?_
      obtain ⟨v4, ev4, h⟩ := ob h
      have ev4 := Option.some.inj ev4
      refine y_istore_n C dX8_firstPage_16 (by decide) (L' := [(2, .int v4), (0, .ref t), (1, .int x_1), (3, .int u4_3)]) (by subst ev4; rfl) ?_
      obtain ⟨v5, ev5, h⟩ := ob h
      have ev5 := Option.some.inj ev5
      refine y_iinc C dX8_firstPage_17 (by decide) rfl (v := v5) (by subst ev5; rfl) (L' := [(3, .int v5), (2, .int v4), (0, .ref t), (1, .int x_1)]) rfl ?_
      refine y_goto C dX8_firstPage_20 (tgt := 4) rfl ?_
      exact y_sel [0, 1, 2, 3] rfl (ih _ _ _  h hX)
set_option maxRecDepth 100000 in
def b_X8_firstPage (K : yK) (M : yM) (t : Nat) (x1 : Int32) : Option Int32 := (Option.bind (b_X8_firstPage_4 K M t x1 1000 ((0 : Int32)) ((0 : Int32))) fun j1 => (some j1))
set_option maxHeartbeats 4000000 in
set_option maxRecDepth 100000 in
theorem m_X8_firstPage (K : yK) (M : yM) (t : Nat) (x1 : Int32) : yMet yX8_firstPage cX8_firstPage 4 (Option.some Jvm.ClassFile.FieldType.int) rm_X8_firstPage K M [.ref t, .int x1] (b_X8_firstPage K M t x1) (yFi K M) := by
  refine yM_intro (by decide) (Nat.le_of_ble_eq_true rfl) (fun X r h C E => ?_)
  replace C : yCx X cX8_firstPage RX8 "firstPage" rm_X8_firstPage 4 := C
  show Y X K M 0 0 0 [(0, .ref t), (1, .int x1)] []
  unfold b_X8_firstPage at h
  refine y_iconst C dX8_firstPage_0 kc_0 ?_
  refine y_istore_n C dX8_firstPage_1 (by decide) (L' := [(2, .int (0)), (0, .ref t), (1, .int x1)]) rfl ?_
  refine y_iconst C dX8_firstPage_2 kc_0 ?_
  refine y_istore_n C dX8_firstPage_3 (by decide) (L' := [(3, .int (0)), (2, .int (0)), (0, .ref t), (1, .int x1)]) rfl ?_
  obtain ⟨j1, hj1, h⟩ := ob h
  refine y_sel [0, 1, 2, 3] rfl (l_X8_firstPage_4 C 1000 _ _ _ hj1 ?_)
  refine y_iload_n C dX8_firstPage_23 rfl ?_
  have e0 := Option.some.inj h
  subst e0
  exact y_iret C E (Nat.zero_le _) (Nat.zero_le _) dX8_firstPage_24
def b_X8_keeps_2 (K : yK) (t : Nat) : Nat → yM → Int32 → Option yM
  | 0, _, _ => none
  | n + 1, M, u2_1 => (if (12 : Int32) ≤ u2_1 then (some M) else (if gO K t 7 = true then (Option.bind (K.2.2 t 40) fun q3 => (Option.bind (K.2.2 t 3) fun q4 => (if gA K q4 (((3 : Int32) * u2_1) + (2 : Int32)) = true then (if gA K q3 u2_1 = true then (Option.bind (some (yS M q3 (u2_1).toNatClampNeg (M q4 ((((3 : Int32) * u2_1) + (2 : Int32))).toNatClampNeg))) fun M7 => (Option.bind (some (u2_1 + (1 : Int32))) fun v8 => (b_X8_keeps_2 K t n M7 v8))) else none) else none))) else none))
set_option maxHeartbeats 4000000 in
set_option maxRecDepth 100000 in
theorem l_X8_keeps_2 {X : yX} {K : yK} {t : Nat} (C : yCx X cX8_keeps RX8 "keeps" rm_X8_keeps 2) : ∀ (n : Nat) (M : yM) (u2_1 : Int32) (x : yM), b_X8_keeps_2 K t n M u2_1 = some x → ∀ (hX : Y X K x 0 0 30 [(0, .ref t)] []), Y X K M 0 0 2 [(0, .ref t), (1, .int u2_1)] [] := by
  intro n
  induction n with
  | zero =>
    intro M u2_1 x h
    exact nomatch (show (none : Option _) = some x from h)
  | succ n ih =>
    intro M u2_1 x h hX
    rw [b_X8_keeps_2] at h
    refine y_iload_n C dX8_keeps_2 rfl ?_
    refine y_bipush C dX8_keeps_3 kb_12 ?_
    refine y_icmp_ge C dX8_keeps_5 (tgt := 30) rfl (fun c1 => ?_) (fun c1 => ?_)
    · have h := itT c1 h
      have e0 := Option.some.inj h
      subst e0
      exact y_sel [0] rfl hX
    · have h := itF c1 h
      refine y_aload_n C dX8_keeps_8 rfl ?_
      obtain ⟨g2, h⟩ := gd h
      obtain ⟨q3, hq3, h⟩ := ob h
      refine y_getr C fl_X8_68 g2 hq3 dX8_keeps_9 ?_
      refine y_iload_n C dX8_keeps_12 rfl ?_
      refine y_aload_n C dX8_keeps_13 rfl ?_
      obtain ⟨q4, hq4, h⟩ := ob h
      refine y_getr C fl_X8_16 g2 hq4 dX8_keeps_14 ?_
      refine y_iconst C dX8_keeps_17 kc_3 ?_
      refine y_iload_n C dX8_keeps_18 rfl ?_
      refine y_imul C dX8_keeps_19 ?_
      refine y_iconst C dX8_keeps_20 kc_2 ?_
      refine y_iadd C dX8_keeps_21 ?_
      obtain ⟨g5, h⟩ := gd h
      refine y_iald C g5 dX8_keeps_22 ?_
      obtain ⟨g6, h⟩ := gd h
      obtain ⟨M7, eM7, h⟩ := ob h
      have eM7 := Option.some.inj eM7
      refine y_iast C g6 dX8_keeps_23 eM7 ?_
      obtain ⟨v8, ev8, h⟩ := ob h
      have ev8 := Option.some.inj ev8
      refine y_iinc C dX8_keeps_24 (by decide) rfl (v := v8) (by subst ev8; rfl) (L' := [(1, .int v8), (0, .ref t)]) rfl ?_
      refine y_goto C dX8_keeps_27 (tgt := 2) rfl ?_
      exact y_sel [0, 1] rfl (ih _ _ _  h hX)
set_option maxRecDepth 100000 in
def b_X8_keeps (K : yK) (M : yM) (t : Nat) : Option yM := (Option.bind (b_X8_keeps_2 K t 1000 M ((0 : Int32))) fun j1 => (if gO K t 7 = true then (Option.bind (K.2.2 t 41) fun q3 => (if gA K q3 (0 : Int32) = true then (Option.bind (some (yS j1 q3 ((0 : Int32)).toNatClampNeg (j1 t 6))) fun M5 => (if gA K q3 (1 : Int32) = true then (Option.bind (some (yS M5 q3 ((1 : Int32)).toNatClampNeg (M5 t 7))) fun M7 => (if gA K q3 (2 : Int32) = true then (Option.bind (some (yS M7 q3 ((2 : Int32)).toNatClampNeg (M7 t 8))) fun M9 => (if gA K q3 (3 : Int32) = true then (Option.bind (some (yS M9 q3 ((3 : Int32)).toNatClampNeg (M9 t 10))) fun M11 => (Option.bind (some (yS M11 t 42 (0 : Int32))) fun M12 => (Option.bind (some (yS M12 t 43 (0 : Int32))) fun M13 => (Option.bind (some (yS M13 t 44 (0 : Int32))) fun M14 => (Option.bind (some (yS M14 t 45 (0 : Int32))) fun M15 => (Option.bind (some (yS M15 t 47 (-1 : Int32))) fun M16 => (Option.bind (some (yS M16 t 48 (-1 : Int32))) fun M17 => (some M17)))))))) else none)) else none)) else none)) else none)) else none))
set_option maxHeartbeats 4000000 in
set_option maxRecDepth 100000 in
theorem m_X8_keeps (K : yK) (M : yM) (t : Nat) : yMet yX8_keeps cX8_keeps 2 none rm_X8_keeps K M [.ref t] (b_X8_keeps K M t) (yGv K) := by
  refine yM_intro (by decide) (Nat.le_of_ble_eq_true rfl) (fun X r h C E => ?_)
  replace C : yCx X cX8_keeps RX8 "keeps" rm_X8_keeps 2 := C
  show Y X K M 0 0 0 [(0, .ref t)] []
  unfold b_X8_keeps at h
  refine y_iconst C dX8_keeps_0 kc_0 ?_
  refine y_istore_n C dX8_keeps_1 (by decide) (L' := [(1, .int (0)), (0, .ref t)]) rfl ?_
  obtain ⟨j1, hj1, h⟩ := ob h
  refine y_sel [0, 1] rfl (l_X8_keeps_2 C 1000 _ _ _ hj1 ?_)
  refine y_aload_n C dX8_keeps_30 rfl ?_
  obtain ⟨g2, h⟩ := gd h
  obtain ⟨q3, hq3, h⟩ := ob h
  refine y_getr C fl_X8_71 g2 hq3 dX8_keeps_31 ?_
  refine y_iconst C dX8_keeps_34 kc_0 ?_
  refine y_aload_n C dX8_keeps_35 rfl ?_
  refine y_geti C fl_X8_104 g2 dX8_keeps_36 ?_
  obtain ⟨g4, h⟩ := gd h
  obtain ⟨M5, eM5, h⟩ := ob h
  have eM5 := Option.some.inj eM5
  refine y_iast C g4 dX8_keeps_39 eM5 ?_
  refine y_aload_n C dX8_keeps_40 rfl ?_
  refine y_getr C fl_X8_71 g2 hq3 dX8_keeps_41 ?_
  refine y_iconst C dX8_keeps_44 kc_1 ?_
  refine y_aload_n C dX8_keeps_45 rfl ?_
  refine y_geti C fl_X8_107 g2 dX8_keeps_46 ?_
  obtain ⟨g6, h⟩ := gd h
  obtain ⟨M7, eM7, h⟩ := ob h
  have eM7 := Option.some.inj eM7
  refine y_iast C g6 dX8_keeps_49 eM7 ?_
  refine y_aload_n C dX8_keeps_50 rfl ?_
  refine y_getr C fl_X8_71 g2 hq3 dX8_keeps_51 ?_
  refine y_iconst C dX8_keeps_54 kc_2 ?_
  refine y_aload_n C dX8_keeps_55 rfl ?_
  refine y_geti C fl_X8_22 g2 dX8_keeps_56 ?_
  obtain ⟨g8, h⟩ := gd h
  obtain ⟨M9, eM9, h⟩ := ob h
  have eM9 := Option.some.inj eM9
  refine y_iast C g8 dX8_keeps_59 eM9 ?_
  refine y_aload_n C dX8_keeps_60 rfl ?_
  refine y_getr C fl_X8_71 g2 hq3 dX8_keeps_61 ?_
  refine y_iconst C dX8_keeps_64 kc_3 ?_
  refine y_aload_n C dX8_keeps_65 rfl ?_
  refine y_geti C fl_X8_215 g2 dX8_keeps_66 ?_
  obtain ⟨g10, h⟩ := gd h
  obtain ⟨M11, eM11, h⟩ := ob h
  have eM11 := Option.some.inj eM11
  refine y_iast C g10 dX8_keeps_69 eM11 ?_
  refine y_aload_n C dX8_keeps_70 rfl ?_
  refine y_iconst C dX8_keeps_71 kc_0 ?_
  obtain ⟨M12, eM12, h⟩ := ob h
  have eM12 := Option.some.inj eM12
  refine y_puti C fl_X8_254 rfl g2 rfl rfl dX8_keeps_72 eM12 ?_
  refine y_aload_n C dX8_keeps_75 rfl ?_
  refine y_iconst C dX8_keeps_76 kc_0 ?_
  obtain ⟨M13, eM13, h⟩ := ob h
  have eM13 := Option.some.inj eM13
  refine y_puti C fl_X8_257 rfl g2 rfl rfl dX8_keeps_77 eM13 ?_
  refine y_aload_n C dX8_keeps_80 rfl ?_
  refine y_iconst C dX8_keeps_81 kc_0 ?_
  obtain ⟨M14, eM14, h⟩ := ob h
  have eM14 := Option.some.inj eM14
  refine y_puti C fl_X8_260 rfl g2 rfl rfl dX8_keeps_82 eM14 ?_
  refine y_aload_n C dX8_keeps_85 rfl ?_
  refine y_iconst C dX8_keeps_86 kc_0 ?_
  obtain ⟨M15, eM15, h⟩ := ob h
  have eM15 := Option.some.inj eM15
  refine y_puti C fl_X8_263 rfl g2 rfl rfl dX8_keeps_87 eM15 ?_
  refine y_aload_n C dX8_keeps_90 rfl ?_
  refine y_iconst C dX8_keeps_91 kc_m1 ?_
  obtain ⟨M16, eM16, h⟩ := ob h
  have eM16 := Option.some.inj eM16
  refine y_puti C fl_X8_266 rfl g2 rfl rfl dX8_keeps_92 eM16 ?_
  refine y_aload_n C dX8_keeps_95 rfl ?_
  refine y_iconst C dX8_keeps_96 kc_m1 ?_
  obtain ⟨M17, eM17, h⟩ := ob h
  have eM17 := Option.some.inj eM17
  refine y_puti C fl_X8_269 rfl g2 rfl rfl dX8_keeps_97 eM17 ?_
  have e0 := Option.some.inj h
  subst e0
  exact y_vret C E (Nat.zero_le _) (Nat.zero_le _) dX8_keeps_100
def b_X8_laysBack_10 (K : yK) (t : Nat) : Nat → yM → Int32 → Option yM
  | 0, _, _ => none
  | n + 1, M, u10_1 => (if (12 : Int32) ≤ u10_1 then (some M) else (if gO K t 7 = true then (Option.bind (K.2.2 t 3) fun q3 => (Option.bind (K.2.2 t 40) fun q4 => (if gA K q4 u10_1 = true then (if gA K q3 (((3 : Int32) * u10_1) + (2 : Int32)) = true then (Option.bind (some (yS M q3 ((((3 : Int32) * u10_1) + (2 : Int32))).toNatClampNeg (M q4 (u10_1).toNatClampNeg))) fun M7 => (Option.bind (some (u10_1 + (1 : Int32))) fun v8 => (b_X8_laysBack_10 K t n M7 v8))) else none) else none))) else none))
set_option maxHeartbeats 4000000 in
set_option maxRecDepth 100000 in
theorem l_X8_laysBack_10 {X : yX} {K : yK} {t : Nat} (C : yCx X cX8_laysBack RX8 "laysBack" rm_X8_laysBack 2) : ∀ (n : Nat) (M : yM) (u10_1 : Int32) (x : yM), b_X8_laysBack_10 K t n M u10_1 = some x → ∀ (hX : Y X K x 0 0 38 [(0, .ref t)] []), Y X K M 0 0 10 [(0, .ref t), (1, .int u10_1)] [] := by
  intro n
  induction n with
  | zero =>
    intro M u10_1 x h
    exact nomatch (show (none : Option _) = some x from h)
  | succ n ih =>
    intro M u10_1 x h hX
    rw [b_X8_laysBack_10] at h
    refine y_iload_n C dX8_laysBack_10 rfl ?_
    refine y_bipush C dX8_laysBack_11 kb_12 ?_
    refine y_icmp_ge C dX8_laysBack_13 (tgt := 38) rfl (fun c1 => ?_) (fun c1 => ?_)
    · have h := itT c1 h
      have e0 := Option.some.inj h
      subst e0
      exact y_sel [0] rfl hX
    · have h := itF c1 h
      refine y_aload_n C dX8_laysBack_16 rfl ?_
      obtain ⟨g2, h⟩ := gd h
      obtain ⟨q3, hq3, h⟩ := ob h
      refine y_getr C fl_X8_16 g2 hq3 dX8_laysBack_17 ?_
      refine y_iconst C dX8_laysBack_20 kc_3 ?_
      refine y_iload_n C dX8_laysBack_21 rfl ?_
      refine y_imul C dX8_laysBack_22 ?_
      refine y_iconst C dX8_laysBack_23 kc_2 ?_
      refine y_iadd C dX8_laysBack_24 ?_
      refine y_aload_n C dX8_laysBack_25 rfl ?_
      obtain ⟨q4, hq4, h⟩ := ob h
      refine y_getr C fl_X8_68 g2 hq4 dX8_laysBack_26 ?_
      refine y_iload_n C dX8_laysBack_29 rfl ?_
      obtain ⟨g5, h⟩ := gd h
      refine y_iald C g5 dX8_laysBack_30 ?_
      obtain ⟨g6, h⟩ := gd h
      obtain ⟨M7, eM7, h⟩ := ob h
      have eM7 := Option.some.inj eM7
      refine y_iast C g6 dX8_laysBack_31 eM7 ?_
      obtain ⟨v8, ev8, h⟩ := ob h
      have ev8 := Option.some.inj ev8
      refine y_iinc C dX8_laysBack_32 (by decide) rfl (v := v8) (by subst ev8; rfl) (L' := [(1, .int v8), (0, .ref t)]) rfl ?_
      refine y_goto C dX8_laysBack_35 (tgt := 10) rfl ?_
      exact y_sel [0, 1] rfl (ih _ _ _  h hX)
set_option maxRecDepth 100000 in
def b_X8_laysBack (K : yK) (M : yM) (t : Nat) : Option yM := (if gO K t 7 = true then (Option.bind (some (yS M t 46 (M t 6))) fun M2 => (Option.bind (b_X8_laysBack_10 K t 1000 M2 ((0 : Int32))) fun j3 => (Option.bind (K.2.2 t 41) fun q4 => (if gA K q4 (0 : Int32) = true then (Option.bind (some (yS j3 t 6 (j3 q4 ((0 : Int32)).toNatClampNeg))) fun M6 => (if gA K q4 (1 : Int32) = true then (Option.bind (some (yS M6 t 7 (M6 q4 ((1 : Int32)).toNatClampNeg))) fun M8 => (if gA K q4 (2 : Int32) = true then (Option.bind (some (yS M8 t 8 (M8 q4 ((2 : Int32)).toNatClampNeg))) fun M10 => (if gA K q4 (3 : Int32) = true then (Option.bind (some (yS M10 t 10 (M10 q4 ((3 : Int32)).toNatClampNeg))) fun M12 => (some M12)) else none)) else none)) else none)) else none)))) else none)
set_option maxHeartbeats 4000000 in
set_option maxRecDepth 100000 in
theorem m_X8_laysBack (K : yK) (M : yM) (t : Nat) : yMet yX8_laysBack cX8_laysBack 2 none rm_X8_laysBack K M [.ref t] (b_X8_laysBack K M t) (yGv K) := by
  refine yM_intro (by decide) (Nat.le_of_ble_eq_true rfl) (fun X r h C E => ?_)
  replace C : yCx X cX8_laysBack RX8 "laysBack" rm_X8_laysBack 2 := C
  show Y X K M 0 0 0 [(0, .ref t)] []
  unfold b_X8_laysBack at h
  refine y_aload_n C dX8_laysBack_0 rfl ?_
  refine y_aload_n C dX8_laysBack_1 rfl ?_
  obtain ⟨g1, h⟩ := gd h
  refine y_geti C fl_X8_104 g1 dX8_laysBack_2 ?_
  obtain ⟨M2, eM2, h⟩ := ob h
  have eM2 := Option.some.inj eM2
  refine y_puti C fl_X8_272 rfl g1 rfl rfl dX8_laysBack_5 eM2 ?_
  refine y_iconst C dX8_laysBack_8 kc_0 ?_
  refine y_istore_n C dX8_laysBack_9 (by decide) (L' := [(1, .int (0)), (0, .ref t)]) rfl ?_
  obtain ⟨j3, hj3, h⟩ := ob h
  refine y_sel [0, 1] rfl (l_X8_laysBack_10 C 1000 _ _ _ hj3 ?_)
  refine y_aload_n C dX8_laysBack_38 rfl ?_
  refine y_aload_n C dX8_laysBack_39 rfl ?_
  obtain ⟨q4, hq4, h⟩ := ob h
  refine y_getr C fl_X8_71 g1 hq4 dX8_laysBack_40 ?_
  refine y_iconst C dX8_laysBack_43 kc_0 ?_
  obtain ⟨g5, h⟩ := gd h
  refine y_iald C g5 dX8_laysBack_44 ?_
  obtain ⟨M6, eM6, h⟩ := ob h
  have eM6 := Option.some.inj eM6
  refine y_puti C fl_X8_104 rfl g1 rfl rfl dX8_laysBack_45 eM6 ?_
  refine y_aload_n C dX8_laysBack_48 rfl ?_
  refine y_aload_n C dX8_laysBack_49 rfl ?_
  refine y_getr C fl_X8_71 g1 hq4 dX8_laysBack_50 ?_
  refine y_iconst C dX8_laysBack_53 kc_1 ?_
  obtain ⟨g7, h⟩ := gd h
  refine y_iald C g7 dX8_laysBack_54 ?_
  obtain ⟨M8, eM8, h⟩ := ob h
  have eM8 := Option.some.inj eM8
  refine y_puti C fl_X8_107 rfl g1 rfl rfl dX8_laysBack_55 eM8 ?_
  refine y_aload_n C dX8_laysBack_58 rfl ?_
  refine y_aload_n C dX8_laysBack_59 rfl ?_
  refine y_getr C fl_X8_71 g1 hq4 dX8_laysBack_60 ?_
  refine y_iconst C dX8_laysBack_63 kc_2 ?_
  obtain ⟨g9, h⟩ := gd h
  refine y_iald C g9 dX8_laysBack_64 ?_
  obtain ⟨M10, eM10, h⟩ := ob h
  have eM10 := Option.some.inj eM10
  refine y_puti C fl_X8_22 rfl g1 rfl rfl dX8_laysBack_65 eM10 ?_
  refine y_aload_n C dX8_laysBack_68 rfl ?_
  refine y_aload_n C dX8_laysBack_69 rfl ?_
  refine y_getr C fl_X8_71 g1 hq4 dX8_laysBack_70 ?_
  refine y_iconst C dX8_laysBack_73 kc_3 ?_
  obtain ⟨g11, h⟩ := gd h
  refine y_iald C g11 dX8_laysBack_74 ?_
  obtain ⟨M12, eM12, h⟩ := ob h
  have eM12 := Option.some.inj eM12
  refine y_puti C fl_X8_215 rfl g1 rfl rfl dX8_laysBack_75 eM12 ?_
  have e0 := Option.some.inj h
  subst e0
  exact y_vret C E (Nat.zero_le _) (Nat.zero_le _) dX8_laysBack_78
def b_X8_entryOn_4 (K : yK) (M : yM) (t : Nat) : Nat → Int32 → Int32 → Option Int32
  | 0, _, _ => none
  | n + 1, u4_2, u4_3 => (if gO K t 7 = true then (if (M t 0) ≤ (u4_3 + (1 : Int32)) then (some u4_3) else (Option.bind (b_X8_takesOf K M t u4_3) fun r3 => (if u4_2 < r3 then (some u4_3) else (Option.bind (b_X8_takesOf K M t u4_3) fun r5 => (Option.bind (some (u4_2 - r5)) fun v6 => (Option.bind (some (u4_3 + (1 : Int32))) fun v7 => (b_X8_entryOn_4 K M t n v6 v7))))))) else none)
set_option maxHeartbeats 4000000 in
set_option maxRecDepth 100000 in
theorem l_X8_entryOn_4 {X : yX} {K : yK} {M : yM} {t : Nat} (C : yCx X cX8_entryOn RX8 "entryOn" rm_X8_entryOn 4) : ∀ (n : Nat) (u4_2 : Int32) (u4_3 : Int32) (x : Int32), b_X8_entryOn_4 K M t n u4_2 u4_3 = some x → ∀ (hX : Y X K M 0 0 37 [(3, .int x)] []), Y X K M 0 0 4 [(0, .ref t), (2, .int u4_2), (3, .int u4_3)] [] := by
  intro n
  induction n with
  | zero =>
    intro u4_2 u4_3 x h
    exact nomatch (show (none : Option _) = some x from h)
  | succ n ih =>
    intro u4_2 u4_3 x h hX
    rw [b_X8_entryOn_4] at h
    refine y_iload_n C dX8_entryOn_4 rfl ?_
    refine y_iconst C dX8_entryOn_5 kc_1 ?_
    refine y_iadd C dX8_entryOn_6 ?_
    refine y_aload_n C dX8_entryOn_7 rfl ?_
    obtain ⟨g1, h⟩ := gd h
    refine y_geti C fl_X8_87 g1 dX8_entryOn_8 ?_
    refine y_icmp_ge C dX8_entryOn_11 (tgt := 37) rfl (fun c2 => ?_) (fun c2 => ?_)
    · have h := itT c2 h
      have e0 := Option.some.inj h
      subst e0
      exact y_sel [3] rfl hX
    · have h := itF c2 h
      refine y_iload_n C dX8_entryOn_14 rfl ?_
      refine y_aload_n C dX8_entryOn_15 rfl ?_
      refine y_iload_n C dX8_entryOn_16 rfl ?_
      obtain ⟨r3, hr3, h⟩ := ob h
      refine y_cV C [.int u4_3] (m_X8_takesOf K M t u4_3) hr3 g1 cw_X8_97 rfl (by decide) ⟨rfl, rfl⟩ ⟨Nat.zero_le _, Nat.zero_le _⟩ (Nat.le_of_ble_eq_true rfl) rfl rfl rfl dX8_entryOn_17 ?_
      refine y_icmp_lt C dX8_entryOn_20 (tgt := 37) rfl (fun c4 => ?_) (fun c4 => ?_)
      · have h := itT c4 h
        have e0 := Option.some.inj h
        subst e0
        exact y_sel [3] rfl hX
      · have h := itF c4 h
        refine y_iload_n C dX8_entryOn_23 rfl ?_
        refine y_aload_n C dX8_entryOn_24 rfl ?_
        refine y_iload_n C dX8_entryOn_25 rfl ?_
        obtain ⟨r5, hr5, h⟩ := ob h
        refine y_cV C [.int u4_3] (m_X8_takesOf K M t u4_3) hr5 g1 cw_X8_97 rfl (by decide) ⟨rfl, rfl⟩ ⟨Nat.zero_le _, Nat.zero_le _⟩ (Nat.le_of_ble_eq_true rfl) rfl rfl rfl dX8_entryOn_26 ?_
        refine y_isub C dX8_entryOn_29 ?_
        obtain ⟨v6, ev6, h⟩ := ob h
        have ev6 := Option.some.inj ev6
        refine y_istore_n C dX8_entryOn_30 (by decide) (L' := [(2, .int v6), (0, .ref t), (3, .int u4_3)]) (by subst ev6; rfl) ?_
        obtain ⟨v7, ev7, h⟩ := ob h
        have ev7 := Option.some.inj ev7
        refine y_iinc C dX8_entryOn_31 (by decide) rfl (v := v7) (by subst ev7; rfl) (L' := [(3, .int v7), (2, .int v6), (0, .ref t)]) rfl ?_
        refine y_goto C dX8_entryOn_34 (tgt := 4) rfl ?_
        exact y_sel [0, 2, 3] rfl (ih _ _ _  h hX)
set_option maxRecDepth 100000 in
def b_X8_entryOn (K : yK) (M : yM) (t : Nat) (x1 : Int32) : Option Int32 := (Option.bind (b_X8_entryOn_4 K M t 1000 x1 ((0 : Int32))) fun j1 => (some j1))
set_option maxHeartbeats 4000000 in
set_option maxRecDepth 100000 in
theorem m_X8_entryOn (K : yK) (M : yM) (t : Nat) (x1 : Int32) : yMet yX8_entryOn cX8_entryOn 4 (Option.some Jvm.ClassFile.FieldType.int) rm_X8_entryOn K M [.ref t, .int x1] (b_X8_entryOn K M t x1) (yFi K M) := by
  refine yM_intro (by decide) (Nat.le_of_ble_eq_true rfl) (fun X r h C E => ?_)
  replace C : yCx X cX8_entryOn RX8 "entryOn" rm_X8_entryOn 4 := C
  show Y X K M 0 0 0 [(0, .ref t), (1, .int x1)] []
  unfold b_X8_entryOn at h
  refine y_iload_n C dX8_entryOn_0 rfl ?_
  refine y_istore_n C dX8_entryOn_1 (by decide) (L' := [(2, .int x1), (0, .ref t), (1, .int x1)]) rfl ?_
  refine y_iconst C dX8_entryOn_2 kc_0 ?_
  refine y_istore_n C dX8_entryOn_3 (by decide) (L' := [(3, .int (0)), (2, .int x1), (0, .ref t), (1, .int x1)]) rfl ?_
  obtain ⟨j1, hj1, h⟩ := ob h
  refine y_sel [0, 2, 3] rfl (l_X8_entryOn_4 C 1000 _ _ _ hj1 ?_)
  refine y_iload_n C dX8_entryOn_37 rfl ?_
  have e0 := Option.some.inj h
  subst e0
  exact y_iret C E (Nat.zero_le _) (Nat.zero_le _) dX8_entryOn_38
set_option maxRecDepth 100000 in
def b_X8_pagesAll (K : yK) (M : yM) (t : Nat) : Option Int32 := (if gO K t 7 = true then (Option.bind (b_X8_firstPage K M t ((M t 0))) fun r2 => (some r2)) else none)
set_option maxHeartbeats 4000000 in
set_option maxRecDepth 100000 in
theorem m_X8_pagesAll (K : yK) (M : yM) (t : Nat) : yMet yX8_pagesAll cX8_pagesAll 1 (Option.some Jvm.ClassFile.FieldType.int) rm_X8_pagesAll K M [.ref t] (b_X8_pagesAll K M t) (yFi K M) := by
  refine yM_intro (by decide) (Nat.le_of_ble_eq_true rfl) (fun X r h C E => ?_)
  replace C : yCx X cX8_pagesAll RX8 "pagesAll" rm_X8_pagesAll 1 := C
  show Y X K M 0 0 0 [(0, .ref t)] []
  unfold b_X8_pagesAll at h
  refine y_aload_n C dX8_pagesAll_0 rfl ?_
  refine y_aload_n C dX8_pagesAll_1 rfl ?_
  obtain ⟨g1, h⟩ := gd h
  refine y_geti C fl_X8_87 g1 dX8_pagesAll_2 ?_
  obtain ⟨r2, hr2, h⟩ := ob h
  refine y_cV C [.int (M t 0)] (m_X8_firstPage K M t ((M t 0))) hr2 g1 cw_X8_101 rfl (by decide) ⟨rfl, rfl⟩ ⟨Nat.zero_le _, Nat.zero_le _⟩ (Nat.le_of_ble_eq_true rfl) rfl rfl rfl dX8_pagesAll_5 ?_
  have e0 := Option.some.inj h
  subst e0
  exact y_iret C E (Nat.zero_le _) (Nat.zero_le _) dX8_pagesAll_8
def b_X8_dayOf_87 (K : yK) (t : Nat) (x_1 : Int32) (x_2 : Int32) : Nat → yM → Int32 → Option yM
  | 0, _, _ => none
  | n + 1, M, u87_3 => (if x_2 ≤ u87_3 then (some M) else (if gO K t 7 = true then (if ¬ x_1 = 0 then (Option.bind (b_X8_entryOn K M t ((((M t 39) + u87_3) - ((M t 39) + u87_3) / x_1 * x_1))) fun r4 => (Option.bind (if (((M t 9) >>> (r4 &&& 31)) &&& (1 : Int32)) = 0 then (some ((1 : Int32) <<< (r4 &&& 31))) else (some (0 : Int32))) fun j6 => (Option.bind (some (yS M t 10 ((M t 10) ||| j6))) fun M7 => (Option.bind (some (u87_3 + (1 : Int32))) fun v8 => (b_X8_dayOf_87 K t x_1 x_2 n M7 v8))))) else none) else none))
set_option maxHeartbeats 4000000 in
set_option maxRecDepth 100000 in
theorem l_X8_dayOf_87 {X : yX} {K : yK} {t : Nat} {x_1 : Int32} {x_2 : Int32} (C : yCx X cX8_dayOf RX8 "dayOf" rm_X8_dayOf 5) : ∀ (n : Nat) (M : yM) (u87_3 : Int32) (x : yM), b_X8_dayOf_87 K t x_1 x_2 n M u87_3 = some x → ∀ (hX : Y X K x 0 0 141 [(0, .ref t), (1, .int x_1), (2, .int x_2)] []), Y X K M 0 0 87 [(0, .ref t), (1, .int x_1), (2, .int x_2), (3, .int u87_3)] [] := by
  intro n
  induction n with
  | zero =>
    intro M u87_3 x h
    exact nomatch (show (none : Option _) = some x from h)
  | succ n ih =>
    intro M u87_3 x h hX
    rw [b_X8_dayOf_87] at h
    refine y_iload_n C dX8_dayOf_87 rfl ?_
    refine y_iload_n C dX8_dayOf_88 rfl ?_
    refine y_icmp_ge C dX8_dayOf_89 (tgt := 141) rfl (fun c1 => ?_) (fun c1 => ?_)
    · have h := itT c1 h
      have e0 := Option.some.inj h
      subst e0
      exact y_sel [0, 1, 2] rfl hX
    · have h := itF c1 h
      refine y_aload_n C dX8_dayOf_92 rfl ?_
      refine y_aload_n C dX8_dayOf_93 rfl ?_
      obtain ⟨g2, h⟩ := gd h
      refine y_geti C fl_X8_245 g2 dX8_dayOf_94 ?_
      refine y_iload_n C dX8_dayOf_97 rfl ?_
      refine y_iadd C dX8_dayOf_98 ?_
      refine y_iload_n C dX8_dayOf_99 rfl ?_
      obtain ⟨g3, h⟩ := gp h
      refine y_irem C dX8_dayOf_100 g3 ?_
      obtain ⟨r4, hr4, h⟩ := ob h
      refine y_cV C [.int (((M t 39) + u87_3) - ((M t 39) + u87_3) / x_1 * x_1)] (m_X8_entryOn K M t ((((M t 39) + u87_3) - ((M t 39) + u87_3) / x_1 * x_1))) hr4 g2 cw_X8_248 rfl (by decide) ⟨rfl, rfl⟩ ⟨Nat.zero_le _, Nat.zero_le _⟩ (Nat.le_of_ble_eq_true rfl) rfl rfl rfl dX8_dayOf_101 ?_
      refine y_istore C dX8_dayOf_104 (by decide) (L' := [(4, .int r4), (0, .ref t), (1, .int x_1), (2, .int x_2), (3, .int u87_3)]) rfl ?_
      refine y_aload_n C dX8_dayOf_106 rfl ?_
      refine y_dup C dX8_dayOf_107 rfl ?_
      refine y_geti C fl_X8_215 g2 dX8_dayOf_108 ?_
      refine y_aload_n C dX8_dayOf_111 rfl ?_
      refine y_geti C fl_X8_110 g2 dX8_dayOf_112 ?_
      refine y_iload C dX8_dayOf_115 rfl ?_
      refine y_ishr C dX8_dayOf_117 ?_
      refine y_iconst C dX8_dayOf_118 kc_1 ?_
      refine y_iand C dX8_dayOf_119 ?_
      obtain ⟨j6, hj6, h⟩ := ob h
      have hJj6 : Y X K M 0 0 131 [(0, .ref t), (1, .int x_1), (2, .int x_2), (3, .int u87_3)] [.int j6, .int (M t 10), .ref t] := by
        refine y_ior C dX8_dayOf_131 ?_
        obtain ⟨M7, eM7, h⟩ := ob h
        have eM7 := Option.some.inj eM7
        refine y_puti C fl_X8_215 rfl g2 rfl rfl dX8_dayOf_132 eM7 ?_
        obtain ⟨v8, ev8, h⟩ := ob h
        have ev8 := Option.some.inj ev8
        refine y_iinc C dX8_dayOf_135 (by decide) rfl (v := v8) (by subst ev8; rfl) (L' := [(3, .int v8), (0, .ref t), (1, .int x_1), (2, .int x_2)]) rfl ?_
        refine y_goto C dX8_dayOf_138 (tgt := 87) rfl ?_
        exact y_sel [0, 1, 2, 3] rfl (ih _ _ _  h hX)
      replace h := hj6
      refine y_if_ne C dX8_dayOf_120 (tgt := 130) rfl (fun c5 => ?_) (fun c5 => ?_)
      · have h := itF c5 h
        refine y_iconst C dX8_dayOf_130 kc_0 ?_
        have e0 := Option.some.inj h
        subst e0
        exact y_sel [0, 1, 2, 3] rfl hJj6
      · have h := itT c5 h
        refine y_iconst C dX8_dayOf_123 kc_1 ?_
        refine y_iload C dX8_dayOf_124 rfl ?_
        refine y_ishl C dX8_dayOf_126 ?_
        refine y_goto C dX8_dayOf_127 (tgt := 131) rfl ?_
        have e0 := Option.some.inj h
        subst e0
        exact y_sel [0, 1, 2, 3] rfl hJj6
def b_X8_dayOf_143 (K : yK) (t : Nat) (x_1 : Int32) (x_2 : Int32) : Nat → yM → Int32 → Option yM
  | 0, _, _ => none
  | n + 1, M, u143_3 => (if gO K t 7 = true then (if (M t 0) ≤ u143_3 then (some M) else (Option.bind (K.2.2 t 3) fun q3 => (Option.bind (if (((M t 10) >>> (u143_3 &&& 31)) &&& (1 : Int32)) = (1 : Int32) then (some (M t 7)) else (if gA K q3 (((3 : Int32) * u143_3) + (2 : Int32)) = true then (some (M q3 ((((3 : Int32) * u143_3) + (2 : Int32))).toNatClampNeg)) else none)) fun j5 => (if gA K q3 (((3 : Int32) * u143_3) + (2 : Int32)) = true then (Option.bind (some (yS M q3 ((((3 : Int32) * u143_3) + (2 : Int32))).toNatClampNeg j5)) fun M8 => (Option.bind (some (u143_3 + (1 : Int32))) fun v9 => (b_X8_dayOf_143 K t x_1 x_2 n M8 v9))) else none)))) else none)
set_option maxHeartbeats 4000000 in
set_option maxRecDepth 100000 in
theorem l_X8_dayOf_143 {X : yX} {K : yK} {t : Nat} {x_1 : Int32} {x_2 : Int32} (C : yCx X cX8_dayOf RX8 "dayOf" rm_X8_dayOf 5) : ∀ (n : Nat) (M : yM) (u143_3 : Int32) (x : yM), b_X8_dayOf_143 K t x_1 x_2 n M u143_3 = some x → ∀ (hX : Y X K x 0 0 196 [(0, .ref t), (1, .int x_1), (2, .int x_2)] []), Y X K M 0 0 143 [(0, .ref t), (1, .int x_1), (2, .int x_2), (3, .int u143_3)] [] := by
  intro n
  induction n with
  | zero =>
    intro M u143_3 x h
    exact nomatch (show (none : Option _) = some x from h)
  | succ n ih =>
    intro M u143_3 x h hX
    rw [b_X8_dayOf_143] at h
    refine y_iload_n C dX8_dayOf_143 rfl ?_
    refine y_aload_n C dX8_dayOf_144 rfl ?_
    obtain ⟨g1, h⟩ := gd h
    refine y_geti C fl_X8_87 g1 dX8_dayOf_145 ?_
    refine y_icmp_ge C dX8_dayOf_148 (tgt := 196) rfl (fun c2 => ?_) (fun c2 => ?_)
    · have h := itT c2 h
      have e0 := Option.some.inj h
      subst e0
      exact y_sel [0, 1, 2] rfl hX
    · have h := itF c2 h
      refine y_aload_n C dX8_dayOf_151 rfl ?_
      obtain ⟨q3, hq3, h⟩ := ob h
      refine y_getr C fl_X8_16 g1 hq3 dX8_dayOf_152 ?_
      refine y_iconst C dX8_dayOf_155 kc_3 ?_
      refine y_iload_n C dX8_dayOf_156 rfl ?_
      refine y_imul C dX8_dayOf_157 ?_
      refine y_iconst C dX8_dayOf_158 kc_2 ?_
      refine y_iadd C dX8_dayOf_159 ?_
      refine y_aload_n C dX8_dayOf_160 rfl ?_
      refine y_geti C fl_X8_215 g1 dX8_dayOf_161 ?_
      refine y_iload_n C dX8_dayOf_164 rfl ?_
      refine y_ishr C dX8_dayOf_165 ?_
      refine y_iconst C dX8_dayOf_166 kc_1 ?_
      refine y_iand C dX8_dayOf_167 ?_
      refine y_iconst C dX8_dayOf_168 kc_1 ?_
      obtain ⟨j5, hj5, h⟩ := ob h
      have hJj5 : Y X K M 0 0 189 [(0, .ref t), (1, .int x_1), (2, .int x_2), (3, .int u143_3)] [.int j5, .int (((3 : Int32) * u143_3) + (2 : Int32)), .ref q3] := by
        obtain ⟨g7, h⟩ := gd h
        obtain ⟨M8, eM8, h⟩ := ob h
        have eM8 := Option.some.inj eM8
        refine y_iast C g7 dX8_dayOf_189 eM8 ?_
        obtain ⟨v9, ev9, h⟩ := ob h
        have ev9 := Option.some.inj ev9
        refine y_iinc C dX8_dayOf_190 (by decide) rfl (v := v9) (by subst ev9; rfl) (L' := [(3, .int v9), (0, .ref t), (1, .int x_1), (2, .int x_2)]) rfl ?_
        refine y_goto C dX8_dayOf_193 (tgt := 143) rfl ?_
        exact y_sel [0, 1, 2, 3] rfl (ih _ _ _  h hX)
      replace h := hj5
      refine y_icmp_ne C dX8_dayOf_169 (tgt := 179) rfl (fun c4 => ?_) (fun c4 => ?_)
      · have h := itF c4 h
        refine y_aload_n C dX8_dayOf_179 rfl ?_
        refine y_getr C fl_X8_16 g1 hq3 dX8_dayOf_180 ?_
        refine y_iconst C dX8_dayOf_183 kc_3 ?_
        refine y_iload_n C dX8_dayOf_184 rfl ?_
        refine y_imul C dX8_dayOf_185 ?_
        refine y_iconst C dX8_dayOf_186 kc_2 ?_
        refine y_iadd C dX8_dayOf_187 ?_
        obtain ⟨g6, h⟩ := gd h
        refine y_iald C g6 dX8_dayOf_188 ?_
        have e0 := Option.some.inj h
        subst e0
        exact y_sel [0, 1, 2, 3] rfl hJj5
      · have h := itT c4 h
        refine y_aload_n C dX8_dayOf_172 rfl ?_
        refine y_geti C fl_X8_107 g1 dX8_dayOf_173 ?_
        refine y_goto C dX8_dayOf_176 (tgt := 189) rfl ?_
        have e0 := Option.some.inj h
        subst e0
        exact y_sel [0, 1, 2, 3] rfl hJj5
set_option maxRecDepth 100000 in
def b_X8_dayOf (K : yK) (M : yM) (t : Nat) : Option yM := (if gO K t 7 = true then (Option.bind (b_X8_pagesAll K M t) fun r2 => (Option.bind (some (yS M t 7 ((M t 7) + (1 : Int32)))) fun M3 => (Option.bind (some (yS M3 t 10 (0 : Int32))) fun M4 => (if r2 ≤ 0 then (some M4) else (Option.bind (if (M4 t 8) = (-1 : Int32) then (if ¬ r2 = 0 then (some ((M4 t 6) - (M4 t 6) / r2 * r2)) else none) else (Option.bind (b_X8_firstPage K M4 t ((M4 t 8))) fun r8 => (some r8))) fun j7 => (Option.bind (some (yS M4 t 39 j7)) fun M10 => (Option.bind (some (yS M10 t 8 (-1 : Int32))) fun M11 => (Option.bind (b_X8_entryOn K M11 t ((M11 t 39))) fun r12 => (Option.bind (b_X8_asksOf K M11 t ((0 : Int32)) r12 ((0 : Int32)) ((0 : Int32))) fun r13 => (Option.bind (if r13.1 ≤ r2 then (some r13.1) else (some r2)) fun j15 => (Option.bind (b_X8_dayOf_87 K t r2 j15 1000 r13.2 ((0 : Int32))) fun j16 => (Option.bind (b_X8_dayOf_143 K t r2 j15 1000 j16 ((0 : Int32))) fun j17 => (if ¬ r2 = 0 then (Option.bind (some (yS j17 t 6 (((j17 t 39) + j15) - ((j17 t 39) + j15) / r2 * r2))) fun M19 => (some M19)) else none))))))))))))) else none)
set_option maxHeartbeats 4000000 in
set_option maxRecDepth 100000 in
theorem m_X8_dayOf (K : yK) (M : yM) (t : Nat) : yMet yX8_dayOf cX8_dayOf 5 none rm_X8_dayOf K M [.ref t] (b_X8_dayOf K M t) (yGv K) := by
  refine yM_intro (by decide) (Nat.le_of_ble_eq_true rfl) (fun X r h C E => ?_)
  replace C : yCx X cX8_dayOf RX8 "dayOf" rm_X8_dayOf 5 := C
  show Y X K M 0 0 0 [(0, .ref t)] []
  unfold b_X8_dayOf at h
  refine y_aload_n C dX8_dayOf_0 rfl ?_
  obtain ⟨g1, h⟩ := gd h
  obtain ⟨r2, hr2, h⟩ := ob h
  refine y_cV C [] (m_X8_pagesAll K M t) hr2 g1 cw_X8_119 rfl (by decide) ⟨rfl, rfl⟩ ⟨Nat.zero_le _, Nat.zero_le _⟩ (Nat.le_of_ble_eq_true rfl) rfl rfl rfl dX8_dayOf_1 ?_
  refine y_istore_n C dX8_dayOf_4 (by decide) (L' := [(1, .int r2), (0, .ref t)]) rfl ?_
  refine y_aload_n C dX8_dayOf_5 rfl ?_
  refine y_dup C dX8_dayOf_6 rfl ?_
  refine y_geti C fl_X8_107 g1 dX8_dayOf_7 ?_
  refine y_iconst C dX8_dayOf_10 kc_1 ?_
  refine y_iadd C dX8_dayOf_11 ?_
  obtain ⟨M3, eM3, h⟩ := ob h
  have eM3 := Option.some.inj eM3
  refine y_puti C fl_X8_107 rfl g1 rfl rfl dX8_dayOf_12 eM3 ?_
  refine y_aload_n C dX8_dayOf_15 rfl ?_
  refine y_iconst C dX8_dayOf_16 kc_0 ?_
  obtain ⟨M4, eM4, h⟩ := ob h
  have eM4 := Option.some.inj eM4
  refine y_puti C fl_X8_215 rfl g1 rfl rfl dX8_dayOf_17 eM4 ?_
  refine y_iload_n C dX8_dayOf_20 rfl ?_
  refine y_if_le C dX8_dayOf_21 (tgt := 208) rfl (fun c5 => ?_) (fun c5 => ?_)
  · have h := itT c5 h
    have e0 := Option.some.inj h
    subst e0
    exact y_vret C E (Nat.zero_le _) (Nat.zero_le _) dX8_dayOf_208
  · have h := itF c5 h
    refine y_aload_n C dX8_dayOf_24 rfl ?_
    refine y_aload_n C dX8_dayOf_25 rfl ?_
    refine y_geti C fl_X8_22 g1 dX8_dayOf_26 ?_
    refine y_iconst C dX8_dayOf_29 kc_m1 ?_
    obtain ⟨j7, hj7, h⟩ := ob h
    have hJj7 : Y X K M4 0 0 50 [(1, .int r2), (0, .ref t)] [.int j7, .ref t] := by
      obtain ⟨M10, eM10, h⟩ := ob h
      have eM10 := Option.some.inj eM10
      refine y_puti C fl_X8_245 rfl g1 rfl rfl dX8_dayOf_50 eM10 ?_
      refine y_aload_n C dX8_dayOf_53 rfl ?_
      refine y_iconst C dX8_dayOf_54 kc_m1 ?_
      obtain ⟨M11, eM11, h⟩ := ob h
      have eM11 := Option.some.inj eM11
      refine y_puti C fl_X8_22 rfl g1 rfl rfl dX8_dayOf_55 eM11 ?_
      refine y_aload_n C dX8_dayOf_58 rfl ?_
      refine y_iconst C dX8_dayOf_59 kc_0 ?_
      refine y_aload_n C dX8_dayOf_60 rfl ?_
      refine y_aload_n C dX8_dayOf_61 rfl ?_
      refine y_geti C fl_X8_245 g1 dX8_dayOf_62 ?_
      obtain ⟨r12, hr12, h⟩ := ob h
      refine y_cV C [.int (M11 t 39)] (m_X8_entryOn K M11 t ((M11 t 39))) hr12 g1 cw_X8_248 rfl (by decide) ⟨rfl, rfl⟩ ⟨Nat.zero_le _, Nat.zero_le _⟩ (Nat.le_of_ble_eq_true rfl) rfl rfl rfl dX8_dayOf_65 ?_
      refine y_iconst C dX8_dayOf_68 kc_0 ?_
      refine y_iconst C dX8_dayOf_69 kc_0 ?_
      obtain ⟨r13, hr13, h⟩ := ob h
      refine y_cV C [.int (0 : Int32), .int r12, .int (0 : Int32), .int (0 : Int32)] (m_X8_asksOf K M11 t ((0 : Int32)) r12 ((0 : Int32)) ((0 : Int32))) hr13 g1 cw_X8_204 rfl (by decide) ⟨rfl, rfl⟩ ⟨Nat.zero_le _, Nat.zero_le _⟩ (Nat.le_of_ble_eq_true rfl) rfl rfl rfl dX8_dayOf_70 ?_
      refine y_istore_n C dX8_dayOf_73 (by decide) (L' := [(2, .int r13.1), (1, .int r2), (0, .ref t)]) rfl ?_
      refine y_iload_n C dX8_dayOf_74 rfl ?_
      refine y_iload_n C dX8_dayOf_75 rfl ?_
      obtain ⟨j15, hj15, h⟩ := ob h
      have hJj15 : Y X K r13.2 0 0 84 [(1, .int r2), (0, .ref t)] [.int j15] := by
        refine y_istore_n C dX8_dayOf_84 (by decide) (L' := [(2, .int j15), (1, .int r2), (0, .ref t)]) rfl ?_
        refine y_iconst C dX8_dayOf_85 kc_0 ?_
        refine y_istore_n C dX8_dayOf_86 (by decide) (L' := [(3, .int (0)), (2, .int j15), (1, .int r2), (0, .ref t)]) rfl ?_
        obtain ⟨j16, hj16, h⟩ := ob h
        refine y_sel [0, 1, 2, 3] rfl (l_X8_dayOf_87 C 1000 _ _ _ hj16 ?_)
        refine y_iconst C dX8_dayOf_141 kc_0 ?_
        refine y_istore_n C dX8_dayOf_142 (by decide) (L' := [(3, .int (0)), (0, .ref t), (1, .int r2), (2, .int j15)]) rfl ?_
        obtain ⟨j17, hj17, h⟩ := ob h
        refine y_sel [0, 1, 2, 3] rfl (l_X8_dayOf_143 C 1000 _ _ _ hj17 ?_)
        refine y_aload_n C dX8_dayOf_196 rfl ?_
        refine y_aload_n C dX8_dayOf_197 rfl ?_
        refine y_geti C fl_X8_245 g1 dX8_dayOf_198 ?_
        refine y_iload_n C dX8_dayOf_201 rfl ?_
        refine y_iadd C dX8_dayOf_202 ?_
        refine y_iload_n C dX8_dayOf_203 rfl ?_
        obtain ⟨g18, h⟩ := gp h
        refine y_irem C dX8_dayOf_204 g18 ?_
        obtain ⟨M19, eM19, h⟩ := ob h
        have eM19 := Option.some.inj eM19
        refine y_puti C fl_X8_104 rfl g1 rfl rfl dX8_dayOf_205 eM19 ?_
        have e0 := Option.some.inj h
        subst e0
        exact y_vret C E (Nat.zero_le _) (Nat.zero_le _) dX8_dayOf_208
      replace h := hj15
      refine y_icmp_le C dX8_dayOf_76 (tgt := 83) rfl (fun c14 => ?_) (fun c14 => ?_)
      · have h := itT c14 h
        refine y_iload_n C dX8_dayOf_83 rfl ?_
        have e0 := Option.some.inj h
        subst e0
        exact y_sel [1, 0] rfl hJj15
      · have h := itF c14 h
        refine y_iload_n C dX8_dayOf_79 rfl ?_
        refine y_goto C dX8_dayOf_80 (tgt := 84) rfl ?_
        have e0 := Option.some.inj h
        subst e0
        exact y_sel [1, 0] rfl hJj15
    replace h := hj7
    refine y_icmp_ne C dX8_dayOf_30 (tgt := 42) rfl (fun c6 => ?_) (fun c6 => ?_)
    · have h := itF c6 h
      refine y_aload_n C dX8_dayOf_42 rfl ?_
      refine y_aload_n C dX8_dayOf_43 rfl ?_
      refine y_geti C fl_X8_22 g1 dX8_dayOf_44 ?_
      obtain ⟨r8, hr8, h⟩ := ob h
      refine y_cV C [.int (M4 t 8)] (m_X8_firstPage K M4 t ((M4 t 8))) hr8 g1 cw_X8_101 rfl (by decide) ⟨rfl, rfl⟩ ⟨Nat.zero_le _, Nat.zero_le _⟩ (Nat.le_of_ble_eq_true rfl) rfl rfl rfl dX8_dayOf_47 ?_
      have e0 := Option.some.inj h
      subst e0
      exact y_sel [1, 0] rfl hJj7
    · have h := itT c6 h
      refine y_aload_n C dX8_dayOf_33 rfl ?_
      refine y_geti C fl_X8_104 g1 dX8_dayOf_34 ?_
      refine y_iload_n C dX8_dayOf_37 rfl ?_
      obtain ⟨g9, h⟩ := gp h
      refine y_irem C dX8_dayOf_38 g9 ?_
      refine y_goto C dX8_dayOf_39 (tgt := 50) rfl ?_
      have e0 := Option.some.inj h
      subst e0
      exact y_sel [1, 0] rfl hJj7
def b_X8_doneBy_4 (K : yK) (M : yM) (t : Nat) (x_1 : Int32) : Nat → Int32 → Int32 → Option Int32
  | 0, _, _ => none
  | n + 1, u4_2, u4_3 => (if gO K t 7 = true then (if (M t 4) ≤ u4_3 then (some u4_2) else (Option.bind (K.2.2 t 5) fun q3 => (if gA K q3 u4_3 = true then (Option.bind (if ((M q3 (u4_3).toNatClampNeg) &&& (x_1 ^^^ (-1 : Int32))) = 0 then (some ((1 : Int32) <<< (u4_3 &&& 31))) else (some (0 : Int32))) fun j6 => (Option.bind (some (u4_2 ||| j6)) fun v7 => (Option.bind (some (u4_3 + (1 : Int32))) fun v8 => (b_X8_doneBy_4 K M t x_1 n v7 v8)))) else none))) else none)
set_option maxHeartbeats 4000000 in
set_option maxRecDepth 100000 in
theorem l_X8_doneBy_4 {X : yX} {K : yK} {M : yM} {t : Nat} {x_1 : Int32} (C : yCx X cX8_doneBy RX8 "doneBy" rm_X8_doneBy 4) : ∀ (n : Nat) (u4_2 : Int32) (u4_3 : Int32) (x : Int32), b_X8_doneBy_4 K M t x_1 n u4_2 u4_3 = some x → ∀ (hX : Y X K M 0 0 41 [(2, .int x)] []), Y X K M 0 0 4 [(0, .ref t), (1, .int x_1), (2, .int u4_2), (3, .int u4_3)] [] := by
  intro n
  induction n with
  | zero =>
    intro u4_2 u4_3 x h
    exact nomatch (show (none : Option _) = some x from h)
  | succ n ih =>
    intro u4_2 u4_3 x h hX
    rw [b_X8_doneBy_4] at h
    refine y_iload_n C dX8_doneBy_4 rfl ?_
    refine y_aload_n C dX8_doneBy_5 rfl ?_
    obtain ⟨g1, h⟩ := gd h
    refine y_geti C fl_X8_94 g1 dX8_doneBy_6 ?_
    refine y_icmp_ge C dX8_doneBy_9 (tgt := 41) rfl (fun c2 => ?_) (fun c2 => ?_)
    · have h := itT c2 h
      have e0 := Option.some.inj h
      subst e0
      exact y_sel [2] rfl hX
    · have h := itF c2 h
      refine y_iload_n C dX8_doneBy_12 rfl ?_
      refine y_aload_n C dX8_doneBy_13 rfl ?_
      obtain ⟨q3, hq3, h⟩ := ob h
      refine y_getr C fl_X8_19 g1 hq3 dX8_doneBy_14 ?_
      refine y_iload_n C dX8_doneBy_17 rfl ?_
      obtain ⟨g4, h⟩ := gd h
      refine y_iald C g4 dX8_doneBy_18 ?_
      refine y_iload_n C dX8_doneBy_19 rfl ?_
      refine y_iconst C dX8_doneBy_20 kc_m1 ?_
      refine y_ixor C dX8_doneBy_21 ?_
      refine y_iand C dX8_doneBy_22 ?_
      obtain ⟨j6, hj6, h⟩ := ob h
      have hJj6 : Y X K M 0 0 33 [(0, .ref t), (1, .int x_1), (3, .int u4_3)] [.int j6, .int u4_2] := by
        refine y_ior C dX8_doneBy_33 ?_
        obtain ⟨v7, ev7, h⟩ := ob h
        have ev7 := Option.some.inj ev7
        refine y_istore_n C dX8_doneBy_34 (by decide) (L' := [(2, .int v7), (0, .ref t), (1, .int x_1), (3, .int u4_3)]) (by subst ev7; rfl) ?_
        obtain ⟨v8, ev8, h⟩ := ob h
        have ev8 := Option.some.inj ev8
        refine y_iinc C dX8_doneBy_35 (by decide) rfl (v := v8) (by subst ev8; rfl) (L' := [(3, .int v8), (2, .int v7), (0, .ref t), (1, .int x_1)]) rfl ?_
        refine y_goto C dX8_doneBy_38 (tgt := 4) rfl ?_
        exact y_sel [0, 1, 2, 3] rfl (ih _ _ _  h hX)
      replace h := hj6
      refine y_if_ne C dX8_doneBy_23 (tgt := 32) rfl (fun c5 => ?_) (fun c5 => ?_)
      · have h := itF c5 h
        refine y_iconst C dX8_doneBy_32 kc_0 ?_
        have e0 := Option.some.inj h
        subst e0
        exact y_sel [0, 1, 3] rfl hJj6
      · have h := itT c5 h
        refine y_iconst C dX8_doneBy_26 kc_1 ?_
        refine y_iload_n C dX8_doneBy_27 rfl ?_
        refine y_ishl C dX8_doneBy_28 ?_
        refine y_goto C dX8_doneBy_29 (tgt := 33) rfl ?_
        have e0 := Option.some.inj h
        subst e0
        exact y_sel [0, 1, 3] rfl hJj6
set_option maxRecDepth 100000 in
def b_X8_doneBy (K : yK) (M : yM) (t : Nat) (x1 : Int32) : Option Int32 := (Option.bind (b_X8_doneBy_4 K M t x1 1000 ((0 : Int32)) ((0 : Int32))) fun j1 => (some j1))
set_option maxHeartbeats 4000000 in
set_option maxRecDepth 100000 in
theorem m_X8_doneBy (K : yK) (M : yM) (t : Nat) (x1 : Int32) : yMet yX8_doneBy cX8_doneBy 4 (Option.some Jvm.ClassFile.FieldType.int) rm_X8_doneBy K M [.ref t, .int x1] (b_X8_doneBy K M t x1) (yFi K M) := by
  refine yM_intro (by decide) (Nat.le_of_ble_eq_true rfl) (fun X r h C E => ?_)
  replace C : yCx X cX8_doneBy RX8 "doneBy" rm_X8_doneBy 4 := C
  show Y X K M 0 0 0 [(0, .ref t), (1, .int x1)] []
  unfold b_X8_doneBy at h
  refine y_iconst C dX8_doneBy_0 kc_0 ?_
  refine y_istore_n C dX8_doneBy_1 (by decide) (L' := [(2, .int (0)), (0, .ref t), (1, .int x1)]) rfl ?_
  refine y_iconst C dX8_doneBy_2 kc_0 ?_
  refine y_istore_n C dX8_doneBy_3 (by decide) (L' := [(3, .int (0)), (2, .int (0)), (0, .ref t), (1, .int x1)]) rfl ?_
  obtain ⟨j1, hj1, h⟩ := ob h
  refine y_sel [0, 1, 2, 3] rfl (l_X8_doneBy_4 C 1000 _ _ _ hj1 ?_)
  refine y_iload_n C dX8_doneBy_41 rfl ?_
  have e0 := Option.some.inj h
  subst e0
  exact y_iret C E (Nat.zero_le _) (Nat.zero_le _) dX8_doneBy_42
set_option maxRecDepth 100000 in
def b_X8_behindOf (K : yK) (M : yM) (t : Nat) (x1 : Int32) : Option Int32 := (if gO K t 7 = true then (Option.bind (K.2.2 t 3) fun q2 => (if gA K q2 (((3 : Int32) * x1) + (2 : Int32)) = true then (Option.bind (some (M q2 ((((3 : Int32) * x1) + (2 : Int32))).toNatClampNeg)) fun v4 => (if v4 = (-1 : Int32) then (some (999 : Int32)) else (Option.bind (b_X8_within K M (((M t 7) - v4)) ((0 : Int32)) ((999999 : Int32))) fun r6 => (some r6)))) else none)) else none)
set_option maxHeartbeats 4000000 in
set_option maxRecDepth 100000 in
theorem m_X8_behindOf (K : yK) (M : yM) (t : Nat) (x1 : Int32) : yMet yX8_behindOf cX8_behindOf 3 (Option.some Jvm.ClassFile.FieldType.int) rm_X8_behindOf K M [.ref t, .int x1] (b_X8_behindOf K M t x1) (yFi K M) := by
  refine yM_intro (by decide) (Nat.le_of_ble_eq_true rfl) (fun X r h C E => ?_)
  replace C : yCx X cX8_behindOf RX8 "behindOf" rm_X8_behindOf 3 := C
  show Y X K M 0 0 0 [(0, .ref t), (1, .int x1)] []
  unfold b_X8_behindOf at h
  refine y_aload_n C dX8_behindOf_0 rfl ?_
  obtain ⟨g1, h⟩ := gd h
  obtain ⟨q2, hq2, h⟩ := ob h
  refine y_getr C fl_X8_16 g1 hq2 dX8_behindOf_1 ?_
  refine y_iconst C dX8_behindOf_4 kc_3 ?_
  refine y_iload_n C dX8_behindOf_5 rfl ?_
  refine y_imul C dX8_behindOf_6 ?_
  refine y_iconst C dX8_behindOf_7 kc_2 ?_
  refine y_iadd C dX8_behindOf_8 ?_
  obtain ⟨g3, h⟩ := gd h
  refine y_iald C g3 dX8_behindOf_9 ?_
  obtain ⟨v4, ev4, h⟩ := ob h
  have ev4 := Option.some.inj ev4
  refine y_istore_n C dX8_behindOf_10 (by decide) (L' := [(2, .int v4), (0, .ref t), (1, .int x1)]) (by subst ev4; rfl) ?_
  refine y_iload_n C dX8_behindOf_11 rfl ?_
  refine y_iconst C dX8_behindOf_12 kc_m1 ?_
  refine y_icmp_ne C dX8_behindOf_13 (tgt := 22) rfl (fun c5 => ?_) (fun c5 => ?_)
  · have h := itF c5 h
    refine y_aload_n C dX8_behindOf_22 rfl ?_
    refine y_geti C fl_X8_107 g1 dX8_behindOf_23 ?_
    refine y_iload_n C dX8_behindOf_26 rfl ?_
    refine y_isub C dX8_behindOf_27 ?_
    refine y_iconst C dX8_behindOf_28 kc_0 ?_
    refine y_ldc C wd_1122 dX8_behindOf_29 ?_
    obtain ⟨r6, hr6, h⟩ := ob h
    refine y_cS C [.int ((M t 7) - v4), .int (0 : Int32), .int (999999 : Int32)] (m_X8_within K M (((M t 7) - v4)) ((0 : Int32)) ((999999 : Int32))) hr6 cw_X8_122 rfl (by decide) ⟨rfl, rfl⟩ ⟨Nat.zero_le _, Nat.zero_le _⟩ (Nat.le_of_ble_eq_true rfl) rfl rfl rfl dX8_behindOf_31 ?_
    have e0 := Option.some.inj h
    subst e0
    exact y_iret C E (Nat.zero_le _) (Nat.zero_le _) dX8_behindOf_34
  · have h := itT c5 h
    refine y_sipush C dX8_behindOf_16 ks_999 ?_
    refine y_goto C dX8_behindOf_19 (tgt := 34) rfl ?_
    have e0 := Option.some.inj h
    subst e0
    exact y_iret C E (Nat.zero_le _) (Nat.zero_le _) dX8_behindOf_34
def b_X8_ones_4 (K : yK) (M : yM) (x_0 : Int32) : Nat → Int32 → Int32 → Option Int32
  | 0, _, _ => none
  | n + 1, u4_1, u4_2 => (if (12 : Int32) ≤ u4_2 then (some u4_1) else (Option.bind (some (u4_1 + ((x_0 >>> (u4_2 &&& 31)) &&& (1 : Int32)))) fun v2 => (Option.bind (some (u4_2 + (1 : Int32))) fun v3 => (b_X8_ones_4 K M x_0 n v2 v3))))
set_option maxHeartbeats 4000000 in
set_option maxRecDepth 100000 in
theorem l_X8_ones_4 {X : yX} {K : yK} {M : yM} {x_0 : Int32} (C : yCx X cX8_ones RX8 "ones" rm_X8_ones 3) : ∀ (n : Nat) (u4_1 : Int32) (u4_2 : Int32) (x : Int32), b_X8_ones_4 K M x_0 n u4_1 u4_2 = some x → ∀ (hX : Y X K M 0 0 24 [(1, .int x)] []), Y X K M 0 0 4 [(0, .int x_0), (1, .int u4_1), (2, .int u4_2)] [] := by
  intro n
  induction n with
  | zero =>
    intro u4_1 u4_2 x h
    exact nomatch (show (none : Option _) = some x from h)
  | succ n ih =>
    intro u4_1 u4_2 x h hX
    rw [b_X8_ones_4] at h
    refine y_iload_n C dX8_ones_4 rfl ?_
    refine y_bipush C dX8_ones_5 kb_12 ?_
    refine y_icmp_ge C dX8_ones_7 (tgt := 24) rfl (fun c1 => ?_) (fun c1 => ?_)
    · have h := itT c1 h
      have e0 := Option.some.inj h
      subst e0
      exact y_sel [1] rfl hX
    · have h := itF c1 h
      refine y_iload_n C dX8_ones_10 rfl ?_
      refine y_iload_n C dX8_ones_11 rfl ?_
      refine y_iload_n C dX8_ones_12 rfl ?_
      refine y_ishr C dX8_ones_13 ?_
      refine y_iconst C dX8_ones_14 kc_1 ?_
      refine y_iand C dX8_ones_15 ?_
      refine y_iadd C dX8_ones_16 ?_
      obtain ⟨v2, ev2, h⟩ := ob h
      have ev2 := Option.some.inj ev2
      refine y_istore_n C dX8_ones_17 (by decide) (L' := [(1, .int v2), (0, .int x_0), (2, .int u4_2)]) (by subst ev2; rfl) ?_
      obtain ⟨v3, ev3, h⟩ := ob h
      have ev3 := Option.some.inj ev3
      refine y_iinc C dX8_ones_18 (by decide) rfl (v := v3) (by subst ev3; rfl) (L' := [(2, .int v3), (1, .int v2), (0, .int x_0)]) rfl ?_
      refine y_goto C dX8_ones_21 (tgt := 4) rfl ?_
      exact y_sel [0, 1, 2] rfl (ih _ _ _  h hX)
set_option maxRecDepth 100000 in
def b_X8_ones (K : yK) (M : yM) (x1 : Int32) : Option Int32 := (Option.bind (b_X8_ones_4 K M x1 1000 ((0 : Int32)) ((0 : Int32))) fun j1 => (some j1))
set_option maxHeartbeats 4000000 in
set_option maxRecDepth 100000 in
theorem m_X8_ones (K : yK) (M : yM) (x1 : Int32) : yMet yX8_ones cX8_ones 3 (Option.some Jvm.ClassFile.FieldType.int) rm_X8_ones K M [.int x1] (b_X8_ones K M x1) (yFi K M) := by
  refine yM_intro (by decide) (Nat.le_of_ble_eq_true rfl) (fun X r h C E => ?_)
  replace C : yCx X cX8_ones RX8 "ones" rm_X8_ones 3 := C
  show Y X K M 0 0 0 [(0, .int x1)] []
  unfold b_X8_ones at h
  refine y_iconst C dX8_ones_0 kc_0 ?_
  refine y_istore_n C dX8_ones_1 (by decide) (L' := [(1, .int (0)), (0, .int x1)]) rfl ?_
  refine y_iconst C dX8_ones_2 kc_0 ?_
  refine y_istore_n C dX8_ones_3 (by decide) (L' := [(2, .int (0)), (1, .int (0)), (0, .int x1)]) rfl ?_
  obtain ⟨j1, hj1, h⟩ := ob h
  refine y_sel [0, 1, 2] rfl (l_X8_ones_4 C 1000 _ _ _ hj1 ?_)
  refine y_iload_n C dX8_ones_24 rfl ?_
  have e0 := Option.some.inj h
  subst e0
  exact y_iret C E (Nat.zero_le _) (Nat.zero_le _) dX8_ones_25
set_option maxRecDepth 100000 in
def b_X8_holdsItself (K : yK) (M : yM) (t : Nat) (x1 : Int32) : Option (Bool × yM) := (if gO K t 7 = true then (Option.bind (b_X8_behindOf K M t x1) fun r2 => (Option.bind (K.2.2 t 2) fun q3 => (if gA K q3 x1 = true then (Option.bind (some (M q3 (x1).toNatClampNeg)) fun v5 => (Option.bind (b_X8_ones K M ((M t 10))) fun r6 => (Option.bind (b_X8_asksOf K M t ((1 : Int32)) x1 r6 r2) fun r7 => (Option.bind (if r7.1 = (1 : Int32) then (some true) else (some false)) fun j9 => (Option.bind (if j9 = true then (Option.bind (K.2.2 t 3) fun q12 => (if gA K q12 (((3 : Int32) * x1) + (2 : Int32)) = true then (if (r7.2 q12 ((((3 : Int32) * x1) + (2 : Int32))).toNatClampNeg) = (r7.2 t 7) then (some true) else (some false)) else none)) else (some false)) fun j11 => (Option.bind (if j11 = true then (some true) else (if j9 = true then (if v5 < r2 then (some false) else (some true)) else (some false))) fun j16 => (Option.bind (some ((r7.2 t 7) - (r7.2 t 7) / (10 : Int32) * (10 : Int32))) fun v19 => (Option.bind (K.2.2 t 1) fun q20 => (if gA K q20 x1 = true then (if (r7.2 q20 (x1).toNatClampNeg) = (1 : Int32) then (some (j16, r7.2)) else (if (r7.2 q20 (x1).toNatClampNeg) = (2 : Int32) then (some (j11, r7.2)) else (if (r7.2 q20 (x1).toNatClampNeg) = (3 : Int32) then (if j16 = true then (if (v5 / (2 : Int32)) ≤ v19 then (some (true, r7.2)) else (if v19 = v5 then (some (true, r7.2)) else (some (false, r7.2)))) else (if v19 = v5 then (some (true, r7.2)) else (some (false, r7.2)))) else (if (r7.2 q20 (x1).toNatClampNeg) = (4 : Int32) then (if j11 = true then (some (true, r7.2)) else (if v5 ≤ (4 : Int32) then (some (false, r7.2)) else (some (true, r7.2)))) else (if (r7.2 q20 (x1).toNatClampNeg) = (5 : Int32) then (if j11 = true then (if (r2 - r2 / (2 : Int32) * (2 : Int32)) = (v5 - v5 / (2 : Int32) * (2 : Int32)) then (some (true, r7.2)) else (some (false, r7.2))) else (some (false, r7.2))) else (some (j11, r7.2))))))) else none))))))))) else none))) else none)
set_option maxHeartbeats 4000000 in
set_option maxRecDepth 100000 in
theorem m_X8_holdsItself (K : yK) (M : yM) (t : Nat) (x1 : Int32) : yMet yX8_holdsItself cX8_holdsItself 8 (Option.some Jvm.ClassFile.FieldType.boolean) rm_X8_holdsItself K M [.ref t, .int x1] (b_X8_holdsItself K M t x1) (yGb K) := by
  refine yM_intro (by decide) (Nat.le_of_ble_eq_true rfl) (fun X r h C E => ?_)
  replace C : yCx X cX8_holdsItself RX8 "holdsItself" rm_X8_holdsItself 8 := C
  show Y X K M 0 0 0 [(0, .ref t), (1, .int x1)] []
  unfold b_X8_holdsItself at h
  refine y_aload_n C dX8_holdsItself_0 rfl ?_
  refine y_iload_n C dX8_holdsItself_1 rfl ?_
  obtain ⟨g1, h⟩ := gd h
  obtain ⟨r2, hr2, h⟩ := ob h
  refine y_cV C [.int x1] (m_X8_behindOf K M t x1) hr2 g1 cw_X8_212 rfl (by decide) ⟨rfl, rfl⟩ ⟨Nat.zero_le _, Nat.zero_le _⟩ (Nat.le_of_ble_eq_true rfl) rfl rfl rfl dX8_holdsItself_2 ?_
  refine y_istore_n C dX8_holdsItself_5 (by decide) (L' := [(2, .int r2), (0, .ref t), (1, .int x1)]) rfl ?_
  refine y_aload_n C dX8_holdsItself_6 rfl ?_
  obtain ⟨q3, hq3, h⟩ := ob h
  refine y_getr C fl_X8_13 g1 hq3 dX8_holdsItself_7 ?_
  refine y_iload_n C dX8_holdsItself_10 rfl ?_
  obtain ⟨g4, h⟩ := gd h
  refine y_iald C g4 dX8_holdsItself_11 ?_
  obtain ⟨v5, ev5, h⟩ := ob h
  have ev5 := Option.some.inj ev5
  refine y_istore_n C dX8_holdsItself_12 (by decide) (L' := [(3, .int v5), (2, .int r2), (0, .ref t), (1, .int x1)]) (by subst ev5; rfl) ?_
  refine y_aload_n C dX8_holdsItself_13 rfl ?_
  refine y_iconst C dX8_holdsItself_14 kc_1 ?_
  refine y_iload_n C dX8_holdsItself_15 rfl ?_
  refine y_aload_n C dX8_holdsItself_16 rfl ?_
  refine y_geti C fl_X8_215 g1 dX8_holdsItself_17 ?_
  obtain ⟨r6, hr6, h⟩ := ob h
  refine y_cS C [.int (M t 10)] (m_X8_ones K M ((M t 10))) hr6 cw_X8_218 rfl (by decide) ⟨rfl, rfl⟩ ⟨Nat.zero_le _, Nat.zero_le _⟩ (Nat.le_of_ble_eq_true rfl) rfl rfl rfl dX8_holdsItself_20 ?_
  refine y_iload_n C dX8_holdsItself_23 rfl ?_
  obtain ⟨r7, hr7, h⟩ := ob h
  refine y_cV C [.int (1 : Int32), .int x1, .int r6, .int r2] (m_X8_asksOf K M t ((1 : Int32)) x1 r6 r2) hr7 g1 cw_X8_204 rfl (by decide) ⟨rfl, rfl⟩ ⟨Nat.zero_le _, Nat.zero_le _⟩ (Nat.le_of_ble_eq_true rfl) rfl rfl rfl dX8_holdsItself_24 ?_
  refine y_iconst C dX8_holdsItself_27 kc_1 ?_
  obtain ⟨j9, hj9, h⟩ := ob h
  have hJj9 : Y X K r7.2 0 0 36 [(3, .int v5), (2, .int r2), (0, .ref t), (1, .int x1)] [.int (bI j9)] := by
    refine y_istore C dX8_holdsItself_36 (by decide) (L' := [(4, .int (bI j9)), (3, .int v5), (2, .int r2), (0, .ref t), (1, .int x1)]) rfl ?_
    refine y_iload C dX8_holdsItself_38 rfl ?_
    obtain ⟨j11, hj11, h⟩ := ob h
    have hJj11 : Y X K r7.2 0 0 65 [(4, .int (bI j9)), (3, .int v5), (2, .int r2), (0, .ref t), (1, .int x1)] [.int (bI j11)] := by
      refine y_istore C dX8_holdsItself_65 (by decide) (L' := [(5, .int (bI j11)), (4, .int (bI j9)), (3, .int v5), (2, .int r2), (0, .ref t), (1, .int x1)]) rfl ?_
      refine y_iload C dX8_holdsItself_67 rfl ?_
      obtain ⟨j16, hj16, h⟩ := ob h
      have hJj16 : Y X K r7.2 0 0 87 [(5, .int (bI j11)), (3, .int v5), (2, .int r2), (0, .ref t), (1, .int x1)] [.int (bI j16)] := by
        refine y_istore C dX8_holdsItself_87 (by decide) (L' := [(6, .int (bI j16)), (5, .int (bI j11)), (3, .int v5), (2, .int r2), (0, .ref t), (1, .int x1)]) rfl ?_
        refine y_aload_n C dX8_holdsItself_89 rfl ?_
        refine y_geti C fl_X8_107 g1 dX8_holdsItself_90 ?_
        refine y_bipush C dX8_holdsItself_93 kb_10 ?_
        refine y_irem C dX8_holdsItself_95 (by decide) ?_
        obtain ⟨v19, ev19, h⟩ := ob h
        have ev19 := Option.some.inj ev19
        refine y_istore C dX8_holdsItself_96 (by decide) (L' := [(7, .int v19), (6, .int (bI j16)), (5, .int (bI j11)), (3, .int v5), (2, .int r2), (0, .ref t), (1, .int x1)]) (by subst ev19; rfl) ?_
        refine y_aload_n C dX8_holdsItself_98 rfl ?_
        obtain ⟨q20, hq20, h⟩ := ob h
        refine y_getr C fl_X8_7 g1 hq20 dX8_holdsItself_99 ?_
        refine y_iload_n C dX8_holdsItself_102 rfl ?_
        obtain ⟨g21, h⟩ := gd h
        refine y_iald C g21 dX8_holdsItself_103 ?_
        rcases Classical.em ((r7.2 q20 (x1).toNatClampNeg) = (1 : Int32)) with c22 | c22
        · have h := itT c22 h
          refine y_tabIn C dX8_holdsItself_104 (off := 36) (tgt := 140) (by rw [c22]; decide) (by rw [c22]; decide) (by rw [c22]; rfl) rfl ?_
          refine y_iload C dX8_holdsItself_140 rfl ?_
          have e0 := Option.some.inj h
          subst e0
          exact y_bret (b := j16) C E (Nat.zero_le _) (Nat.zero_le _) dX8_holdsItself_142
        replace h := itF c22 h
        rcases Classical.em ((r7.2 q20 (x1).toNatClampNeg) = (2 : Int32)) with c23 | c23
        · have h := itT c23 h
          refine y_tabIn C dX8_holdsItself_104 (off := 100) (tgt := 204) (by rw [c23]; decide) (by rw [c23]; decide) (by rw [c23]; rfl) rfl ?_
          refine y_iload C dX8_holdsItself_204 rfl ?_
          have e0 := Option.some.inj h
          subst e0
          exact y_bret (b := j11) C E (Nat.zero_le _) (Nat.zero_le _) dX8_holdsItself_206
        replace h := itF c23 h
        rcases Classical.em ((r7.2 q20 (x1).toNatClampNeg) = (3 : Int32)) with c24 | c24
        · have h := itT c24 h
          refine y_tabIn C dX8_holdsItself_104 (off := 39) (tgt := 143) (by rw [c24]; decide) (by rw [c24]; decide) (by rw [c24]; rfl) rfl ?_
          refine y_iload C dX8_holdsItself_143 rfl ?_
          refine y_ifeqB C dX8_holdsItself_145 (tgt := 156) rfl (fun c27 => ?_) (fun c27 => ?_)
          · have h := itFb c27 h
            refine y_iload C dX8_holdsItself_156 rfl ?_
            refine y_iload_n C dX8_holdsItself_158 rfl ?_
            refine y_icmp_ne C dX8_holdsItself_159 (tgt := 166) rfl (fun c28 => ?_) (fun c28 => ?_)
            · have h := itF c28 h
              refine y_iconst C dX8_holdsItself_166 kc_0 ?_
              have e0 := Option.some.inj h
              subst e0
              exact y_bret (b := false) C E (Nat.zero_le _) (Nat.zero_le _) dX8_holdsItself_167
            · have h := itT c28 h
              refine y_iconst C dX8_holdsItself_162 kc_1 ?_
              refine y_goto C dX8_holdsItself_163 (tgt := 167) rfl ?_
              have e0 := Option.some.inj h
              subst e0
              exact y_bret (b := true) C E (Nat.zero_le _) (Nat.zero_le _) dX8_holdsItself_167
          · have h := itT c27 h
            refine y_iload C dX8_holdsItself_148 rfl ?_
            refine y_iload_n C dX8_holdsItself_150 rfl ?_
            refine y_iconst C dX8_holdsItself_151 kc_2 ?_
            refine y_idiv C dX8_holdsItself_152 (by decide) ?_
            refine y_icmp_ge C dX8_holdsItself_153 (tgt := 162) rfl (fun c29 => ?_) (fun c29 => ?_)
            · have h := itT c29 h
              refine y_iconst C dX8_holdsItself_162 kc_1 ?_
              refine y_goto C dX8_holdsItself_163 (tgt := 167) rfl ?_
              have e0 := Option.some.inj h
              subst e0
              exact y_bret (b := true) C E (Nat.zero_le _) (Nat.zero_le _) dX8_holdsItself_167
            · have h := itF c29 h
              refine y_iload C dX8_holdsItself_156 rfl ?_
              refine y_iload_n C dX8_holdsItself_158 rfl ?_
              refine y_icmp_ne C dX8_holdsItself_159 (tgt := 166) rfl (fun c30 => ?_) (fun c30 => ?_)
              · have h := itF c30 h
                refine y_iconst C dX8_holdsItself_166 kc_0 ?_
                have e0 := Option.some.inj h
                subst e0
                exact y_bret (b := false) C E (Nat.zero_le _) (Nat.zero_le _) dX8_holdsItself_167
              · have h := itT c30 h
                refine y_iconst C dX8_holdsItself_162 kc_1 ?_
                refine y_goto C dX8_holdsItself_163 (tgt := 167) rfl ?_
                have e0 := Option.some.inj h
                subst e0
                exact y_bret (b := true) C E (Nat.zero_le _) (Nat.zero_le _) dX8_holdsItself_167
        replace h := itF c24 h
        rcases Classical.em ((r7.2 q20 (x1).toNatClampNeg) = (4 : Int32)) with c25 | c25
        · have h := itT c25 h
          refine y_tabIn C dX8_holdsItself_104 (off := 64) (tgt := 168) (by rw [c25]; decide) (by rw [c25]; decide) (by rw [c25]; rfl) rfl ?_
          refine y_iload C dX8_holdsItself_168 rfl ?_
          refine y_ifneB C dX8_holdsItself_170 (tgt := 178) rfl (fun c31 => ?_) (fun c31 => ?_)
          · have h := itT c31 h
            refine y_iconst C dX8_holdsItself_178 kc_1 ?_
            refine y_goto C dX8_holdsItself_179 (tgt := 183) rfl ?_
            have e0 := Option.some.inj h
            subst e0
            exact y_bret (b := true) C E (Nat.zero_le _) (Nat.zero_le _) dX8_holdsItself_183
          · have h := itFb c31 h
            refine y_iload_n C dX8_holdsItself_173 rfl ?_
            refine y_iconst C dX8_holdsItself_174 kc_4 ?_
            refine y_icmp_le C dX8_holdsItself_175 (tgt := 182) rfl (fun c32 => ?_) (fun c32 => ?_)
            · have h := itT c32 h
              refine y_iconst C dX8_holdsItself_182 kc_0 ?_
              have e0 := Option.some.inj h
              subst e0
              exact y_bret (b := false) C E (Nat.zero_le _) (Nat.zero_le _) dX8_holdsItself_183
            · have h := itF c32 h
              refine y_iconst C dX8_holdsItself_178 kc_1 ?_
              refine y_goto C dX8_holdsItself_179 (tgt := 183) rfl ?_
              have e0 := Option.some.inj h
              subst e0
              exact y_bret (b := true) C E (Nat.zero_le _) (Nat.zero_le _) dX8_holdsItself_183
        replace h := itF c25 h
        rcases Classical.em ((r7.2 q20 (x1).toNatClampNeg) = (5 : Int32)) with c26 | c26
        · have h := itT c26 h
          refine y_tabIn C dX8_holdsItself_104 (off := 80) (tgt := 184) (by rw [c26]; decide) (by rw [c26]; decide) (by rw [c26]; rfl) rfl ?_
          refine y_iload C dX8_holdsItself_184 rfl ?_
          refine y_ifeqB C dX8_holdsItself_186 (tgt := 202) rfl (fun c33 => ?_) (fun c33 => ?_)
          · have h := itFb c33 h
            refine y_iconst C dX8_holdsItself_202 kc_0 ?_
            have e0 := Option.some.inj h
            subst e0
            exact y_bret (b := false) C E (Nat.zero_le _) (Nat.zero_le _) dX8_holdsItself_203
          · have h := itT c33 h
            refine y_iload_n C dX8_holdsItself_189 rfl ?_
            refine y_iconst C dX8_holdsItself_190 kc_2 ?_
            refine y_irem C dX8_holdsItself_191 (by decide) ?_
            refine y_iload_n C dX8_holdsItself_192 rfl ?_
            refine y_iconst C dX8_holdsItself_193 kc_2 ?_
            refine y_irem C dX8_holdsItself_194 (by decide) ?_
            refine y_icmp_ne C dX8_holdsItself_195 (tgt := 202) rfl (fun c34 => ?_) (fun c34 => ?_)
            · have h := itF c34 h
              refine y_iconst C dX8_holdsItself_202 kc_0 ?_
              have e0 := Option.some.inj h
              subst e0
              exact y_bret (b := false) C E (Nat.zero_le _) (Nat.zero_le _) dX8_holdsItself_203
            · have h := itT c34 h
              refine y_iconst C dX8_holdsItself_198 kc_1 ?_
              refine y_goto C dX8_holdsItself_199 (tgt := 203) rfl ?_
              have e0 := Option.some.inj h
              subst e0
              exact y_bret (b := true) C E (Nat.zero_le _) (Nat.zero_le _) dX8_holdsItself_203
        replace h := itF c26 h
        refine y_tabOut C dX8_holdsItself_104 (tgt := 204) (by have q0 : ((r7.2 q20 (x1).toNatClampNeg)).toInt ≠ 1 := yNe c22; have q1 : ((r7.2 q20 (x1).toNatClampNeg)).toInt ≠ 2 := yNe c23; have q2 : ((r7.2 q20 (x1).toNatClampNeg)).toInt ≠ 3 := yNe c24; have q3 : ((r7.2 q20 (x1).toNatClampNeg)).toInt ≠ 4 := yNe c25; have q4 : ((r7.2 q20 (x1).toNatClampNeg)).toInt ≠ 5 := yNe c26; omega) rfl ?_
        refine y_iload C dX8_holdsItself_204 rfl ?_
        have e0 := Option.some.inj h
        subst e0
        exact y_bret (b := j11) C E (Nat.zero_le _) (Nat.zero_le _) dX8_holdsItself_206
      replace h := hj16
      refine y_ifneB C dX8_holdsItself_69 (tgt := 82) rfl (fun c15 => ?_) (fun c15 => ?_)
      · have h := itT c15 h
        refine y_iconst C dX8_holdsItself_82 kc_1 ?_
        refine y_goto C dX8_holdsItself_83 (tgt := 87) rfl ?_
        have e0 := Option.some.inj h
        subst e0
        exact y_sel [5, 3, 2, 0, 1] rfl hJj16
      · have h := itFb c15 h
        refine y_iload C dX8_holdsItself_72 rfl ?_
        refine y_ifeqB C dX8_holdsItself_74 (tgt := 86) rfl (fun c17 => ?_) (fun c17 => ?_)
        · have h := itFb c17 h
          refine y_iconst C dX8_holdsItself_86 kc_0 ?_
          have e0 := Option.some.inj h
          subst e0
          exact y_sel [5, 3, 2, 0, 1] rfl hJj16
        · have h := itT c17 h
          refine y_iload_n C dX8_holdsItself_77 rfl ?_
          refine y_iload_n C dX8_holdsItself_78 rfl ?_
          refine y_icmp_gt C dX8_holdsItself_79 (tgt := 86) rfl (fun c18 => ?_) (fun c18 => ?_)
          · have h := itT c18 h
            refine y_iconst C dX8_holdsItself_86 kc_0 ?_
            have e0 := Option.some.inj h
            subst e0
            exact y_sel [5, 3, 2, 0, 1] rfl hJj16
          · have h := itF c18 h
            refine y_iconst C dX8_holdsItself_82 kc_1 ?_
            refine y_goto C dX8_holdsItself_83 (tgt := 87) rfl ?_
            have e0 := Option.some.inj h
            subst e0
            exact y_sel [5, 3, 2, 0, 1] rfl hJj16
    replace h := hj11
    refine y_ifeqB C dX8_holdsItself_40 (tgt := 64) rfl (fun c10 => ?_) (fun c10 => ?_)
    · have h := itFb c10 h
      refine y_iconst C dX8_holdsItself_64 kc_0 ?_
      have e0 := Option.some.inj h
      subst e0
      exact y_sel [4, 3, 2, 0, 1] rfl hJj11
    · have h := itT c10 h
      refine y_aload_n C dX8_holdsItself_43 rfl ?_
      obtain ⟨q12, hq12, h⟩ := ob h
      refine y_getr C fl_X8_16 g1 hq12 dX8_holdsItself_44 ?_
      refine y_iconst C dX8_holdsItself_47 kc_3 ?_
      refine y_iload_n C dX8_holdsItself_48 rfl ?_
      refine y_imul C dX8_holdsItself_49 ?_
      refine y_iconst C dX8_holdsItself_50 kc_2 ?_
      refine y_iadd C dX8_holdsItself_51 ?_
      obtain ⟨g13, h⟩ := gd h
      refine y_iald C g13 dX8_holdsItself_52 ?_
      refine y_aload_n C dX8_holdsItself_53 rfl ?_
      refine y_geti C fl_X8_107 g1 dX8_holdsItself_54 ?_
      refine y_icmp_ne C dX8_holdsItself_57 (tgt := 64) rfl (fun c14 => ?_) (fun c14 => ?_)
      · have h := itF c14 h
        refine y_iconst C dX8_holdsItself_64 kc_0 ?_
        have e0 := Option.some.inj h
        subst e0
        exact y_sel [4, 3, 2, 0, 1] rfl hJj11
      · have h := itT c14 h
        refine y_iconst C dX8_holdsItself_60 kc_1 ?_
        refine y_goto C dX8_holdsItself_61 (tgt := 65) rfl ?_
        have e0 := Option.some.inj h
        subst e0
        exact y_sel [4, 3, 2, 0, 1] rfl hJj11
  replace h := hj9
  refine y_icmp_ne C dX8_holdsItself_28 (tgt := 35) rfl (fun c8 => ?_) (fun c8 => ?_)
  · have h := itF c8 h
    refine y_iconst C dX8_holdsItself_35 kc_0 ?_
    have e0 := Option.some.inj h
    subst e0
    exact y_sel [3, 2, 0, 1] rfl hJj9
  · have h := itT c8 h
    refine y_iconst C dX8_holdsItself_31 kc_1 ?_
    refine y_goto C dX8_holdsItself_32 (tgt := 36) rfl ?_
    have e0 := Option.some.inj h
    subst e0
    exact y_sel [3, 2, 0, 1] rfl hJj9
def b_X8_byThemselves_4 (K : yK) (t : Nat) : Nat → yM → Int32 → Int32 → Option (Int32 × yM)
  | 0, _, _, _ => none
  | n + 1, M, u4_1, u4_2 => (if gO K t 7 = true then (if (M t 0) ≤ u4_2 then (some (u4_1, M)) else (Option.bind (b_X8_holdsItself K M t u4_2) fun r3 => (Option.bind (if r3.1 = true then (some ((1 : Int32) <<< (u4_2 &&& 31))) else (some (0 : Int32))) fun j5 => (Option.bind (some (u4_1 ||| j5)) fun v6 => (Option.bind (some (u4_2 + (1 : Int32))) fun v7 => (b_X8_byThemselves_4 K t n r3.2 v6 v7)))))) else none)
set_option maxHeartbeats 4000000 in
set_option maxRecDepth 100000 in
theorem l_X8_byThemselves_4 {X : yX} {K : yK} {t : Nat} (C : yCx X cX8_byThemselves RX8 "byThemselves" rm_X8_byThemselves 3) : ∀ (n : Nat) (M : yM) (u4_1 : Int32) (u4_2 : Int32) (x : (Int32 × yM)), b_X8_byThemselves_4 K t n M u4_1 u4_2 = some x → ∀ (hX : Y X K x.2 0 0 36 [(1, .int x.1)] []), Y X K M 0 0 4 [(0, .ref t), (1, .int u4_1), (2, .int u4_2)] [] := by
  intro n
  induction n with
  | zero =>
    intro M u4_1 u4_2 x h
    exact nomatch (show (none : Option _) = some x from h)
  | succ n ih =>
    intro M u4_1 u4_2 x h hX
    rw [b_X8_byThemselves_4] at h
    refine y_iload_n C dX8_byThemselves_4 rfl ?_
    refine y_aload_n C dX8_byThemselves_5 rfl ?_
    obtain ⟨g1, h⟩ := gd h
    refine y_geti C fl_X8_87 g1 dX8_byThemselves_6 ?_
    refine y_icmp_ge C dX8_byThemselves_9 (tgt := 36) rfl (fun c2 => ?_) (fun c2 => ?_)
    · have h := itT c2 h
      have e0 := Option.some.inj h
      subst e0
      exact y_sel [1] rfl hX
    · have h := itF c2 h
      refine y_iload_n C dX8_byThemselves_12 rfl ?_
      refine y_aload_n C dX8_byThemselves_13 rfl ?_
      refine y_iload_n C dX8_byThemselves_14 rfl ?_
      obtain ⟨r3, hr3, h⟩ := ob h
      refine y_cV C [.int u4_2] (m_X8_holdsItself K M t u4_2) hr3 g1 cw_X8_221 rfl (by decide) ⟨rfl, rfl⟩ ⟨Nat.zero_le _, Nat.zero_le _⟩ (Nat.le_of_ble_eq_true rfl) rfl rfl rfl dX8_byThemselves_15 ?_
      obtain ⟨j5, hj5, h⟩ := ob h
      have hJj5 : Y X K r3.2 0 0 28 [(0, .ref t), (2, .int u4_2)] [.int j5, .int u4_1] := by
        refine y_ior C dX8_byThemselves_28 ?_
        obtain ⟨v6, ev6, h⟩ := ob h
        have ev6 := Option.some.inj ev6
        refine y_istore_n C dX8_byThemselves_29 (by decide) (L' := [(1, .int v6), (0, .ref t), (2, .int u4_2)]) (by subst ev6; rfl) ?_
        obtain ⟨v7, ev7, h⟩ := ob h
        have ev7 := Option.some.inj ev7
        refine y_iinc C dX8_byThemselves_30 (by decide) rfl (v := v7) (by subst ev7; rfl) (L' := [(2, .int v7), (1, .int v6), (0, .ref t)]) rfl ?_
        refine y_goto C dX8_byThemselves_33 (tgt := 4) rfl ?_
        exact y_sel [0, 1, 2] rfl (ih _ _ _ _  h hX)
      replace h := hj5
      refine y_ifeqB C dX8_byThemselves_18 (tgt := 27) rfl (fun c4 => ?_) (fun c4 => ?_)
      · have h := itFb c4 h
        refine y_iconst C dX8_byThemselves_27 kc_0 ?_
        have e0 := Option.some.inj h
        subst e0
        exact y_sel [0, 2] rfl hJj5
      · have h := itT c4 h
        refine y_iconst C dX8_byThemselves_21 kc_1 ?_
        refine y_iload_n C dX8_byThemselves_22 rfl ?_
        refine y_ishl C dX8_byThemselves_23 ?_
        refine y_goto C dX8_byThemselves_24 (tgt := 28) rfl ?_
        have e0 := Option.some.inj h
        subst e0
        exact y_sel [0, 2] rfl hJj5
set_option maxRecDepth 100000 in
def b_X8_byThemselves (K : yK) (M : yM) (t : Nat) : Option (Int32 × yM) := (Option.bind (b_X8_byThemselves_4 K t 1000 M ((0 : Int32)) ((0 : Int32))) fun j1 => (some (j1.1, j1.2)))
set_option maxHeartbeats 4000000 in
set_option maxRecDepth 100000 in
theorem m_X8_byThemselves (K : yK) (M : yM) (t : Nat) : yMet yX8_byThemselves cX8_byThemselves 3 (Option.some Jvm.ClassFile.FieldType.int) rm_X8_byThemselves K M [.ref t] (b_X8_byThemselves K M t) (yGi K) := by
  refine yM_intro (by decide) (Nat.le_of_ble_eq_true rfl) (fun X r h C E => ?_)
  replace C : yCx X cX8_byThemselves RX8 "byThemselves" rm_X8_byThemselves 3 := C
  show Y X K M 0 0 0 [(0, .ref t)] []
  unfold b_X8_byThemselves at h
  refine y_iconst C dX8_byThemselves_0 kc_0 ?_
  refine y_istore_n C dX8_byThemselves_1 (by decide) (L' := [(1, .int (0)), (0, .ref t)]) rfl ?_
  refine y_iconst C dX8_byThemselves_2 kc_0 ?_
  refine y_istore_n C dX8_byThemselves_3 (by decide) (L' := [(2, .int (0)), (1, .int (0)), (0, .ref t)]) rfl ?_
  obtain ⟨j1, hj1, h⟩ := ob h
  refine y_sel [0, 1, 2] rfl (l_X8_byThemselves_4 C 1000 _ _ _ _ hj1 ?_)
  refine y_iload_n C dX8_byThemselves_36 rfl ?_
  have e0 := Option.some.inj h
  subst e0
  exact y_iret C E (Nat.zero_le _) (Nat.zero_le _) dX8_byThemselves_37
set_option maxRecDepth 100000 in
def b_X8_needsOn (K : yK) (M : yM) (t : Nat) (x1 : Int32) : Option Bool := (if gO K t 7 = true then (Option.bind (K.2.2 t 1) fun q2 => (if gA K q2 x1 = true then (if (M q2 (x1).toNatClampNeg) = (2 : Int32) then (some false) else (if (M q2 (x1).toNatClampNeg) = (4 : Int32) then (some false) else (some true))) else none)) else none)
set_option maxHeartbeats 4000000 in
set_option maxRecDepth 100000 in
theorem m_X8_needsOn (K : yK) (M : yM) (t : Nat) (x1 : Int32) : yMet yX8_needsOn cX8_needsOn 2 (Option.some Jvm.ClassFile.FieldType.boolean) rm_X8_needsOn K M [.ref t, .int x1] (b_X8_needsOn K M t x1) (yFb K M) := by
  refine yM_intro (by decide) (Nat.le_of_ble_eq_true rfl) (fun X r h C E => ?_)
  replace C : yCx X cX8_needsOn RX8 "needsOn" rm_X8_needsOn 2 := C
  show Y X K M 0 0 0 [(0, .ref t), (1, .int x1)] []
  unfold b_X8_needsOn at h
  refine y_aload_n C dX8_needsOn_0 rfl ?_
  obtain ⟨g1, h⟩ := gd h
  obtain ⟨q2, hq2, h⟩ := ob h
  refine y_getr C fl_X8_7 g1 hq2 dX8_needsOn_1 ?_
  refine y_iload_n C dX8_needsOn_4 rfl ?_
  obtain ⟨g3, h⟩ := gd h
  refine y_iald C g3 dX8_needsOn_5 ?_
  refine y_iconst C dX8_needsOn_6 kc_2 ?_
  refine y_icmp_eq C dX8_needsOn_7 (tgt := 24) rfl (fun c4 => ?_) (fun c4 => ?_)
  · have h := itT c4 h
    refine y_iconst C dX8_needsOn_24 kc_0 ?_
    have e0 := Option.some.inj h
    subst e0
    exact y_bret (b := false) C E (Nat.zero_le _) (Nat.zero_le _) dX8_needsOn_25
  · have h := itF c4 h
    refine y_aload_n C dX8_needsOn_10 rfl ?_
    refine y_getr C fl_X8_7 g1 hq2 dX8_needsOn_11 ?_
    refine y_iload_n C dX8_needsOn_14 rfl ?_
    refine y_iald C g3 dX8_needsOn_15 ?_
    refine y_iconst C dX8_needsOn_16 kc_4 ?_
    refine y_icmp_eq C dX8_needsOn_17 (tgt := 24) rfl (fun c5 => ?_) (fun c5 => ?_)
    · have h := itT c5 h
      refine y_iconst C dX8_needsOn_24 kc_0 ?_
      have e0 := Option.some.inj h
      subst e0
      exact y_bret (b := false) C E (Nat.zero_le _) (Nat.zero_le _) dX8_needsOn_25
    · have h := itF c5 h
      refine y_iconst C dX8_needsOn_20 kc_1 ?_
      refine y_goto C dX8_needsOn_21 (tgt := 25) rfl ?_
      have e0 := Option.some.inj h
      subst e0
      exact y_bret (b := true) C E (Nat.zero_le _) (Nat.zero_le _) dX8_needsOn_25
def b_X8_chainOf_9 (K : yK) (M : yM) (t : Nat) : Nat → Int32 → Int32 → Bool → Option Int32
  | 0, _, _, _ => none
  | n + 1, u9_2, u9_3, u9_4 => (if u9_4 = true then (if gO K t 7 = true then (Option.bind (b_X8_needsOn K M t u9_3) fun r3 => (Option.bind (if r3 = true then (Option.bind (K.2.2 t 3) fun q6 => (if gA K q6 (((3 : Int32) * u9_3) + (1 : Int32)) = true then (some (M q6 ((((3 : Int32) * u9_3) + (1 : Int32))).toNatClampNeg)) else none)) else (some (-1 : Int32))) fun j5 => (Option.bind (b_X8_isEntry K M t j5) fun r8 => (Option.bind (if r8 = true then (Option.bind (b_X8_within K M j5 ((0 : Int32)) ((11 : Int32))) fun r11 => (if ((u9_2 >>> (r11 &&& 31)) &&& (1 : Int32)) = 0 then (some true) else (some false))) else (some false)) fun j10 => (Option.bind (if j10 = true then (some ((1 : Int32) <<< (j5 &&& 31))) else (some (0 : Int32))) fun j14 => (Option.bind (some (u9_2 ||| j14)) fun v15 => (Option.bind (if j10 = true then (some j5) else (some u9_3)) fun j17 => (b_X8_chainOf_9 K M t n v15 j17 j10)))))))) else none) else (some u9_2))
set_option maxHeartbeats 4000000 in
set_option maxRecDepth 100000 in
theorem l_X8_chainOf_9 {X : yX} {K : yK} {M : yM} {t : Nat} (C : yCx X cX8_chainOf RX8 "chainOf" rm_X8_chainOf 6) : ∀ (n : Nat) (u9_2 : Int32) (u9_3 : Int32) (u9_4 : Bool) (x : Int32), b_X8_chainOf_9 K M t n u9_2 u9_3 u9_4 = some x → ∀ (hX : Y X K M 0 0 100 [(2, .int x)] []), Y X K M 0 0 9 [(0, .ref t), (2, .int u9_2), (3, .int u9_3), (4, .int (bI u9_4))] [] := by
  intro n
  induction n with
  | zero =>
    intro u9_2 u9_3 u9_4 x h
    exact nomatch (show (none : Option _) = some x from h)
  | succ n ih =>
    intro u9_2 u9_3 u9_4 x h hX
    rw [b_X8_chainOf_9] at h
    refine y_iload C dX8_chainOf_9 rfl ?_
    refine y_ifeqB C dX8_chainOf_11 (tgt := 100) rfl (fun c1 => ?_) (fun c1 => ?_)
    · have h := itFb c1 h
      have e0 := Option.some.inj h
      subst e0
      exact y_sel [2] rfl hX
    · have h := itT c1 h
      refine y_aload_n C dX8_chainOf_14 rfl ?_
      refine y_iload_n C dX8_chainOf_15 rfl ?_
      obtain ⟨g2, h⟩ := gd h
      obtain ⟨r3, hr3, h⟩ := ob h
      refine y_cV C [.int u9_3] (m_X8_needsOn K M t u9_3) hr3 g2 cw_X8_208 rfl (by decide) ⟨rfl, rfl⟩ ⟨Nat.zero_le _, Nat.zero_le _⟩ (Nat.le_of_ble_eq_true rfl) rfl rfl rfl dX8_chainOf_16 ?_
      obtain ⟨j5, hj5, h⟩ := ob h
      have hJj5 : Y X K M 0 0 36 [(0, .ref t), (2, .int u9_2), (3, .int u9_3)] [.int j5] := by
        refine y_istore C dX8_chainOf_36 (by decide) (L' := [(5, .int j5), (0, .ref t), (2, .int u9_2), (3, .int u9_3)]) rfl ?_
        refine y_aload_n C dX8_chainOf_38 rfl ?_
        refine y_iload C dX8_chainOf_39 rfl ?_
        obtain ⟨r8, hr8, h⟩ := ob h
        refine y_cV C [.int j5] (m_X8_isEntry K M t j5) hr8 g2 cw_X8_201 rfl (by decide) ⟨rfl, rfl⟩ ⟨Nat.zero_le _, Nat.zero_le _⟩ (Nat.le_of_ble_eq_true rfl) rfl rfl rfl dX8_chainOf_41 ?_
        obtain ⟨j10, hj10, h⟩ := ob h
        have hJj10 : Y X K M 0 0 67 [(5, .int j5), (0, .ref t), (2, .int u9_2), (3, .int u9_3)] [.int (bI j10)] := by
          refine y_istore C dX8_chainOf_67 (by decide) (L' := [(4, .int (bI j10)), (5, .int j5), (0, .ref t), (2, .int u9_2), (3, .int u9_3)]) rfl ?_
          refine y_iload_n C dX8_chainOf_69 rfl ?_
          refine y_iload C dX8_chainOf_70 rfl ?_
          obtain ⟨j14, hj14, h⟩ := ob h
          have hJj14 : Y X K M 0 0 83 [(4, .int (bI j10)), (5, .int j5), (0, .ref t), (3, .int u9_3)] [.int j14, .int u9_2] := by
            refine y_ior C dX8_chainOf_83 ?_
            obtain ⟨v15, ev15, h⟩ := ob h
            have ev15 := Option.some.inj ev15
            refine y_istore_n C dX8_chainOf_84 (by decide) (L' := [(2, .int v15), (4, .int (bI j10)), (5, .int j5), (0, .ref t), (3, .int u9_3)]) (by subst ev15; rfl) ?_
            refine y_iload C dX8_chainOf_85 rfl ?_
            obtain ⟨j17, hj17, h⟩ := ob h
            have hJj17 : Y X K M 0 0 96 [(2, .int v15), (4, .int (bI j10)), (0, .ref t)] [.int j17] := by
              refine y_istore_n C dX8_chainOf_96 (by decide) (L' := [(3, .int j17), (2, .int v15), (4, .int (bI j10)), (0, .ref t)]) rfl ?_
              refine y_goto C dX8_chainOf_97 (tgt := 9) rfl ?_
              exact y_sel [0, 2, 3, 4] rfl (ih _ _ _ _  h hX)
            replace h := hj17
            refine y_ifeqB C dX8_chainOf_87 (tgt := 95) rfl (fun c16 => ?_) (fun c16 => ?_)
            · have h := itFb c16 h
              refine y_iload_n C dX8_chainOf_95 rfl ?_
              have e0 := Option.some.inj h
              subst e0
              exact y_sel [2, 4, 0] rfl hJj17
            · have h := itT c16 h
              refine y_iload C dX8_chainOf_90 rfl ?_
              refine y_goto C dX8_chainOf_92 (tgt := 96) rfl ?_
              have e0 := Option.some.inj h
              subst e0
              exact y_sel [2, 4, 0] rfl hJj17
          replace h := hj14
          refine y_ifeqB C dX8_chainOf_72 (tgt := 82) rfl (fun c13 => ?_) (fun c13 => ?_)
          · have h := itFb c13 h
            refine y_iconst C dX8_chainOf_82 kc_0 ?_
            have e0 := Option.some.inj h
            subst e0
            exact y_sel [4, 5, 0, 3] rfl hJj14
          · have h := itT c13 h
            refine y_iconst C dX8_chainOf_75 kc_1 ?_
            refine y_iload C dX8_chainOf_76 rfl ?_
            refine y_ishl C dX8_chainOf_78 ?_
            refine y_goto C dX8_chainOf_79 (tgt := 83) rfl ?_
            have e0 := Option.some.inj h
            subst e0
            exact y_sel [4, 5, 0, 3] rfl hJj14
        replace h := hj10
        refine y_ifeqB C dX8_chainOf_44 (tgt := 66) rfl (fun c9 => ?_) (fun c9 => ?_)
        · have h := itFb c9 h
          refine y_iconst C dX8_chainOf_66 kc_0 ?_
          have e0 := Option.some.inj h
          subst e0
          exact y_sel [5, 0, 2, 3] rfl hJj10
        · have h := itT c9 h
          refine y_iload_n C dX8_chainOf_47 rfl ?_
          refine y_iload C dX8_chainOf_48 rfl ?_
          refine y_iconst C dX8_chainOf_50 kc_0 ?_
          refine y_bipush C dX8_chainOf_51 kb_11 ?_
          obtain ⟨r11, hr11, h⟩ := ob h
          refine y_cS C [.int j5, .int (0 : Int32), .int (11 : Int32)] (m_X8_within K M j5 ((0 : Int32)) ((11 : Int32))) hr11 cw_X8_122 rfl (by decide) ⟨rfl, rfl⟩ ⟨Nat.zero_le _, Nat.zero_le _⟩ (Nat.le_of_ble_eq_true rfl) rfl rfl rfl dX8_chainOf_53 ?_
          refine y_ishr C dX8_chainOf_56 ?_
          refine y_iconst C dX8_chainOf_57 kc_1 ?_
          refine y_iand C dX8_chainOf_58 ?_
          refine y_if_ne C dX8_chainOf_59 (tgt := 66) rfl (fun c12 => ?_) (fun c12 => ?_)
          · have h := itF c12 h
            refine y_iconst C dX8_chainOf_66 kc_0 ?_
            have e0 := Option.some.inj h
            subst e0
            exact y_sel [5, 0, 2, 3] rfl hJj10
          · have h := itT c12 h
            refine y_iconst C dX8_chainOf_62 kc_1 ?_
            refine y_goto C dX8_chainOf_63 (tgt := 67) rfl ?_
            have e0 := Option.some.inj h
            subst e0
            exact y_sel [5, 0, 2, 3] rfl hJj10
      replace h := hj5
      refine y_ifeqB C dX8_chainOf_19 (tgt := 35) rfl (fun c4 => ?_) (fun c4 => ?_)
      · have h := itFb c4 h
        refine y_iconst C dX8_chainOf_35 kc_m1 ?_
        have e0 := Option.some.inj h
        subst e0
        exact y_sel [0, 2, 3] rfl hJj5
      · have h := itT c4 h
        refine y_aload_n C dX8_chainOf_22 rfl ?_
        obtain ⟨q6, hq6, h⟩ := ob h
        refine y_getr C fl_X8_16 g2 hq6 dX8_chainOf_23 ?_
        refine y_iconst C dX8_chainOf_26 kc_3 ?_
        refine y_iload_n C dX8_chainOf_27 rfl ?_
        refine y_imul C dX8_chainOf_28 ?_
        refine y_iconst C dX8_chainOf_29 kc_1 ?_
        refine y_iadd C dX8_chainOf_30 ?_
        obtain ⟨g7, h⟩ := gd h
        refine y_iald C g7 dX8_chainOf_31 ?_
        refine y_goto C dX8_chainOf_32 (tgt := 36) rfl ?_
        have e0 := Option.some.inj h
        subst e0
        exact y_sel [0, 2, 3] rfl hJj5
set_option maxRecDepth 100000 in
def b_X8_chainOf (K : yK) (M : yM) (t : Nat) (x1 : Int32) : Option Int32 := (Option.bind (some ((1 : Int32) <<< (x1 &&& 31))) fun v1 => (Option.bind (b_X8_chainOf_9 K M t 1000 v1 x1 true) fun j2 => (some j2)))
set_option maxHeartbeats 4000000 in
set_option maxRecDepth 100000 in
theorem m_X8_chainOf (K : yK) (M : yM) (t : Nat) (x1 : Int32) : yMet yX8_chainOf cX8_chainOf 6 (Option.some Jvm.ClassFile.FieldType.int) rm_X8_chainOf K M [.ref t, .int x1] (b_X8_chainOf K M t x1) (yFi K M) := by
  refine yM_intro (by decide) (Nat.le_of_ble_eq_true rfl) (fun X r h C E => ?_)
  replace C : yCx X cX8_chainOf RX8 "chainOf" rm_X8_chainOf 6 := C
  show Y X K M 0 0 0 [(0, .ref t), (1, .int x1)] []
  unfold b_X8_chainOf at h
  refine y_iconst C dX8_chainOf_0 kc_1 ?_
  refine y_iload_n C dX8_chainOf_1 rfl ?_
  refine y_ishl C dX8_chainOf_2 ?_
  obtain ⟨v1, ev1, h⟩ := ob h
  have ev1 := Option.some.inj ev1
  refine y_istore_n C dX8_chainOf_3 (by decide) (L' := [(2, .int v1), (0, .ref t), (1, .int x1)]) (by subst ev1; rfl) ?_
  refine y_iload_n C dX8_chainOf_4 rfl ?_
  refine y_istore_n C dX8_chainOf_5 (by decide) (L' := [(3, .int x1), (2, .int v1), (0, .ref t), (1, .int x1)]) rfl ?_
  refine y_iconst C dX8_chainOf_6 kc_1 ?_
  refine y_istore C dX8_chainOf_7 (by decide) (L' := [(4, .int (1)), (3, .int x1), (2, .int v1), (0, .ref t), (1, .int x1)]) rfl ?_
  obtain ⟨j2, hj2, h⟩ := ob h
  refine y_sel [0, 2, 3, 4] rfl (l_X8_chainOf_9 C 1000 _ _ _ _ hj2 ?_)
  refine y_iload_n C dX8_chainOf_100 rfl ?_
  have e0 := Option.some.inj h
  subst e0
  exact y_iret C E (Nat.zero_le _) (Nat.zero_le _) dX8_chainOf_101
def b_X8_holding_9 (K : yK) (M : yM) (t : Nat) (x_1 : Int32) : Nat → Int32 → Int32 → Option Int32
  | 0, _, _ => none
  | n + 1, u9_2, u9_3 => (if gO K t 7 = true then (if (M t 0) ≤ u9_3 then (some u9_2) else (Option.bind (b_X8_chainOf K M t u9_3) fun r3 => (Option.bind (if (r3 &&& (x_1 ^^^ (-1 : Int32))) = 0 then (some ((1 : Int32) <<< (u9_3 &&& 31))) else (some (0 : Int32))) fun j5 => (Option.bind (some (u9_2 ||| j5)) fun v6 => (Option.bind (some (u9_3 + (1 : Int32))) fun v7 => (b_X8_holding_9 K M t x_1 n v6 v7)))))) else none)
set_option maxHeartbeats 4000000 in
set_option maxRecDepth 100000 in
theorem l_X8_holding_9 {X : yX} {K : yK} {M : yM} {t : Nat} {x_1 : Int32} (C : yCx X cX8_holding RX8 "holding" rm_X8_holding 4) : ∀ (n : Nat) (u9_2 : Int32) (u9_3 : Int32) (x : Int32), b_X8_holding_9 K M t x_1 n u9_2 u9_3 = some x → ∀ (hX : Y X K M 0 0 45 [(2, .int x)] []), Y X K M 0 0 9 [(0, .ref t), (1, .int x_1), (2, .int u9_2), (3, .int u9_3)] [] := by
  intro n
  induction n with
  | zero =>
    intro u9_2 u9_3 x h
    exact nomatch (show (none : Option _) = some x from h)
  | succ n ih =>
    intro u9_2 u9_3 x h hX
    rw [b_X8_holding_9] at h
    refine y_iload_n C dX8_holding_9 rfl ?_
    refine y_aload_n C dX8_holding_10 rfl ?_
    obtain ⟨g1, h⟩ := gd h
    refine y_geti C fl_X8_87 g1 dX8_holding_11 ?_
    refine y_icmp_ge C dX8_holding_14 (tgt := 45) rfl (fun c2 => ?_) (fun c2 => ?_)
    · have h := itT c2 h
      have e0 := Option.some.inj h
      subst e0
      exact y_sel [2] rfl hX
    · have h := itF c2 h
      refine y_iload_n C dX8_holding_17 rfl ?_
      refine y_aload_n C dX8_holding_18 rfl ?_
      refine y_iload_n C dX8_holding_19 rfl ?_
      obtain ⟨r3, hr3, h⟩ := ob h
      refine y_cV C [.int u9_3] (m_X8_chainOf K M t u9_3) hr3 g1 cw_X8_227 rfl (by decide) ⟨rfl, rfl⟩ ⟨Nat.zero_le _, Nat.zero_le _⟩ (Nat.le_of_ble_eq_true rfl) rfl rfl rfl dX8_holding_20 ?_
      refine y_iload_n C dX8_holding_23 rfl ?_
      refine y_iconst C dX8_holding_24 kc_m1 ?_
      refine y_ixor C dX8_holding_25 ?_
      refine y_iand C dX8_holding_26 ?_
      obtain ⟨j5, hj5, h⟩ := ob h
      have hJj5 : Y X K M 0 0 37 [(0, .ref t), (1, .int x_1), (3, .int u9_3)] [.int j5, .int u9_2] := by
        refine y_ior C dX8_holding_37 ?_
        obtain ⟨v6, ev6, h⟩ := ob h
        have ev6 := Option.some.inj ev6
        refine y_istore_n C dX8_holding_38 (by decide) (L' := [(2, .int v6), (0, .ref t), (1, .int x_1), (3, .int u9_3)]) (by subst ev6; rfl) ?_
        obtain ⟨v7, ev7, h⟩ := ob h
        have ev7 := Option.some.inj ev7
        refine y_iinc C dX8_holding_39 (by decide) rfl (v := v7) (by subst ev7; rfl) (L' := [(3, .int v7), (2, .int v6), (0, .ref t), (1, .int x_1)]) rfl ?_
        refine y_goto C dX8_holding_42 (tgt := 9) rfl ?_
        exact y_sel [0, 1, 2, 3] rfl (ih _ _ _  h hX)
      replace h := hj5
      refine y_if_ne C dX8_holding_27 (tgt := 36) rfl (fun c4 => ?_) (fun c4 => ?_)
      · have h := itF c4 h
        refine y_iconst C dX8_holding_36 kc_0 ?_
        have e0 := Option.some.inj h
        subst e0
        exact y_sel [0, 1, 3] rfl hJj5
      · have h := itT c4 h
        refine y_iconst C dX8_holding_30 kc_1 ?_
        refine y_iload_n C dX8_holding_31 rfl ?_
        refine y_ishl C dX8_holding_32 ?_
        refine y_goto C dX8_holding_33 (tgt := 37) rfl ?_
        have e0 := Option.some.inj h
        subst e0
        exact y_sel [0, 1, 3] rfl hJj5
set_option maxRecDepth 100000 in
def b_X8_holding (K : yK) (M : yM) (t : Nat) : Option (Int32 × yM) := (if gO K t 7 = true then (Option.bind (b_X8_byThemselves K M t) fun r2 => (Option.bind (b_X8_holding_9 K r2.2 t r2.1 1000 ((0 : Int32)) ((0 : Int32))) fun j3 => (some (j3, r2.2)))) else none)
set_option maxHeartbeats 4000000 in
set_option maxRecDepth 100000 in
theorem m_X8_holding (K : yK) (M : yM) (t : Nat) : yMet yX8_holding cX8_holding 4 (Option.some Jvm.ClassFile.FieldType.int) rm_X8_holding K M [.ref t] (b_X8_holding K M t) (yGi K) := by
  refine yM_intro (by decide) (Nat.le_of_ble_eq_true rfl) (fun X r h C E => ?_)
  replace C : yCx X cX8_holding RX8 "holding" rm_X8_holding 4 := C
  show Y X K M 0 0 0 [(0, .ref t)] []
  unfold b_X8_holding at h
  refine y_aload_n C dX8_holding_0 rfl ?_
  obtain ⟨g1, h⟩ := gd h
  obtain ⟨r2, hr2, h⟩ := ob h
  refine y_cV C [] (m_X8_byThemselves K M t) hr2 g1 cw_X8_224 rfl (by decide) ⟨rfl, rfl⟩ ⟨Nat.zero_le _, Nat.zero_le _⟩ (Nat.le_of_ble_eq_true rfl) rfl rfl rfl dX8_holding_1 ?_
  refine y_istore_n C dX8_holding_4 (by decide) (L' := [(1, .int r2.1), (0, .ref t)]) rfl ?_
  refine y_iconst C dX8_holding_5 kc_0 ?_
  refine y_istore_n C dX8_holding_6 (by decide) (L' := [(2, .int (0)), (1, .int r2.1), (0, .ref t)]) rfl ?_
  refine y_iconst C dX8_holding_7 kc_0 ?_
  refine y_istore_n C dX8_holding_8 (by decide) (L' := [(3, .int (0)), (2, .int (0)), (1, .int r2.1), (0, .ref t)]) rfl ?_
  obtain ⟨j3, hj3, h⟩ := ob h
  refine y_sel [0, 1, 2, 3] rfl (l_X8_holding_9 C 1000 _ _ _ hj3 ?_)
  refine y_iload_n C dX8_holding_45 rfl ?_
  have e0 := Option.some.inj h
  subst e0
  exact y_iret C E (Nat.zero_le _) (Nat.zero_le _) dX8_holding_46
def b_X8_lowestIn_2 (K : yK) (M : yM) (x_0 : Int32) : Nat → Int32 → Option Int32
  | 0, _ => none
  | n + 1, u2_1 => (if ((x_0 >>> (u2_1 &&& 31)) &&& (1 : Int32)) = 0 then (Option.bind (some (u2_1 + (1 : Int32))) fun v2 => (b_X8_lowestIn_2 K M x_0 n v2)) else (some u2_1))
set_option maxHeartbeats 4000000 in
set_option maxRecDepth 100000 in
theorem l_X8_lowestIn_2 {X : yX} {K : yK} {M : yM} {x_0 : Int32} (C : yCx X cX8_lowestIn RX8 "lowestIn" rm_X8_lowestIn 2) : ∀ (n : Nat) (u2_1 : Int32) (x : Int32), b_X8_lowestIn_2 K M x_0 n u2_1 = some x → ∀ (hX : Y X K M 0 0 16 [(1, .int x)] []), Y X K M 0 0 2 [(0, .int x_0), (1, .int u2_1)] [] := by
  intro n
  induction n with
  | zero =>
    intro u2_1 x h
    exact nomatch (show (none : Option _) = some x from h)
  | succ n ih =>
    intro u2_1 x h hX
    rw [b_X8_lowestIn_2] at h
    refine y_iload_n C dX8_lowestIn_2 rfl ?_
    refine y_iload_n C dX8_lowestIn_3 rfl ?_
    refine y_ishr C dX8_lowestIn_4 ?_
    refine y_iconst C dX8_lowestIn_5 kc_1 ?_
    refine y_iand C dX8_lowestIn_6 ?_
    refine y_if_ne C dX8_lowestIn_7 (tgt := 16) rfl (fun c1 => ?_) (fun c1 => ?_)
    · have h := itF c1 h
      have e0 := Option.some.inj h
      subst e0
      exact y_sel [1] rfl hX
    · have h := itT c1 h
      obtain ⟨v2, ev2, h⟩ := ob h
      have ev2 := Option.some.inj ev2
      refine y_iinc C dX8_lowestIn_10 (by decide) rfl (v := v2) (by subst ev2; rfl) (L' := [(1, .int v2), (0, .int x_0)]) rfl ?_
      refine y_goto C dX8_lowestIn_13 (tgt := 2) rfl ?_
      exact y_sel [0, 1] rfl (ih _ _  h hX)
set_option maxRecDepth 100000 in
def b_X8_lowestIn (K : yK) (M : yM) (x1 : Int32) : Option Int32 := (Option.bind (b_X8_lowestIn_2 K M x1 1000 ((0 : Int32))) fun j1 => (some j1))
set_option maxHeartbeats 4000000 in
set_option maxRecDepth 100000 in
theorem m_X8_lowestIn (K : yK) (M : yM) (x1 : Int32) : yMet yX8_lowestIn cX8_lowestIn 2 (Option.some Jvm.ClassFile.FieldType.int) rm_X8_lowestIn K M [.int x1] (b_X8_lowestIn K M x1) (yFi K M) := by
  refine yM_intro (by decide) (Nat.le_of_ble_eq_true rfl) (fun X r h C E => ?_)
  replace C : yCx X cX8_lowestIn RX8 "lowestIn" rm_X8_lowestIn 2 := C
  show Y X K M 0 0 0 [(0, .int x1)] []
  unfold b_X8_lowestIn at h
  refine y_iconst C dX8_lowestIn_0 kc_0 ?_
  refine y_istore_n C dX8_lowestIn_1 (by decide) (L' := [(1, .int (0)), (0, .int x1)]) rfl ?_
  obtain ⟨j1, hj1, h⟩ := ob h
  refine y_sel [0, 1] rfl (l_X8_lowestIn_2 C 1000 _ _ hj1 ?_)
  refine y_iload_n C dX8_lowestIn_16 rfl ?_
  have e0 := Option.some.inj h
  subst e0
  exact y_iret C E (Nat.zero_le _) (Nat.zero_le _) dX8_lowestIn_17
def b_X8_worthOf_4 (K : yK) (t : Nat) (x_1 : Int32) : Nat → yM → Int32 → Int32 → Option (Int32 × yM)
  | 0, _, _, _ => none
  | n + 1, M, u4_2, u4_3 => (if gO K t 7 = true then (if (M t 4) ≤ u4_3 then (some (u4_2, M)) else (Option.bind (if ((x_1 >>> (u4_3 &&& 31)) &&& (1 : Int32)) = (1 : Int32) then (Option.bind (K.2.2 t 5) fun q5 => (if gA K q5 u4_3 = true then (Option.bind (b_X8_lowestIn K M ((M q5 (u4_3).toNatClampNeg))) fun r7 => (Option.bind (b_X8_ones K M ((M q5 (u4_3).toNatClampNeg))) fun r8 => (Option.bind (b_X8_asksOf K M t ((2 : Int32)) r7 r8 ((0 : Int32))) fun r9 => (some (r9.1, r9.2))))) else none)) else (some ((0 : Int32), M))) fun j4 => (Option.bind (some (u4_2 + j4.1)) fun v10 => (Option.bind (some (u4_3 + (1 : Int32))) fun v11 => (b_X8_worthOf_4 K t x_1 n j4.2 v10 v11))))) else none)
set_option maxHeartbeats 4000000 in
set_option maxRecDepth 100000 in
theorem l_X8_worthOf_4 {X : yX} {K : yK} {t : Nat} {x_1 : Int32} (C : yCx X cX8_worthOf RX8 "worthOf" rm_X8_worthOf 4) : ∀ (n : Nat) (M : yM) (u4_2 : Int32) (u4_3 : Int32) (x : (Int32 × yM)), b_X8_worthOf_4 K t x_1 n M u4_2 u4_3 = some x → ∀ (hX : Y X K x.2 0 0 58 [(2, .int x.1)] []), Y X K M 0 0 4 [(0, .ref t), (1, .int x_1), (2, .int u4_2), (3, .int u4_3)] [] := by
  intro n
  induction n with
  | zero =>
    intro M u4_2 u4_3 x h
    exact nomatch (show (none : Option _) = some x from h)
  | succ n ih =>
    intro M u4_2 u4_3 x h hX
    rw [b_X8_worthOf_4] at h
    refine y_iload_n C dX8_worthOf_4 rfl ?_
    refine y_aload_n C dX8_worthOf_5 rfl ?_
    obtain ⟨g1, h⟩ := gd h
    refine y_geti C fl_X8_94 g1 dX8_worthOf_6 ?_
    refine y_icmp_ge C dX8_worthOf_9 (tgt := 58) rfl (fun c2 => ?_) (fun c2 => ?_)
    · have h := itT c2 h
      have e0 := Option.some.inj h
      subst e0
      exact y_sel [2] rfl hX
    · have h := itF c2 h
      refine y_iload_n C dX8_worthOf_12 rfl ?_
      refine y_iload_n C dX8_worthOf_13 rfl ?_
      refine y_iload_n C dX8_worthOf_14 rfl ?_
      refine y_ishr C dX8_worthOf_15 ?_
      refine y_iconst C dX8_worthOf_16 kc_1 ?_
      refine y_iand C dX8_worthOf_17 ?_
      refine y_iconst C dX8_worthOf_18 kc_1 ?_
      obtain ⟨j4, hj4, h⟩ := ob h
      have hJj4 : Y X K j4.2 0 0 50 [(0, .ref t), (1, .int x_1), (3, .int u4_3)] [.int j4.1, .int u4_2] := by
        refine y_iadd C dX8_worthOf_50 ?_
        obtain ⟨v10, ev10, h⟩ := ob h
        have ev10 := Option.some.inj ev10
        refine y_istore_n C dX8_worthOf_51 (by decide) (L' := [(2, .int v10), (0, .ref t), (1, .int x_1), (3, .int u4_3)]) (by subst ev10; rfl) ?_
        obtain ⟨v11, ev11, h⟩ := ob h
        have ev11 := Option.some.inj ev11
        refine y_iinc C dX8_worthOf_52 (by decide) rfl (v := v11) (by subst ev11; rfl) (L' := [(3, .int v11), (2, .int v10), (0, .ref t), (1, .int x_1)]) rfl ?_
        refine y_goto C dX8_worthOf_55 (tgt := 4) rfl ?_
        exact y_sel [0, 1, 2, 3] rfl (ih _ _ _ _  h hX)
      replace h := hj4
      refine y_icmp_ne C dX8_worthOf_19 (tgt := 49) rfl (fun c3 => ?_) (fun c3 => ?_)
      · have h := itF c3 h
        refine y_iconst C dX8_worthOf_49 kc_0 ?_
        have e0 := Option.some.inj h
        subst e0
        exact y_sel [0, 1, 3] rfl hJj4
      · have h := itT c3 h
        refine y_aload_n C dX8_worthOf_22 rfl ?_
        refine y_iconst C dX8_worthOf_23 kc_2 ?_
        refine y_aload_n C dX8_worthOf_24 rfl ?_
        obtain ⟨q5, hq5, h⟩ := ob h
        refine y_getr C fl_X8_19 g1 hq5 dX8_worthOf_25 ?_
        refine y_iload_n C dX8_worthOf_28 rfl ?_
        obtain ⟨g6, h⟩ := gd h
        refine y_iald C g6 dX8_worthOf_29 ?_
        obtain ⟨r7, hr7, h⟩ := ob h
        refine y_cS C [.int (M q5 (u4_3).toNatClampNeg)] (m_X8_lowestIn K M ((M q5 (u4_3).toNatClampNeg))) hr7 cw_X8_236 rfl (by decide) ⟨rfl, rfl⟩ ⟨Nat.zero_le _, Nat.zero_le _⟩ (Nat.le_of_ble_eq_true rfl) rfl rfl rfl dX8_worthOf_30 ?_
        refine y_aload_n C dX8_worthOf_33 rfl ?_
        refine y_getr C fl_X8_19 g1 hq5 dX8_worthOf_34 ?_
        refine y_iload_n C dX8_worthOf_37 rfl ?_
        refine y_iald C g6 dX8_worthOf_38 ?_
        obtain ⟨r8, hr8, h⟩ := ob h
        refine y_cS C [.int (M q5 (u4_3).toNatClampNeg)] (m_X8_ones K M ((M q5 (u4_3).toNatClampNeg))) hr8 cw_X8_218 rfl (by decide) ⟨rfl, rfl⟩ ⟨Nat.zero_le _, Nat.zero_le _⟩ (Nat.le_of_ble_eq_true rfl) rfl rfl rfl dX8_worthOf_39 ?_
        refine y_iconst C dX8_worthOf_42 kc_0 ?_
        obtain ⟨r9, hr9, h⟩ := ob h
        refine y_cV C [.int (2 : Int32), .int r7, .int r8, .int (0 : Int32)] (m_X8_asksOf K M t ((2 : Int32)) r7 r8 ((0 : Int32))) hr9 g1 cw_X8_204 rfl (by decide) ⟨rfl, rfl⟩ ⟨Nat.zero_le _, Nat.zero_le _⟩ (Nat.le_of_ble_eq_true rfl) rfl rfl rfl dX8_worthOf_43 ?_
        refine y_goto C dX8_worthOf_46 (tgt := 50) rfl ?_
        have e0 := Option.some.inj h
        subst e0
        exact y_sel [0, 1, 3] rfl hJj4
set_option maxRecDepth 100000 in
def b_X8_worthOf (K : yK) (M : yM) (t : Nat) (x1 : Int32) : Option (Int32 × yM) := (Option.bind (b_X8_worthOf_4 K t x1 1000 M ((0 : Int32)) ((0 : Int32))) fun j1 => (some (j1.1, j1.2)))
set_option maxHeartbeats 4000000 in
set_option maxRecDepth 100000 in
theorem m_X8_worthOf (K : yK) (M : yM) (t : Nat) (x1 : Int32) : yMet yX8_worthOf cX8_worthOf 4 (Option.some Jvm.ClassFile.FieldType.int) rm_X8_worthOf K M [.ref t, .int x1] (b_X8_worthOf K M t x1) (yGi K) := by
  refine yM_intro (by decide) (Nat.le_of_ble_eq_true rfl) (fun X r h C E => ?_)
  replace C : yCx X cX8_worthOf RX8 "worthOf" rm_X8_worthOf 4 := C
  show Y X K M 0 0 0 [(0, .ref t), (1, .int x1)] []
  unfold b_X8_worthOf at h
  refine y_iconst C dX8_worthOf_0 kc_0 ?_
  refine y_istore_n C dX8_worthOf_1 (by decide) (L' := [(2, .int (0)), (0, .ref t), (1, .int x1)]) rfl ?_
  refine y_iconst C dX8_worthOf_2 kc_0 ?_
  refine y_istore_n C dX8_worthOf_3 (by decide) (L' := [(3, .int (0)), (2, .int (0)), (0, .ref t), (1, .int x1)]) rfl ?_
  obtain ⟨j1, hj1, h⟩ := ob h
  refine y_sel [0, 1, 2, 3] rfl (l_X8_worthOf_4 C 1000 _ _ _ _ hj1 ?_)
  refine y_iload_n C dX8_worthOf_58 rfl ?_
  have e0 := Option.some.inj h
  subst e0
  exact y_iret C E (Nat.zero_le _) (Nat.zero_le _) dX8_worthOf_59
set_option maxRecDepth 100000 in
def b_X8_lives (K : yK) (M : yM) (t : Nat) (x1 : Int32) : Option yM := (if gO K t 7 = true then (Option.bind (b_X8_dayOf K M t) fun r2 => (Option.bind (b_X8_holding K r2 t) fun r3 => (Option.bind (b_X8_doneBy K r3.2 t r3.1) fun r4 => (Option.bind (b_X8_worthOf K r3.2 t r4) fun r5 => (Option.bind (some (yS r5.2 t 42 ((r3.2 t 42) + r5.1))) fun M6 => (Option.bind (some (yS M6 t 43 ((M6 t 43) ||| r4))) fun M7 => (Option.bind (some (yS M7 t 44 ((M7 t 44) ||| r3.1))) fun M8 => (Option.bind (some (yS M8 t 45 ((M8 t 45) ||| (M8 t 10)))) fun M9 => (Option.bind (if (M9 t 47) = (-1 : Int32) then (if (M9 t 49) = (-1 : Int32) then (some (M9 t 47)) else (Option.bind (b_X8_within K M9 ((M9 t 49)) ((0 : Int32)) ((5 : Int32))) fun r13 => (if ((r4 >>> (r13 &&& 31)) &&& (1 : Int32)) = (1 : Int32) then (some x1) else (some (M9 t 47))))) else (some (M9 t 47))) fun j11 => (Option.bind (some (yS M9 t 47 j11)) fun M15 => (Option.bind (if (M15 t 48) = (-1 : Int32) then (if (M15 t 50) = (-1 : Int32) then (some (M15 t 48)) else (Option.bind (b_X8_within K M15 ((M15 t 50)) ((0 : Int32)) ((11 : Int32))) fun r19 => (if ((r3.1 >>> (r19 &&& 31)) &&& (1 : Int32)) = (1 : Int32) then (some x1) else (some (M15 t 48))))) else (some (M15 t 48))) fun j17 => (Option.bind (some (yS M15 t 48 j17)) fun M21 => (some M21))))))))))))) else none)
set_option maxHeartbeats 4000000 in
set_option maxRecDepth 100000 in
theorem m_X8_lives (K : yK) (M : yM) (t : Nat) (x1 : Int32) : yMet yX8_lives cX8_lives 4 none rm_X8_lives K M [.ref t, .int x1] (b_X8_lives K M t x1) (yGv K) := by
  refine yM_intro (by decide) (Nat.le_of_ble_eq_true rfl) (fun X r h C E => ?_)
  replace C : yCx X cX8_lives RX8 "lives" rm_X8_lives 4 := C
  show Y X K M 0 0 0 [(0, .ref t), (1, .int x1)] []
  unfold b_X8_lives at h
  refine y_aload_n C dX8_lives_0 rfl ?_
  obtain ⟨g1, h⟩ := gd h
  obtain ⟨r2, hr2, h⟩ := ob h
  refine y_cV C [] (m_X8_dayOf K M t) hr2 g1 cw_X8_251 rfl (by decide) ⟨rfl, rfl⟩ ⟨Nat.zero_le _, Nat.zero_le _⟩ (Nat.le_of_ble_eq_true rfl) rfl rfl rfl dX8_lives_1 ?_
  refine y_aload_n C dX8_lives_4 rfl ?_
  obtain ⟨r3, hr3, h⟩ := ob h
  refine y_cV C [] (m_X8_holding K r2 t) hr3 g1 cw_X8_230 rfl (by decide) ⟨rfl, rfl⟩ ⟨Nat.zero_le _, Nat.zero_le _⟩ (Nat.le_of_ble_eq_true rfl) rfl rfl rfl dX8_lives_5 ?_
  refine y_istore_n C dX8_lives_8 (by decide) (L' := [(2, .int r3.1), (0, .ref t), (1, .int x1)]) rfl ?_
  refine y_aload_n C dX8_lives_9 rfl ?_
  refine y_iload_n C dX8_lives_10 rfl ?_
  obtain ⟨r4, hr4, h⟩ := ob h
  refine y_cV C [.int r3.1] (m_X8_doneBy K r3.2 t r3.1) hr4 g1 cw_X8_239 rfl (by decide) ⟨rfl, rfl⟩ ⟨Nat.zero_le _, Nat.zero_le _⟩ (Nat.le_of_ble_eq_true rfl) rfl rfl rfl dX8_lives_11 ?_
  refine y_istore_n C dX8_lives_14 (by decide) (L' := [(3, .int r4), (2, .int r3.1), (0, .ref t), (1, .int x1)]) rfl ?_
  refine y_aload_n C dX8_lives_15 rfl ?_
  refine y_dup C dX8_lives_16 rfl ?_
  refine y_geti C fl_X8_254 g1 dX8_lives_17 ?_
  refine y_aload_n C dX8_lives_20 rfl ?_
  refine y_iload_n C dX8_lives_21 rfl ?_
  obtain ⟨r5, hr5, h⟩ := ob h
  refine y_cV C [.int r4] (m_X8_worthOf K r3.2 t r4) hr5 g1 cw_X8_242 rfl (by decide) ⟨rfl, rfl⟩ ⟨Nat.zero_le _, Nat.zero_le _⟩ (Nat.le_of_ble_eq_true rfl) rfl rfl rfl dX8_lives_22 ?_
  refine y_iadd C dX8_lives_25 ?_
  obtain ⟨M6, eM6, h⟩ := ob h
  have eM6 := Option.some.inj eM6
  refine y_puti C fl_X8_254 rfl g1 rfl rfl dX8_lives_26 eM6 ?_
  refine y_aload_n C dX8_lives_29 rfl ?_
  refine y_dup C dX8_lives_30 rfl ?_
  refine y_geti C fl_X8_257 g1 dX8_lives_31 ?_
  refine y_iload_n C dX8_lives_34 rfl ?_
  refine y_ior C dX8_lives_35 ?_
  obtain ⟨M7, eM7, h⟩ := ob h
  have eM7 := Option.some.inj eM7
  refine y_puti C fl_X8_257 rfl g1 rfl rfl dX8_lives_36 eM7 ?_
  refine y_aload_n C dX8_lives_39 rfl ?_
  refine y_dup C dX8_lives_40 rfl ?_
  refine y_geti C fl_X8_260 g1 dX8_lives_41 ?_
  refine y_iload_n C dX8_lives_44 rfl ?_
  refine y_ior C dX8_lives_45 ?_
  obtain ⟨M8, eM8, h⟩ := ob h
  have eM8 := Option.some.inj eM8
  refine y_puti C fl_X8_260 rfl g1 rfl rfl dX8_lives_46 eM8 ?_
  refine y_aload_n C dX8_lives_49 rfl ?_
  refine y_dup C dX8_lives_50 rfl ?_
  refine y_geti C fl_X8_263 g1 dX8_lives_51 ?_
  refine y_aload_n C dX8_lives_54 rfl ?_
  refine y_geti C fl_X8_215 g1 dX8_lives_55 ?_
  refine y_ior C dX8_lives_58 ?_
  obtain ⟨M9, eM9, h⟩ := ob h
  have eM9 := Option.some.inj eM9
  refine y_puti C fl_X8_263 rfl g1 rfl rfl dX8_lives_59 eM9 ?_
  refine y_aload_n C dX8_lives_62 rfl ?_
  refine y_aload_n C dX8_lives_63 rfl ?_
  refine y_geti C fl_X8_266 g1 dX8_lives_64 ?_
  refine y_iconst C dX8_lives_67 kc_m1 ?_
  obtain ⟨j11, hj11, h⟩ := ob h
  have hJj11 : Y X K M9 0 0 104 [(2, .int r3.1), (0, .ref t), (1, .int x1)] [.int j11, .ref t] := by
    obtain ⟨M15, eM15, h⟩ := ob h
    have eM15 := Option.some.inj eM15
    refine y_puti C fl_X8_266 rfl g1 rfl rfl dX8_lives_104 eM15 ?_
    refine y_aload_n C dX8_lives_107 rfl ?_
    refine y_aload_n C dX8_lives_108 rfl ?_
    refine y_geti C fl_X8_269 g1 dX8_lives_109 ?_
    refine y_iconst C dX8_lives_112 kc_m1 ?_
    obtain ⟨j17, hj17, h⟩ := ob h
    have hJj17 : Y X K M15 0 0 150 [] [.int j17, .ref t] := by
      obtain ⟨M21, eM21, h⟩ := ob h
      have eM21 := Option.some.inj eM21
      refine y_puti C fl_X8_269 rfl g1 rfl rfl dX8_lives_150 eM21 ?_
      have e0 := Option.some.inj h
      subst e0
      exact y_vret C E (Nat.zero_le _) (Nat.zero_le _) dX8_lives_153
    replace h := hj17
    refine y_icmp_ne C dX8_lives_113 (tgt := 146) rfl (fun c16 => ?_) (fun c16 => ?_)
    · have h := itF c16 h
      refine y_aload_n C dX8_lives_146 rfl ?_
      refine y_geti C fl_X8_269 g1 dX8_lives_147 ?_
      have e0 := Option.some.inj h
      subst e0
      exact y_sel [] rfl hJj17
    · have h := itT c16 h
      refine y_aload_n C dX8_lives_116 rfl ?_
      refine y_geti C fl_X8_77 g1 dX8_lives_117 ?_
      refine y_iconst C dX8_lives_120 kc_m1 ?_
      refine y_icmp_eq C dX8_lives_121 (tgt := 146) rfl (fun c18 => ?_) (fun c18 => ?_)
      · have h := itT c18 h
        refine y_aload_n C dX8_lives_146 rfl ?_
        refine y_geti C fl_X8_269 g1 dX8_lives_147 ?_
        have e0 := Option.some.inj h
        subst e0
        exact y_sel [] rfl hJj17
      · have h := itF c18 h
        refine y_iload_n C dX8_lives_124 rfl ?_
        refine y_aload_n C dX8_lives_125 rfl ?_
        refine y_geti C fl_X8_77 g1 dX8_lives_126 ?_
        refine y_iconst C dX8_lives_129 kc_0 ?_
        refine y_bipush C dX8_lives_130 kb_11 ?_
        obtain ⟨r19, hr19, h⟩ := ob h
        refine y_cS C [.int (M15 t 50), .int (0 : Int32), .int (11 : Int32)] (m_X8_within K M15 ((M15 t 50)) ((0 : Int32)) ((11 : Int32))) hr19 cw_X8_122 rfl (by decide) ⟨rfl, rfl⟩ ⟨Nat.zero_le _, Nat.zero_le _⟩ (Nat.le_of_ble_eq_true rfl) rfl rfl rfl dX8_lives_132 ?_
        refine y_ishr C dX8_lives_135 ?_
        refine y_iconst C dX8_lives_136 kc_1 ?_
        refine y_iand C dX8_lives_137 ?_
        refine y_iconst C dX8_lives_138 kc_1 ?_
        refine y_icmp_ne C dX8_lives_139 (tgt := 146) rfl (fun c20 => ?_) (fun c20 => ?_)
        · have h := itF c20 h
          refine y_aload_n C dX8_lives_146 rfl ?_
          refine y_geti C fl_X8_269 g1 dX8_lives_147 ?_
          have e0 := Option.some.inj h
          subst e0
          exact y_sel [] rfl hJj17
        · have h := itT c20 h
          refine y_iload_n C dX8_lives_142 rfl ?_
          refine y_goto C dX8_lives_143 (tgt := 150) rfl ?_
          have e0 := Option.some.inj h
          subst e0
          exact y_sel [] rfl hJj17
  replace h := hj11
  refine y_icmp_ne C dX8_lives_68 (tgt := 100) rfl (fun c10 => ?_) (fun c10 => ?_)
  · have h := itF c10 h
    refine y_aload_n C dX8_lives_100 rfl ?_
    refine y_geti C fl_X8_266 g1 dX8_lives_101 ?_
    have e0 := Option.some.inj h
    subst e0
    exact y_sel [2, 0, 1] rfl hJj11
  · have h := itT c10 h
    refine y_aload_n C dX8_lives_71 rfl ?_
    refine y_geti C fl_X8_74 g1 dX8_lives_72 ?_
    refine y_iconst C dX8_lives_75 kc_m1 ?_
    refine y_icmp_eq C dX8_lives_76 (tgt := 100) rfl (fun c12 => ?_) (fun c12 => ?_)
    · have h := itT c12 h
      refine y_aload_n C dX8_lives_100 rfl ?_
      refine y_geti C fl_X8_266 g1 dX8_lives_101 ?_
      have e0 := Option.some.inj h
      subst e0
      exact y_sel [2, 0, 1] rfl hJj11
    · have h := itF c12 h
      refine y_iload_n C dX8_lives_79 rfl ?_
      refine y_aload_n C dX8_lives_80 rfl ?_
      refine y_geti C fl_X8_74 g1 dX8_lives_81 ?_
      refine y_iconst C dX8_lives_84 kc_0 ?_
      refine y_iconst C dX8_lives_85 kc_5 ?_
      obtain ⟨r13, hr13, h⟩ := ob h
      refine y_cS C [.int (M9 t 49), .int (0 : Int32), .int (5 : Int32)] (m_X8_within K M9 ((M9 t 49)) ((0 : Int32)) ((5 : Int32))) hr13 cw_X8_122 rfl (by decide) ⟨rfl, rfl⟩ ⟨Nat.zero_le _, Nat.zero_le _⟩ (Nat.le_of_ble_eq_true rfl) rfl rfl rfl dX8_lives_86 ?_
      refine y_ishr C dX8_lives_89 ?_
      refine y_iconst C dX8_lives_90 kc_1 ?_
      refine y_iand C dX8_lives_91 ?_
      refine y_iconst C dX8_lives_92 kc_1 ?_
      refine y_icmp_ne C dX8_lives_93 (tgt := 100) rfl (fun c14 => ?_) (fun c14 => ?_)
      · have h := itF c14 h
        refine y_aload_n C dX8_lives_100 rfl ?_
        refine y_geti C fl_X8_266 g1 dX8_lives_101 ?_
        have e0 := Option.some.inj h
        subst e0
        exact y_sel [2, 0, 1] rfl hJj11
      · have h := itT c14 h
        refine y_iload_n C dX8_lives_96 rfl ?_
        refine y_goto C dX8_lives_97 (tgt := 104) rfl ?_
        have e0 := Option.some.inj h
        subst e0
        exact y_sel [2, 0, 1] rfl hJj11
def b_X8_goes_6 (K : yK) (t : Nat) (x_1 : Int32) : Nat → yM → Int32 → Option yM
  | 0, _, _ => none
  | n + 1, M, u6_2 => (if x_1 ≤ u6_2 then (some M) else (if gO K t 7 = true then (Option.bind (b_X8_lives K M t u6_2) fun r3 => (Option.bind (some (u6_2 + (1 : Int32))) fun v4 => (b_X8_goes_6 K t x_1 n r3 v4))) else none))
set_option maxHeartbeats 4000000 in
set_option maxRecDepth 100000 in
theorem l_X8_goes_6 {X : yX} {K : yK} {t : Nat} {x_1 : Int32} (C : yCx X cX8_goes RX8 "goes" rm_X8_goes 3) : ∀ (n : Nat) (M : yM) (u6_2 : Int32) (x : yM), b_X8_goes_6 K t x_1 n M u6_2 = some x → ∀ (hX : Y X K x 0 0 22 [(0, .ref t)] []), Y X K M 0 0 6 [(0, .ref t), (1, .int x_1), (2, .int u6_2)] [] := by
  intro n
  induction n with
  | zero =>
    intro M u6_2 x h
    exact nomatch (show (none : Option _) = some x from h)
  | succ n ih =>
    intro M u6_2 x h hX
    rw [b_X8_goes_6] at h
    refine y_iload_n C dX8_goes_6 rfl ?_
    refine y_iload_n C dX8_goes_7 rfl ?_
    refine y_icmp_ge C dX8_goes_8 (tgt := 22) rfl (fun c1 => ?_) (fun c1 => ?_)
    · have h := itT c1 h
      have e0 := Option.some.inj h
      subst e0
      exact y_sel [0] rfl hX
    · have h := itF c1 h
      refine y_aload_n C dX8_goes_11 rfl ?_
      refine y_iload_n C dX8_goes_12 rfl ?_
      obtain ⟨g2, h⟩ := gd h
      obtain ⟨r3, hr3, h⟩ := ob h
      refine y_cV C [.int u6_2] (m_X8_lives K M t u6_2) hr3 g2 cw_X8_278 rfl (by decide) ⟨rfl, rfl⟩ ⟨Nat.zero_le _, Nat.zero_le _⟩ (Nat.le_of_ble_eq_true rfl) rfl rfl rfl dX8_goes_13 ?_
      obtain ⟨v4, ev4, h⟩ := ob h
      have ev4 := Option.some.inj ev4
      refine y_iinc C dX8_goes_16 (by decide) rfl (v := v4) (by subst ev4; rfl) (L' := [(2, .int v4), (0, .ref t), (1, .int x_1)]) rfl ?_
      refine y_goto C dX8_goes_19 (tgt := 6) rfl ?_
      exact y_sel [0, 1, 2] rfl (ih _ _ _  h hX)
set_option maxRecDepth 100000 in
def b_X8_goes (K : yK) (M : yM) (t : Nat) (x1 : Int32) : Option (Int32 × yM) := (if gO K t 7 = true then (Option.bind (b_X8_keeps K M t) fun r2 => (Option.bind (b_X8_goes_6 K t x1 1000 r2 ((0 : Int32))) fun j3 => (Option.bind (b_X8_laysBack K j3 t) fun r4 => (some ((r4 t 42), r4))))) else none)
set_option maxHeartbeats 4000000 in
set_option maxRecDepth 100000 in
theorem m_X8_goes (K : yK) (M : yM) (t : Nat) (x1 : Int32) : yMet yX8_goes cX8_goes 3 (Option.some Jvm.ClassFile.FieldType.int) rm_X8_goes K M [.ref t, .int x1] (b_X8_goes K M t x1) (yGi K) := by
  refine yM_intro (by decide) (Nat.le_of_ble_eq_true rfl) (fun X r h C E => ?_)
  replace C : yCx X cX8_goes RX8 "goes" rm_X8_goes 3 := C
  show Y X K M 0 0 0 [(0, .ref t), (1, .int x1)] []
  unfold b_X8_goes at h
  refine y_aload_n C dX8_goes_0 rfl ?_
  obtain ⟨g1, h⟩ := gd h
  obtain ⟨r2, hr2, h⟩ := ob h
  refine y_cV C [] (m_X8_keeps K M t) hr2 g1 cw_X8_275 rfl (by decide) ⟨rfl, rfl⟩ ⟨Nat.zero_le _, Nat.zero_le _⟩ (Nat.le_of_ble_eq_true rfl) rfl rfl rfl dX8_goes_1 ?_
  refine y_iconst C dX8_goes_4 kc_0 ?_
  refine y_istore_n C dX8_goes_5 (by decide) (L' := [(2, .int (0)), (0, .ref t), (1, .int x1)]) rfl ?_
  obtain ⟨j3, hj3, h⟩ := ob h
  refine y_sel [0, 1, 2] rfl (l_X8_goes_6 C 1000 _ _ _ hj3 ?_)
  refine y_aload_n C dX8_goes_22 rfl ?_
  obtain ⟨r4, hr4, h⟩ := ob h
  refine y_cV C [] (m_X8_laysBack K j3 t) hr4 g1 cw_X8_281 rfl (by decide) ⟨rfl, rfl⟩ ⟨Nat.zero_le _, Nat.zero_le _⟩ (Nat.le_of_ble_eq_true rfl) rfl rfl rfl dX8_goes_23 ?_
  refine y_aload_n C dX8_goes_26 rfl ?_
  refine y_geti C fl_X8_254 g1 dX8_goes_27 ?_
  have e0 := Option.some.inj h
  subst e0
  exact y_iret C E (Nat.zero_le _) (Nat.zero_le _) dX8_goes_30
set_option maxRecDepth 100000 in
def b_X8_goesFrom (K : yK) (M : yM) (t : Nat) (x1 : Int32) (x2 : Int32) (x3 : Int32) : Option (Int32 × yM) := (if gO K t 7 = true then (Option.bind (some (M t 6)) fun v2 => (Option.bind (some (M t 8)) fun v3 => (Option.bind (some (yS M t 6 x1)) fun M4 => (Option.bind (some (yS M4 t 8 x2)) fun M5 => (Option.bind (b_X8_goes K M5 t x3) fun r6 => (Option.bind (some (yS r6.2 t 6 v2)) fun M7 => (Option.bind (some (yS M7 t 8 v3)) fun M8 => (some (r6.1, M8))))))))) else none)
set_option maxHeartbeats 4000000 in
set_option maxRecDepth 100000 in
theorem m_X8_goesFrom (K : yK) (M : yM) (t : Nat) (x1 : Int32) (x2 : Int32) (x3 : Int32) : yMet yX8_goesFrom cX8_goesFrom 7 (Option.some Jvm.ClassFile.FieldType.int) rm_X8_goesFrom K M [.ref t, .int x1, .int x2, .int x3] (b_X8_goesFrom K M t x1 x2 x3) (yGi K) := by
  refine yM_intro (by decide) (Nat.le_of_ble_eq_true rfl) (fun X r h C E => ?_)
  replace C : yCx X cX8_goesFrom RX8 "goesFrom" rm_X8_goesFrom 7 := C
  show Y X K M 0 0 0 [(0, .ref t), (1, .int x1), (2, .int x2), (3, .int x3)] []
  unfold b_X8_goesFrom at h
  refine y_aload_n C dX8_goesFrom_0 rfl ?_
  obtain ⟨g1, h⟩ := gd h
  refine y_geti C fl_X8_104 g1 dX8_goesFrom_1 ?_
  obtain ⟨v2, ev2, h⟩ := ob h
  have ev2 := Option.some.inj ev2
  refine y_istore C dX8_goesFrom_4 (by decide) (L' := [(4, .int v2), (0, .ref t), (1, .int x1), (2, .int x2), (3, .int x3)]) (by subst ev2; rfl) ?_
  refine y_aload_n C dX8_goesFrom_6 rfl ?_
  refine y_geti C fl_X8_22 g1 dX8_goesFrom_7 ?_
  obtain ⟨v3, ev3, h⟩ := ob h
  have ev3 := Option.some.inj ev3
  refine y_istore C dX8_goesFrom_10 (by decide) (L' := [(5, .int v3), (4, .int v2), (0, .ref t), (1, .int x1), (2, .int x2), (3, .int x3)]) (by subst ev3; rfl) ?_
  refine y_aload_n C dX8_goesFrom_12 rfl ?_
  refine y_iload_n C dX8_goesFrom_13 rfl ?_
  obtain ⟨M4, eM4, h⟩ := ob h
  have eM4 := Option.some.inj eM4
  refine y_puti C fl_X8_104 rfl g1 rfl rfl dX8_goesFrom_14 eM4 ?_
  refine y_aload_n C dX8_goesFrom_17 rfl ?_
  refine y_iload_n C dX8_goesFrom_18 rfl ?_
  obtain ⟨M5, eM5, h⟩ := ob h
  have eM5 := Option.some.inj eM5
  refine y_puti C fl_X8_22 rfl g1 rfl rfl dX8_goesFrom_19 eM5 ?_
  refine y_aload_n C dX8_goesFrom_22 rfl ?_
  refine y_iload_n C dX8_goesFrom_23 rfl ?_
  obtain ⟨r6, hr6, h⟩ := ob h
  refine y_cV C [.int x3] (m_X8_goes K M5 t x3) hr6 g1 cw_X8_284 rfl (by decide) ⟨rfl, rfl⟩ ⟨Nat.zero_le _, Nat.zero_le _⟩ (Nat.le_of_ble_eq_true rfl) rfl rfl rfl dX8_goesFrom_24 ?_
  refine y_istore C dX8_goesFrom_27 (by decide) (L' := [(6, .int r6.1), (5, .int v3), (4, .int v2), (0, .ref t), (1, .int x1), (2, .int x2), (3, .int x3)]) rfl ?_
  refine y_aload_n C dX8_goesFrom_29 rfl ?_
  refine y_iload C dX8_goesFrom_30 rfl ?_
  obtain ⟨M7, eM7, h⟩ := ob h
  have eM7 := Option.some.inj eM7
  refine y_puti C fl_X8_104 rfl g1 rfl rfl dX8_goesFrom_32 eM7 ?_
  refine y_aload_n C dX8_goesFrom_35 rfl ?_
  refine y_iload C dX8_goesFrom_36 rfl ?_
  obtain ⟨M8, eM8, h⟩ := ob h
  have eM8 := Option.some.inj eM8
  refine y_puti C fl_X8_22 rfl g1 rfl rfl dX8_goesFrom_38 eM8 ?_
  refine y_iload C dX8_goesFrom_41 rfl ?_
  have e0 := Option.some.inj h
  subst e0
  exact y_iret C E (Nat.zero_le _) (Nat.zero_le _) dX8_goesFrom_43
def b_X8_begin_30 (K : yK) (t : Nat) (x_1 : Int32) (x_2 : Int32) : Nat → yM → Int32 → Int32 → Int32 → Option (Int32 × Int32 × yM)
  | 0, _, _, _, _ => none
  | n + 1, M, u30_3, u30_4, u30_5 => (if gO K t 7 = true then (if (M t 0) ≤ u30_5 then (some (u30_3, u30_4, M)) else (Option.bind (b_X8_firstPage K M t u30_5) fun r3 => (Option.bind (b_X8_goesFrom K M t r3 ((-1 : Int32)) x_1) fun r4 => (Option.bind (if u30_3 = (-1 : Int32) then (some true) else (if r4.1 ≤ u30_4 then (some false) else (some true))) fun j6 => (Option.bind (if j6 = true then (some u30_5) else (some u30_3)) fun j9 => (Option.bind (if j6 = true then (some r4.1) else (some u30_4)) fun j11 => (Option.bind (some (u30_5 + (1 : Int32))) fun v12 => (b_X8_begin_30 K t x_1 x_2 n r4.2 j9 j11 v12)))))))) else none)
set_option maxHeartbeats 4000000 in
set_option maxRecDepth 100000 in
theorem l_X8_begin_30 {X : yX} {K : yK} {t : Nat} {x_1 : Int32} {x_2 : Int32} (C : yCx X cX8_begin RX8 "begin" rm_X8_begin 8) : ∀ (n : Nat) (M : yM) (u30_3 : Int32) (u30_4 : Int32) (u30_5 : Int32) (x : (Int32 × Int32 × yM)), b_X8_begin_30 K t x_1 x_2 n M u30_3 u30_4 u30_5 = some x → ∀ (hX : Y X K x.2.2 0 0 104 [(2, .int x_2), (3, .int x.1), (4, .int x.2.1)] []), Y X K M 0 0 30 [(0, .ref t), (1, .int x_1), (2, .int x_2), (3, .int u30_3), (4, .int u30_4), (5, .int u30_5)] [] := by
  intro n
  induction n with
  | zero =>
    intro M u30_3 u30_4 u30_5 x h
    exact nomatch (show (none : Option _) = some x from h)
  | succ n ih =>
    intro M u30_3 u30_4 u30_5 x h hX
    rw [b_X8_begin_30] at h
    refine y_iload C dX8_begin_30 rfl ?_
    refine y_aload_n C dX8_begin_32 rfl ?_
    obtain ⟨g1, h⟩ := gd h
    refine y_geti C fl_X8_87 g1 dX8_begin_33 ?_
    refine y_icmp_ge C dX8_begin_36 (tgt := 104) rfl (fun c2 => ?_) (fun c2 => ?_)
    · have h := itT c2 h
      have e0 := Option.some.inj h
      subst e0
      exact y_sel [2, 3, 4] rfl hX
    · have h := itF c2 h
      refine y_aload_n C dX8_begin_39 rfl ?_
      refine y_aload_n C dX8_begin_40 rfl ?_
      refine y_iload C dX8_begin_41 rfl ?_
      obtain ⟨r3, hr3, h⟩ := ob h
      refine y_cV C [.int u30_5] (m_X8_firstPage K M t u30_5) hr3 g1 cw_X8_101 rfl (by decide) ⟨rfl, rfl⟩ ⟨Nat.zero_le _, Nat.zero_le _⟩ (Nat.le_of_ble_eq_true rfl) rfl rfl rfl dX8_begin_43 ?_
      refine y_iconst C dX8_begin_46 kc_m1 ?_
      refine y_iload_n C dX8_begin_47 rfl ?_
      obtain ⟨r4, hr4, h⟩ := ob h
      refine y_cV C [.int r3, .int (-1 : Int32), .int x_1] (m_X8_goesFrom K M t r3 ((-1 : Int32)) x_1) hr4 g1 cw_X8_290 rfl (by decide) ⟨rfl, rfl⟩ ⟨Nat.zero_le _, Nat.zero_le _⟩ (Nat.le_of_ble_eq_true rfl) rfl rfl rfl dX8_begin_48 ?_
      refine y_istore C dX8_begin_51 (by decide) (L' := [(6, .int r4.1), (0, .ref t), (1, .int x_1), (2, .int x_2), (3, .int u30_3), (4, .int u30_4), (5, .int u30_5)]) rfl ?_
      refine y_iload_n C dX8_begin_53 rfl ?_
      refine y_iconst C dX8_begin_54 kc_m1 ?_
      obtain ⟨j6, hj6, h⟩ := ob h
      have hJj6 : Y X K r4.2 0 0 70 [(6, .int r4.1), (0, .ref t), (1, .int x_1), (2, .int x_2), (3, .int u30_3), (4, .int u30_4), (5, .int u30_5)] [.int (bI j6)] := by
        refine y_istore C dX8_begin_70 (by decide) (L' := [(7, .int (bI j6)), (6, .int r4.1), (0, .ref t), (1, .int x_1), (2, .int x_2), (3, .int u30_3), (4, .int u30_4), (5, .int u30_5)]) rfl ?_
        refine y_iload C dX8_begin_72 rfl ?_
        obtain ⟨j9, hj9, h⟩ := ob h
        have hJj9 : Y X K r4.2 0 0 83 [(7, .int (bI j6)), (6, .int r4.1), (0, .ref t), (1, .int x_1), (2, .int x_2), (4, .int u30_4), (5, .int u30_5)] [.int j9] := by
          refine y_istore_n C dX8_begin_83 (by decide) (L' := [(3, .int j9), (7, .int (bI j6)), (6, .int r4.1), (0, .ref t), (1, .int x_1), (2, .int x_2), (4, .int u30_4), (5, .int u30_5)]) rfl ?_
          refine y_iload C dX8_begin_84 rfl ?_
          obtain ⟨j11, hj11, h⟩ := ob h
          have hJj11 : Y X K r4.2 0 0 96 [(3, .int j9), (0, .ref t), (1, .int x_1), (2, .int x_2), (5, .int u30_5)] [.int j11] := by
            refine y_istore C dX8_begin_96 (by decide) (L' := [(4, .int j11), (3, .int j9), (0, .ref t), (1, .int x_1), (2, .int x_2), (5, .int u30_5)]) rfl ?_
            obtain ⟨v12, ev12, h⟩ := ob h
            have ev12 := Option.some.inj ev12
            refine y_iinc C dX8_begin_98 (by decide) rfl (v := v12) (by subst ev12; rfl) (L' := [(5, .int v12), (4, .int j11), (3, .int j9), (0, .ref t), (1, .int x_1), (2, .int x_2)]) rfl ?_
            refine y_goto C dX8_begin_101 (tgt := 30) rfl ?_
            exact y_sel [0, 1, 2, 3, 4, 5] rfl (ih _ _ _ _ _  h hX)
          replace h := hj11
          refine y_ifeqB C dX8_begin_86 (tgt := 94) rfl (fun c10 => ?_) (fun c10 => ?_)
          · have h := itFb c10 h
            refine y_iload C dX8_begin_94 rfl ?_
            have e0 := Option.some.inj h
            subst e0
            exact y_sel [3, 0, 1, 2, 5] rfl hJj11
          · have h := itT c10 h
            refine y_iload C dX8_begin_89 rfl ?_
            refine y_goto C dX8_begin_91 (tgt := 96) rfl ?_
            have e0 := Option.some.inj h
            subst e0
            exact y_sel [3, 0, 1, 2, 5] rfl hJj11
        replace h := hj9
        refine y_ifeqB C dX8_begin_74 (tgt := 82) rfl (fun c8 => ?_) (fun c8 => ?_)
        · have h := itFb c8 h
          refine y_iload_n C dX8_begin_82 rfl ?_
          have e0 := Option.some.inj h
          subst e0
          exact y_sel [7, 6, 0, 1, 2, 4, 5] rfl hJj9
        · have h := itT c8 h
          refine y_iload C dX8_begin_77 rfl ?_
          refine y_goto C dX8_begin_79 (tgt := 83) rfl ?_
          have e0 := Option.some.inj h
          subst e0
          exact y_sel [7, 6, 0, 1, 2, 4, 5] rfl hJj9
      replace h := hj6
      refine y_icmp_eq C dX8_begin_55 (tgt := 65) rfl (fun c5 => ?_) (fun c5 => ?_)
      · have h := itT c5 h
        refine y_iconst C dX8_begin_65 kc_1 ?_
        refine y_goto C dX8_begin_66 (tgt := 70) rfl ?_
        have e0 := Option.some.inj h
        subst e0
        exact y_sel [6, 0, 1, 2, 3, 4, 5] rfl hJj6
      · have h := itF c5 h
        refine y_iload C dX8_begin_58 rfl ?_
        refine y_iload C dX8_begin_60 rfl ?_
        refine y_icmp_le C dX8_begin_62 (tgt := 69) rfl (fun c7 => ?_) (fun c7 => ?_)
        · have h := itT c7 h
          refine y_iconst C dX8_begin_69 kc_0 ?_
          have e0 := Option.some.inj h
          subst e0
          exact y_sel [6, 0, 1, 2, 3, 4, 5] rfl hJj6
        · have h := itF c7 h
          refine y_iconst C dX8_begin_65 kc_1 ?_
          refine y_goto C dX8_begin_66 (tgt := 70) rfl ?_
          have e0 := Option.some.inj h
          subst e0
          exact y_sel [6, 0, 1, 2, 3, 4, 5] rfl hJj6
set_option maxRecDepth 100000 in
def b_X8_begin (K : yK) (M : yM) (t : Nat) (x1 : Int32) (x2 : Int32) : Option (Int32 × yM) := (Option.bind (b_X8_in K M x1 ((0 : Int32)) ((60 : Int32))) fun r1 => (if r1 = true then (Option.bind (b_X8_in K M x2 ((0 : Int32)) ((1 : Int32))) fun r3 => (if r3 = true then (Option.bind (b_X8_begin_30 K t x1 x2 1000 M ((-1 : Int32)) ((0 : Int32)) ((0 : Int32))) fun j5 => (if x2 = 0 then (some (j5.1, j5.2.2)) else (some (j5.2.1, j5.2.2)))) else (some ((-2 : Int32), M)))) else (some ((-2 : Int32), M))))
set_option maxHeartbeats 4000000 in
set_option maxRecDepth 100000 in
theorem m_X8_begin (K : yK) (M : yM) (t : Nat) (x1 : Int32) (x2 : Int32) : yMet yX8_begin cX8_begin 8 (Option.some Jvm.ClassFile.FieldType.int) rm_X8_begin K M [.ref t, .int x1, .int x2] (b_X8_begin K M t x1 x2) (yGi K) := by
  refine yM_intro (by decide) (Nat.le_of_ble_eq_true rfl) (fun X r h C E => ?_)
  replace C : yCx X cX8_begin RX8 "begin" rm_X8_begin 8 := C
  show Y X K M 0 0 0 [(0, .ref t), (1, .int x1), (2, .int x2)] []
  unfold b_X8_begin at h
  refine y_iload_n C dX8_begin_0 rfl ?_
  refine y_iconst C dX8_begin_1 kc_0 ?_
  refine y_bipush C dX8_begin_2 kb_60 ?_
  obtain ⟨r1, hr1, h⟩ := ob h
  refine y_cS C [.int x1, .int (0 : Int32), .int (60 : Int32)] (m_X8_in K M x1 ((0 : Int32)) ((60 : Int32))) hr1 cw_X8_90 rfl (by decide) ⟨rfl, rfl⟩ ⟨Nat.zero_le _, Nat.zero_le _⟩ (Nat.le_of_ble_eq_true rfl) rfl rfl rfl dX8_begin_4 ?_
  refine y_ifeqB C dX8_begin_7 (tgt := 19) rfl (fun c2 => ?_) (fun c2 => ?_)
  · have h := itFb c2 h
    refine y_bipush C dX8_begin_19 kb_m2 ?_
    have e0 := Option.some.inj h
    subst e0
    exact y_iret C E (Nat.zero_le _) (Nat.zero_le _) dX8_begin_21
  · have h := itT c2 h
    refine y_iload_n C dX8_begin_10 rfl ?_
    refine y_iconst C dX8_begin_11 kc_0 ?_
    refine y_iconst C dX8_begin_12 kc_1 ?_
    obtain ⟨r3, hr3, h⟩ := ob h
    refine y_cS C [.int x2, .int (0 : Int32), .int (1 : Int32)] (m_X8_in K M x2 ((0 : Int32)) ((1 : Int32))) hr3 cw_X8_90 rfl (by decide) ⟨rfl, rfl⟩ ⟨Nat.zero_le _, Nat.zero_le _⟩ (Nat.le_of_ble_eq_true rfl) rfl rfl rfl dX8_begin_13 ?_
    refine y_ifneB C dX8_begin_16 (tgt := 22) rfl (fun c4 => ?_) (fun c4 => ?_)
    · have h := itT c4 h
      refine y_iconst C dX8_begin_22 kc_m1 ?_
      refine y_istore_n C dX8_begin_23 (by decide) (L' := [(3, .int (-1)), (0, .ref t), (1, .int x1), (2, .int x2)]) rfl ?_
      refine y_iconst C dX8_begin_24 kc_0 ?_
      refine y_istore C dX8_begin_25 (by decide) (L' := [(4, .int (0)), (3, .int (-1)), (0, .ref t), (1, .int x1), (2, .int x2)]) rfl ?_
      refine y_iconst C dX8_begin_27 kc_0 ?_
      refine y_istore C dX8_begin_28 (by decide) (L' := [(5, .int (0)), (4, .int (0)), (3, .int (-1)), (0, .ref t), (1, .int x1), (2, .int x2)]) rfl ?_
      obtain ⟨j5, hj5, h⟩ := ob h
      refine y_sel [0, 1, 2, 3, 4, 5] rfl (l_X8_begin_30 C 1000 _ _ _ _ _ hj5 ?_)
      refine y_iload_n C dX8_begin_104 rfl ?_
      refine y_if_ne C dX8_begin_105 (tgt := 112) rfl (fun c6 => ?_) (fun c6 => ?_)
      · have h := itF c6 h
        refine y_iload C dX8_begin_112 rfl ?_
        have e0 := Option.some.inj h
        subst e0
        exact y_iret C E (Nat.zero_le _) (Nat.zero_le _) dX8_begin_114
      · have h := itT c6 h
        refine y_iload_n C dX8_begin_108 rfl ?_
        refine y_goto C dX8_begin_109 (tgt := 114) rfl ?_
        have e0 := Option.some.inj h
        subst e0
        exact y_iret C E (Nat.zero_le _) (Nat.zero_le _) dX8_begin_114
    · have h := itFb c4 h
      refine y_bipush C dX8_begin_19 kb_m2 ?_
      have e0 := Option.some.inj h
      subst e0
      exact y_iret C E (Nat.zero_le _) (Nat.zero_le _) dX8_begin_21
set_option maxRecDepth 100000 in
def b_X8_sheetWrong (K : yK) (M : yM) (t : Nat) (x1 : Int32) : Option Int32 := (Option.bind (b_X8_in K M x1 ((0 : Int32)) ((3 : Int32))) fun r1 => (if r1 = true then (if gO K t 7 = true then (Option.bind (K.2.2 t 24) fun q4 => (if gA K q4 x1 = true then (if (M q4 (x1).toNatClampNeg) = (-1 : Int32) then (some (-11 : Int32)) else (some (0 : Int32))) else none)) else none) else (some (-2 : Int32))))
set_option maxHeartbeats 4000000 in
set_option maxRecDepth 100000 in
theorem m_X8_sheetWrong (K : yK) (M : yM) (t : Nat) (x1 : Int32) : yMet yX8_sheetWrong cX8_sheetWrong 2 (Option.some Jvm.ClassFile.FieldType.int) rm_X8_sheetWrong K M [.ref t, .int x1] (b_X8_sheetWrong K M t x1) (yFi K M) := by
  refine yM_intro (by decide) (Nat.le_of_ble_eq_true rfl) (fun X r h C E => ?_)
  replace C : yCx X cX8_sheetWrong RX8 "sheetWrong" rm_X8_sheetWrong 2 := C
  show Y X K M 0 0 0 [(0, .ref t), (1, .int x1)] []
  unfold b_X8_sheetWrong at h
  refine y_iload_n C dX8_sheetWrong_0 rfl ?_
  refine y_iconst C dX8_sheetWrong_1 kc_0 ?_
  refine y_iconst C dX8_sheetWrong_2 kc_3 ?_
  obtain ⟨r1, hr1, h⟩ := ob h
  refine y_cS C [.int x1, .int (0 : Int32), .int (3 : Int32)] (m_X8_in K M x1 ((0 : Int32)) ((3 : Int32))) hr1 cw_X8_90 rfl (by decide) ⟨rfl, rfl⟩ ⟨Nat.zero_le _, Nat.zero_le _⟩ (Nat.le_of_ble_eq_true rfl) rfl rfl rfl dX8_sheetWrong_3 ?_
  refine y_ifneB C dX8_sheetWrong_6 (tgt := 12) rfl (fun c2 => ?_) (fun c2 => ?_)
  · have h := itT c2 h
    refine y_aload_n C dX8_sheetWrong_12 rfl ?_
    obtain ⟨g3, h⟩ := gd h
    obtain ⟨q4, hq4, h⟩ := ob h
    refine y_getr C fl_X8_44 g3 hq4 dX8_sheetWrong_13 ?_
    refine y_iload_n C dX8_sheetWrong_16 rfl ?_
    obtain ⟨g5, h⟩ := gd h
    refine y_iald C g5 dX8_sheetWrong_17 ?_
    refine y_iconst C dX8_sheetWrong_18 kc_m1 ?_
    refine y_icmp_ne C dX8_sheetWrong_19 (tgt := 27) rfl (fun c6 => ?_) (fun c6 => ?_)
    · have h := itF c6 h
      refine y_iconst C dX8_sheetWrong_27 kc_0 ?_
      have e0 := Option.some.inj h
      subst e0
      exact y_iret C E (Nat.zero_le _) (Nat.zero_le _) dX8_sheetWrong_28
    · have h := itT c6 h
      refine y_bipush C dX8_sheetWrong_22 kb_m11 ?_
      refine y_goto C dX8_sheetWrong_24 (tgt := 28) rfl ?_
      have e0 := Option.some.inj h
      subst e0
      exact y_iret C E (Nat.zero_le _) (Nat.zero_le _) dX8_sheetWrong_28
  · have h := itFb c2 h
    refine y_bipush C dX8_sheetWrong_9 kb_m2 ?_
    have e0 := Option.some.inj h
    subst e0
    exact y_iret C E (Nat.zero_le _) (Nat.zero_le _) dX8_sheetWrong_11
def b_X8_unlike_8 (K : yK) (t : Nat) (x_1 : Int32) : Nat → yM → Int32 → Int32 → Option (Int32 × yM)
  | 0, _, _, _ => none
  | n + 1, M, u8_2, u8_3 => (if gO K t 7 = true then (Option.bind (K.2.2 t 25) fun q2 => (if gA K q2 x_1 = true then (if (M q2 (x_1).toNatClampNeg) ≤ u8_3 then (some (u8_2, M)) else (if u8_2 = (-1 : Int32) then (Option.bind (b_X8_dayOf K M t) fun r6 => (Option.bind (b_X8_holding K r6 t) fun r7 => (Option.bind (K.2.2 t 26) fun q8 => (if gA K q8 (((40 : Int32) * x_1) + u8_3) = true then (Option.bind (if r7.1 = (r7.2 q8 ((((40 : Int32) * x_1) + u8_3)).toNatClampNeg) then (some (-1 : Int32)) else (some u8_3)) fun j11 => (Option.bind (some (u8_3 + (1 : Int32))) fun v12 => (b_X8_unlike_8 K t x_1 n r7.2 j11 v12))) else none)))) else (some (u8_2, M)))) else none)) else none)
set_option maxHeartbeats 4000000 in
set_option maxRecDepth 100000 in
theorem l_X8_unlike_8 {X : yX} {K : yK} {t : Nat} {x_1 : Int32} (C : yCx X cX8_unlike RX8 "unlike" rm_X8_unlike 4) : ∀ (n : Nat) (M : yM) (u8_2 : Int32) (u8_3 : Int32) (x : (Int32 × yM)), b_X8_unlike_8 K t x_1 n M u8_2 u8_3 = some x → ∀ (hX : Y X K x.2 0 0 57 [(0, .ref t), (2, .int x.1)] []), Y X K M 0 0 8 [(0, .ref t), (1, .int x_1), (2, .int u8_2), (3, .int u8_3)] [] := by
  intro n
  induction n with
  | zero =>
    intro M u8_2 u8_3 x h
    exact nomatch (show (none : Option _) = some x from h)
  | succ n ih =>
    intro M u8_2 u8_3 x h hX
    rw [b_X8_unlike_8] at h
    refine y_iload_n C dX8_unlike_8 rfl ?_
    refine y_aload_n C dX8_unlike_9 rfl ?_
    obtain ⟨g1, h⟩ := gd h
    obtain ⟨q2, hq2, h⟩ := ob h
    refine y_getr C fl_X8_47 g1 hq2 dX8_unlike_10 ?_
    refine y_iload_n C dX8_unlike_13 rfl ?_
    obtain ⟨g3, h⟩ := gd h
    refine y_iald C g3 dX8_unlike_14 ?_
    refine y_icmp_ge C dX8_unlike_15 (tgt := 57) rfl (fun c4 => ?_) (fun c4 => ?_)
    · have h := itT c4 h
      have e0 := Option.some.inj h
      subst e0
      exact y_sel [0, 2] rfl hX
    · have h := itF c4 h
      refine y_iload_n C dX8_unlike_18 rfl ?_
      refine y_iconst C dX8_unlike_19 kc_m1 ?_
      refine y_icmp_ne C dX8_unlike_20 (tgt := 57) rfl (fun c5 => ?_) (fun c5 => ?_)
      · have h := itF c5 h
        have e0 := Option.some.inj h
        subst e0
        exact y_sel [0, 2] rfl hX
      · have h := itT c5 h
        refine y_aload_n C dX8_unlike_23 rfl ?_
        obtain ⟨r6, hr6, h⟩ := ob h
        refine y_cV C [] (m_X8_dayOf K M t) hr6 g1 cw_X8_251 rfl (by decide) ⟨rfl, rfl⟩ ⟨Nat.zero_le _, Nat.zero_le _⟩ (Nat.le_of_ble_eq_true rfl) rfl rfl rfl dX8_unlike_24 ?_
        refine y_aload_n C dX8_unlike_27 rfl ?_
        obtain ⟨r7, hr7, h⟩ := ob h
        refine y_cV C [] (m_X8_holding K r6 t) hr7 g1 cw_X8_230 rfl (by decide) ⟨rfl, rfl⟩ ⟨Nat.zero_le _, Nat.zero_le _⟩ (Nat.le_of_ble_eq_true rfl) rfl rfl rfl dX8_unlike_28 ?_
        refine y_aload_n C dX8_unlike_31 rfl ?_
        obtain ⟨q8, hq8, h⟩ := ob h
        refine y_getr C fl_X8_50 g1 hq8 dX8_unlike_32 ?_
        refine y_bipush C dX8_unlike_35 kb_40 ?_
        refine y_iload_n C dX8_unlike_37 rfl ?_
        refine y_imul C dX8_unlike_38 ?_
        refine y_iload_n C dX8_unlike_39 rfl ?_
        refine y_iadd C dX8_unlike_40 ?_
        obtain ⟨g9, h⟩ := gd h
        refine y_iald C g9 dX8_unlike_41 ?_
        obtain ⟨j11, hj11, h⟩ := ob h
        have hJj11 : Y X K r7.2 0 0 50 [(0, .ref t), (1, .int x_1), (3, .int u8_3)] [.int j11] := by
          refine y_istore_n C dX8_unlike_50 (by decide) (L' := [(2, .int j11), (0, .ref t), (1, .int x_1), (3, .int u8_3)]) rfl ?_
          obtain ⟨v12, ev12, h⟩ := ob h
          have ev12 := Option.some.inj ev12
          refine y_iinc C dX8_unlike_51 (by decide) rfl (v := v12) (by subst ev12; rfl) (L' := [(3, .int v12), (2, .int j11), (0, .ref t), (1, .int x_1)]) rfl ?_
          refine y_goto C dX8_unlike_54 (tgt := 8) rfl ?_
          exact y_sel [0, 1, 2, 3] rfl (ih _ _ _ _  h hX)
        replace h := hj11
        refine y_icmp_ne C dX8_unlike_42 (tgt := 49) rfl (fun c10 => ?_) (fun c10 => ?_)
        · have h := itF c10 h
          refine y_iload_n C dX8_unlike_49 rfl ?_
          have e0 := Option.some.inj h
          subst e0
          exact y_sel [0, 1, 3] rfl hJj11
        · have h := itT c10 h
          refine y_iconst C dX8_unlike_45 kc_m1 ?_
          refine y_goto C dX8_unlike_46 (tgt := 50) rfl ?_
          have e0 := Option.some.inj h
          subst e0
          exact y_sel [0, 1, 3] rfl hJj11
set_option maxRecDepth 100000 in
def b_X8_unlike (K : yK) (M : yM) (t : Nat) (x1 : Int32) : Option (Int32 × yM) := (if gO K t 7 = true then (Option.bind (b_X8_keeps K M t) fun r2 => (Option.bind (b_X8_unlike_8 K t x1 1000 r2 ((-1 : Int32)) ((0 : Int32))) fun j3 => (Option.bind (b_X8_laysBack K j3.2 t) fun r4 => (some (j3.1, r4))))) else none)
set_option maxHeartbeats 4000000 in
set_option maxRecDepth 100000 in
theorem m_X8_unlike (K : yK) (M : yM) (t : Nat) (x1 : Int32) : yMet yX8_unlike cX8_unlike 4 (Option.some Jvm.ClassFile.FieldType.int) rm_X8_unlike K M [.ref t, .int x1] (b_X8_unlike K M t x1) (yGi K) := by
  refine yM_intro (by decide) (Nat.le_of_ble_eq_true rfl) (fun X r h C E => ?_)
  replace C : yCx X cX8_unlike RX8 "unlike" rm_X8_unlike 4 := C
  show Y X K M 0 0 0 [(0, .ref t), (1, .int x1)] []
  unfold b_X8_unlike at h
  refine y_iconst C dX8_unlike_0 kc_m1 ?_
  refine y_istore_n C dX8_unlike_1 (by decide) (L' := [(2, .int (-1)), (0, .ref t), (1, .int x1)]) rfl ?_
  refine y_aload_n C dX8_unlike_2 rfl ?_
  obtain ⟨g1, h⟩ := gd h
  obtain ⟨r2, hr2, h⟩ := ob h
  refine y_cV C [] (m_X8_keeps K M t) hr2 g1 cw_X8_275 rfl (by decide) ⟨rfl, rfl⟩ ⟨Nat.zero_le _, Nat.zero_le _⟩ (Nat.le_of_ble_eq_true rfl) rfl rfl rfl dX8_unlike_3 ?_
  refine y_iconst C dX8_unlike_6 kc_0 ?_
  refine y_istore_n C dX8_unlike_7 (by decide) (L' := [(3, .int (0)), (2, .int (-1)), (0, .ref t), (1, .int x1)]) rfl ?_
  obtain ⟨j3, hj3, h⟩ := ob h
  refine y_sel [0, 1, 2, 3] rfl (l_X8_unlike_8 C 1000 _ _ _ _ hj3 ?_)
  refine y_aload_n C dX8_unlike_57 rfl ?_
  obtain ⟨r4, hr4, h⟩ := ob h
  refine y_cV C [] (m_X8_laysBack K j3.2 t) hr4 g1 cw_X8_281 rfl (by decide) ⟨rfl, rfl⟩ ⟨Nat.zero_le _, Nat.zero_le _⟩ (Nat.le_of_ble_eq_true rfl) rfl rfl rfl dX8_unlike_58 ?_
  refine y_iload_n C dX8_unlike_61 rfl ?_
  have e0 := Option.some.inj h
  subst e0
  exact y_iret C E (Nat.zero_le _) (Nat.zero_le _) dX8_unlike_62
def b_X8_begins_34 (K : yK) (t : Nat) (x_1 : Int32) (x_3 : Int32) (x_4 : Int32) : Nat → yM → Int32 → Int32 → Option (Int32 × yM)
  | 0, _, _, _ => none
  | n + 1, M, u34_5, u34_6 => (if gO K t 7 = true then (if (M t 0) ≤ u34_6 then (some (u34_5, M)) else (Option.bind (b_X8_firstPage K M t u34_6) fun r3 => (Option.bind (some (yS M t 6 r3)) fun M4 => (Option.bind (b_X8_unlike K M4 t x_1) fun r5 => (Option.bind (if r5.1 = (-1 : Int32) then (some ((1 : Int32) <<< (u34_6 &&& 31))) else (some (0 : Int32))) fun j7 => (Option.bind (some (u34_5 ||| j7)) fun v8 => (Option.bind (some (u34_6 + (1 : Int32))) fun v9 => (b_X8_begins_34 K t x_1 x_3 x_4 n r5.2 v8 v9)))))))) else none)
set_option maxHeartbeats 4000000 in
set_option maxRecDepth 100000 in
theorem l_X8_begins_34 {X : yX} {K : yK} {t : Nat} {x_1 : Int32} {x_3 : Int32} {x_4 : Int32} (C : yCx X cX8_begins RX8 "begins" rm_X8_begins 7) : ∀ (n : Nat) (M : yM) (u34_5 : Int32) (u34_6 : Int32) (x : (Int32 × yM)), b_X8_begins_34 K t x_1 x_3 x_4 n M u34_5 u34_6 = some x → ∀ (hX : Y X K x.2 0 0 81 [(0, .ref t), (3, .int x_3), (4, .int x_4), (5, .int x.1)] []), Y X K M 0 0 34 [(0, .ref t), (1, .int x_1), (3, .int x_3), (4, .int x_4), (5, .int u34_5), (6, .int u34_6)] [] := by
  intro n
  induction n with
  | zero =>
    intro M u34_5 u34_6 x h
    exact nomatch (show (none : Option _) = some x from h)
  | succ n ih =>
    intro M u34_5 u34_6 x h hX
    rw [b_X8_begins_34] at h
    refine y_iload C dX8_begins_34 rfl ?_
    refine y_aload_n C dX8_begins_36 rfl ?_
    obtain ⟨g1, h⟩ := gd h
    refine y_geti C fl_X8_87 g1 dX8_begins_37 ?_
    refine y_icmp_ge C dX8_begins_40 (tgt := 81) rfl (fun c2 => ?_) (fun c2 => ?_)
    · have h := itT c2 h
      have e0 := Option.some.inj h
      subst e0
      exact y_sel [0, 3, 4, 5] rfl hX
    · have h := itF c2 h
      refine y_aload_n C dX8_begins_43 rfl ?_
      refine y_aload_n C dX8_begins_44 rfl ?_
      refine y_iload C dX8_begins_45 rfl ?_
      obtain ⟨r3, hr3, h⟩ := ob h
      refine y_cV C [.int u34_6] (m_X8_firstPage K M t u34_6) hr3 g1 cw_X8_101 rfl (by decide) ⟨rfl, rfl⟩ ⟨Nat.zero_le _, Nat.zero_le _⟩ (Nat.le_of_ble_eq_true rfl) rfl rfl rfl dX8_begins_47 ?_
      obtain ⟨M4, eM4, h⟩ := ob h
      have eM4 := Option.some.inj eM4
      refine y_puti C fl_X8_104 rfl g1 rfl rfl dX8_begins_50 eM4 ?_
      refine y_iload C dX8_begins_53 rfl ?_
      refine y_aload_n C dX8_begins_55 rfl ?_
      refine y_iload_n C dX8_begins_56 rfl ?_
      obtain ⟨r5, hr5, h⟩ := ob h
      refine y_cV C [.int x_1] (m_X8_unlike K M4 t x_1) hr5 g1 cw_X8_302 rfl (by decide) ⟨rfl, rfl⟩ ⟨Nat.zero_le _, Nat.zero_le _⟩ (Nat.le_of_ble_eq_true rfl) rfl rfl rfl dX8_begins_57 ?_
      refine y_iconst C dX8_begins_60 kc_m1 ?_
      obtain ⟨j7, hj7, h⟩ := ob h
      have hJj7 : Y X K r5.2 0 0 72 [(0, .ref t), (1, .int x_1), (3, .int x_3), (4, .int x_4), (6, .int u34_6)] [.int j7, .int u34_5] := by
        refine y_ior C dX8_begins_72 ?_
        obtain ⟨v8, ev8, h⟩ := ob h
        have ev8 := Option.some.inj ev8
        refine y_istore C dX8_begins_73 (by decide) (L' := [(5, .int v8), (0, .ref t), (1, .int x_1), (3, .int x_3), (4, .int x_4), (6, .int u34_6)]) (by subst ev8; rfl) ?_
        obtain ⟨v9, ev9, h⟩ := ob h
        have ev9 := Option.some.inj ev9
        refine y_iinc C dX8_begins_75 (by decide) rfl (v := v9) (by subst ev9; rfl) (L' := [(6, .int v9), (5, .int v8), (0, .ref t), (1, .int x_1), (3, .int x_3), (4, .int x_4)]) rfl ?_
        refine y_goto C dX8_begins_78 (tgt := 34) rfl ?_
        exact y_sel [0, 1, 3, 4, 5, 6] rfl (ih _ _ _ _  h hX)
      replace h := hj7
      refine y_icmp_ne C dX8_begins_61 (tgt := 71) rfl (fun c6 => ?_) (fun c6 => ?_)
      · have h := itF c6 h
        refine y_iconst C dX8_begins_71 kc_0 ?_
        have e0 := Option.some.inj h
        subst e0
        exact y_sel [0, 1, 3, 4, 6] rfl hJj7
      · have h := itT c6 h
        refine y_iconst C dX8_begins_64 kc_1 ?_
        refine y_iload C dX8_begins_65 rfl ?_
        refine y_ishl C dX8_begins_67 ?_
        refine y_goto C dX8_begins_68 (tgt := 72) rfl ?_
        have e0 := Option.some.inj h
        subst e0
        exact y_sel [0, 1, 3, 4, 6] rfl hJj7
set_option maxRecDepth 100000 in
def b_X8_begins (K : yK) (M : yM) (t : Nat) (x1 : Int32) : Option (Int32 × yM) := (if gO K t 7 = true then (Option.bind (b_X8_sheetWrong K M t x1) fun r2 => (if r2 = 0 then (Option.bind (some (M t 6)) fun v4 => (Option.bind (some (M t 8)) fun v5 => (Option.bind (some (yS M t 8 (-1 : Int32))) fun M6 => (Option.bind (b_X8_begins_34 K t x1 v4 v5 1000 M6 ((0 : Int32)) ((0 : Int32))) fun j7 => (Option.bind (some (yS j7.2 t 6 v4)) fun M8 => (Option.bind (some (yS M8 t 8 v5)) fun M9 => (some (j7.1, M9)))))))) else (some (r2, M)))) else none)
set_option maxHeartbeats 4000000 in
set_option maxRecDepth 100000 in
theorem m_X8_begins (K : yK) (M : yM) (t : Nat) (x1 : Int32) : yMet yX8_begins cX8_begins 7 (Option.some Jvm.ClassFile.FieldType.int) rm_X8_begins K M [.ref t, .int x1] (b_X8_begins K M t x1) (yGi K) := by
  refine yM_intro (by decide) (Nat.le_of_ble_eq_true rfl) (fun X r h C E => ?_)
  replace C : yCx X cX8_begins RX8 "begins" rm_X8_begins 7 := C
  show Y X K M 0 0 0 [(0, .ref t), (1, .int x1)] []
  unfold b_X8_begins at h
  refine y_aload_n C dX8_begins_0 rfl ?_
  refine y_iload_n C dX8_begins_1 rfl ?_
  obtain ⟨g1, h⟩ := gd h
  obtain ⟨r2, hr2, h⟩ := ob h
  refine y_cV C [.int x1] (m_X8_sheetWrong K M t x1) hr2 g1 cw_X8_299 rfl (by decide) ⟨rfl, rfl⟩ ⟨Nat.zero_le _, Nat.zero_le _⟩ (Nat.le_of_ble_eq_true rfl) rfl rfl rfl dX8_begins_2 ?_
  refine y_istore_n C dX8_begins_5 (by decide) (L' := [(2, .int r2), (0, .ref t), (1, .int x1)]) rfl ?_
  refine y_iload_n C dX8_begins_6 rfl ?_
  refine y_if_eq C dX8_begins_7 (tgt := 12) rfl (fun c3 => ?_) (fun c3 => ?_)
  · have h := itT c3 h
    refine y_aload_n C dX8_begins_12 rfl ?_
    refine y_geti C fl_X8_104 g1 dX8_begins_13 ?_
    obtain ⟨v4, ev4, h⟩ := ob h
    have ev4 := Option.some.inj ev4
    refine y_istore_n C dX8_begins_16 (by decide) (L' := [(3, .int v4), (2, .int r2), (0, .ref t), (1, .int x1)]) (by subst ev4; rfl) ?_
    refine y_aload_n C dX8_begins_17 rfl ?_
    refine y_geti C fl_X8_22 g1 dX8_begins_18 ?_
    obtain ⟨v5, ev5, h⟩ := ob h
    have ev5 := Option.some.inj ev5
    refine y_istore C dX8_begins_21 (by decide) (L' := [(4, .int v5), (3, .int v4), (2, .int r2), (0, .ref t), (1, .int x1)]) (by subst ev5; rfl) ?_
    refine y_iconst C dX8_begins_23 kc_0 ?_
    refine y_istore C dX8_begins_24 (by decide) (L' := [(5, .int (0)), (4, .int v5), (3, .int v4), (2, .int r2), (0, .ref t), (1, .int x1)]) rfl ?_
    refine y_aload_n C dX8_begins_26 rfl ?_
    refine y_iconst C dX8_begins_27 kc_m1 ?_
    obtain ⟨M6, eM6, h⟩ := ob h
    have eM6 := Option.some.inj eM6
    refine y_puti C fl_X8_22 rfl g1 rfl rfl dX8_begins_28 eM6 ?_
    refine y_iconst C dX8_begins_31 kc_0 ?_
    refine y_istore C dX8_begins_32 (by decide) (L' := [(6, .int (0)), (5, .int (0)), (4, .int v5), (3, .int v4), (2, .int r2), (0, .ref t), (1, .int x1)]) rfl ?_
    obtain ⟨j7, hj7, h⟩ := ob h
    refine y_sel [0, 1, 3, 4, 5, 6] rfl (l_X8_begins_34 C 1000 _ _ _ _ hj7 ?_)
    refine y_aload_n C dX8_begins_81 rfl ?_
    refine y_iload_n C dX8_begins_82 rfl ?_
    obtain ⟨M8, eM8, h⟩ := ob h
    have eM8 := Option.some.inj eM8
    refine y_puti C fl_X8_104 rfl g1 rfl rfl dX8_begins_83 eM8 ?_
    refine y_aload_n C dX8_begins_86 rfl ?_
    refine y_iload C dX8_begins_87 rfl ?_
    obtain ⟨M9, eM9, h⟩ := ob h
    have eM9 := Option.some.inj eM9
    refine y_puti C fl_X8_22 rfl g1 rfl rfl dX8_begins_89 eM9 ?_
    refine y_iload C dX8_begins_92 rfl ?_
    have e0 := Option.some.inj h
    subst e0
    exact y_iret C E (Nat.zero_le _) (Nat.zero_le _) dX8_begins_94
  · have h := itF c3 h
    refine y_iload_n C dX8_begins_10 rfl ?_
    have e0 := Option.some.inj h
    subst e0
    exact y_iret C E (Nat.zero_le _) (Nat.zero_le _) dX8_begins_11
set_option maxRecDepth 100000 in
def b_X8_holds (K : yK) (M : yM) (t : Nat) (x1 : Int32) : Option yM := (if gO K t 7 = true then (Option.bind (K.2.2 t 33) fun q2 => (if gA K q2 (M t 34) = true then (Option.bind (some (yS M q2 ((M t 34)).toNatClampNeg x1)) fun M4 => (Option.bind (some (yS M4 t 34 ((M4 t 34) + (1 : Int32)))) fun M5 => (some M5))) else none)) else none)
set_option maxHeartbeats 4000000 in
set_option maxRecDepth 100000 in
theorem m_X8_holds (K : yK) (M : yM) (t : Nat) (x1 : Int32) : yMet yX8_holds cX8_holds 2 none rm_X8_holds K M [.ref t, .int x1] (b_X8_holds K M t x1) (yGv K) := by
  refine yM_intro (by decide) (Nat.le_of_ble_eq_true rfl) (fun X r h C E => ?_)
  replace C : yCx X cX8_holds RX8 "holds" rm_X8_holds 2 := C
  show Y X K M 0 0 0 [(0, .ref t), (1, .int x1)] []
  unfold b_X8_holds at h
  refine y_aload_n C dX8_holds_0 rfl ?_
  obtain ⟨g1, h⟩ := gd h
  obtain ⟨q2, hq2, h⟩ := ob h
  refine y_getr C fl_X8_59 g1 hq2 dX8_holds_1 ?_
  refine y_aload_n C dX8_holds_4 rfl ?_
  refine y_geti C fl_X8_159 g1 dX8_holds_5 ?_
  refine y_iload_n C dX8_holds_8 rfl ?_
  obtain ⟨g3, h⟩ := gd h
  obtain ⟨M4, eM4, h⟩ := ob h
  have eM4 := Option.some.inj eM4
  refine y_iast C g3 dX8_holds_9 eM4 ?_
  refine y_aload_n C dX8_holds_10 rfl ?_
  refine y_dup C dX8_holds_11 rfl ?_
  refine y_geti C fl_X8_159 g1 dX8_holds_12 ?_
  refine y_iconst C dX8_holds_15 kc_1 ?_
  refine y_iadd C dX8_holds_16 ?_
  obtain ⟨M5, eM5, h⟩ := ob h
  have eM5 := Option.some.inj eM5
  refine y_puti C fl_X8_159 rfl g1 rfl rfl dX8_holds_17 eM5 ?_
  have e0 := Option.some.inj h
  subst e0
  exact y_vret C E (Nat.zero_le _) (Nat.zero_le _) dX8_holds_20
set_option maxRecDepth 100000 in
def b_X8_rank (K : yK) (M : yM) (x1 : Int32) : Option Int32 := (if x1 = 0 then (some (0 : Int32)) else (if x1 = (11 : Int32) then (some (1 : Int32)) else (if x1 = (12 : Int32) then (some (2 : Int32)) else (if x1 = (13 : Int32) then (some (3 : Int32)) else (if (15 : Int32) < x1 then (if (17 : Int32) < x1 then (if x1 = (18 : Int32) then (some (6 : Int32)) else (some (7 : Int32))) else (some (5 : Int32))) else (some (4 : Int32)))))))
set_option maxHeartbeats 4000000 in
set_option maxRecDepth 100000 in
theorem m_X8_rank (K : yK) (M : yM) (x1 : Int32) : yMet yX8_rank cX8_rank 1 (Option.some Jvm.ClassFile.FieldType.int) rm_X8_rank K M [.int x1] (b_X8_rank K M x1) (yFi K M) := by
  refine yM_intro (by decide) (Nat.le_of_ble_eq_true rfl) (fun X r h C E => ?_)
  replace C : yCx X cX8_rank RX8 "rank" rm_X8_rank 1 := C
  show Y X K M 0 0 0 [(0, .int x1)] []
  unfold b_X8_rank at h
  refine y_iload_n C dX8_rank_0 rfl ?_
  refine y_if_ne C dX8_rank_1 (tgt := 8) rfl (fun c1 => ?_) (fun c1 => ?_)
  · have h := itF c1 h
    refine y_iload_n C dX8_rank_8 rfl ?_
    refine y_bipush C dX8_rank_9 kb_11 ?_
    refine y_icmp_ne C dX8_rank_11 (tgt := 18) rfl (fun c2 => ?_) (fun c2 => ?_)
    · have h := itF c2 h
      refine y_iload_n C dX8_rank_18 rfl ?_
      refine y_bipush C dX8_rank_19 kb_12 ?_
      refine y_icmp_ne C dX8_rank_21 (tgt := 28) rfl (fun c3 => ?_) (fun c3 => ?_)
      · have h := itF c3 h
        refine y_iload_n C dX8_rank_28 rfl ?_
        refine y_bipush C dX8_rank_29 kb_13 ?_
        refine y_icmp_ne C dX8_rank_31 (tgt := 38) rfl (fun c4 => ?_) (fun c4 => ?_)
        · have h := itF c4 h
          refine y_iload_n C dX8_rank_38 rfl ?_
          refine y_bipush C dX8_rank_39 kb_15 ?_
          refine y_icmp_gt C dX8_rank_41 (tgt := 48) rfl (fun c5 => ?_) (fun c5 => ?_)
          · have h := itT c5 h
            refine y_iload_n C dX8_rank_48 rfl ?_
            refine y_bipush C dX8_rank_49 kb_17 ?_
            refine y_icmp_gt C dX8_rank_51 (tgt := 58) rfl (fun c6 => ?_) (fun c6 => ?_)
            · have h := itT c6 h
              refine y_iload_n C dX8_rank_58 rfl ?_
              refine y_bipush C dX8_rank_59 kb_18 ?_
              refine y_icmp_ne C dX8_rank_61 (tgt := 69) rfl (fun c7 => ?_) (fun c7 => ?_)
              · have h := itF c7 h
                refine y_bipush C dX8_rank_69 kb_7 ?_
                have e0 := Option.some.inj h
                subst e0
                exact y_iret C E (Nat.zero_le _) (Nat.zero_le _) dX8_rank_71
              · have h := itT c7 h
                refine y_bipush C dX8_rank_64 kb_6 ?_
                refine y_goto C dX8_rank_66 (tgt := 71) rfl ?_
                have e0 := Option.some.inj h
                subst e0
                exact y_iret C E (Nat.zero_le _) (Nat.zero_le _) dX8_rank_71
            · have h := itF c6 h
              refine y_iconst C dX8_rank_54 kc_5 ?_
              refine y_goto C dX8_rank_55 (tgt := 71) rfl ?_
              have e0 := Option.some.inj h
              subst e0
              exact y_iret C E (Nat.zero_le _) (Nat.zero_le _) dX8_rank_71
          · have h := itF c5 h
            refine y_iconst C dX8_rank_44 kc_4 ?_
            refine y_goto C dX8_rank_45 (tgt := 71) rfl ?_
            have e0 := Option.some.inj h
            subst e0
            exact y_iret C E (Nat.zero_le _) (Nat.zero_le _) dX8_rank_71
        · have h := itT c4 h
          refine y_iconst C dX8_rank_34 kc_3 ?_
          refine y_goto C dX8_rank_35 (tgt := 71) rfl ?_
          have e0 := Option.some.inj h
          subst e0
          exact y_iret C E (Nat.zero_le _) (Nat.zero_le _) dX8_rank_71
      · have h := itT c3 h
        refine y_iconst C dX8_rank_24 kc_2 ?_
        refine y_goto C dX8_rank_25 (tgt := 71) rfl ?_
        have e0 := Option.some.inj h
        subst e0
        exact y_iret C E (Nat.zero_le _) (Nat.zero_le _) dX8_rank_71
    · have h := itT c2 h
      refine y_iconst C dX8_rank_14 kc_1 ?_
      refine y_goto C dX8_rank_15 (tgt := 71) rfl ?_
      have e0 := Option.some.inj h
      subst e0
      exact y_iret C E (Nat.zero_le _) (Nat.zero_le _) dX8_rank_71
  · have h := itT c1 h
    refine y_iconst C dX8_rank_4 kc_0 ?_
    refine y_goto C dX8_rank_5 (tgt := 71) rfl ?_
    have e0 := Option.some.inj h
    subst e0
    exact y_iret C E (Nat.zero_le _) (Nat.zero_le _) dX8_rank_71
set_option maxRecDepth 100000 in
def b_X8_puts (K : yK) (M : yM) (t : Nat) (x1 : Int32) : Option yM := (if gO K t 7 = true then (Option.bind (K.2.2 t 13) fun q2 => (if gA K q2 (((200 : Int32) * (M t 15)) + (M t 36)) = true then (Option.bind (some (yS M q2 ((((200 : Int32) * (M t 15)) + (M t 36))).toNatClampNeg x1)) fun M4 => (Option.bind (some (yS M4 t 36 ((M4 t 36) + (1 : Int32)))) fun M5 => (some M5))) else none)) else none)
set_option maxHeartbeats 4000000 in
set_option maxRecDepth 100000 in
theorem m_X8_puts (K : yK) (M : yM) (t : Nat) (x1 : Int32) : yMet yX8_puts cX8_puts 2 none rm_X8_puts K M [.ref t, .int x1] (b_X8_puts K M t x1) (yGv K) := by
  refine yM_intro (by decide) (Nat.le_of_ble_eq_true rfl) (fun X r h C E => ?_)
  replace C : yCx X cX8_puts RX8 "puts" rm_X8_puts 2 := C
  show Y X K M 0 0 0 [(0, .ref t), (1, .int x1)] []
  unfold b_X8_puts at h
  refine y_aload_n C dX8_puts_0 rfl ?_
  obtain ⟨g1, h⟩ := gd h
  obtain ⟨q2, hq2, h⟩ := ob h
  refine y_getr C fl_X8_29 g1 hq2 dX8_puts_1 ?_
  refine y_sipush C dX8_puts_4 ks_200 ?_
  refine y_aload_n C dX8_puts_7 rfl ?_
  refine y_geti C fl_X8_113 g1 dX8_puts_8 ?_
  refine y_imul C dX8_puts_11 ?_
  refine y_aload_n C dX8_puts_12 rfl ?_
  refine y_geti C fl_X8_156 g1 dX8_puts_13 ?_
  refine y_iadd C dX8_puts_16 ?_
  refine y_iload_n C dX8_puts_17 rfl ?_
  obtain ⟨g3, h⟩ := gd h
  obtain ⟨M4, eM4, h⟩ := ob h
  have eM4 := Option.some.inj eM4
  refine y_iast C g3 dX8_puts_18 eM4 ?_
  refine y_aload_n C dX8_puts_19 rfl ?_
  refine y_dup C dX8_puts_20 rfl ?_
  refine y_geti C fl_X8_156 g1 dX8_puts_21 ?_
  refine y_iconst C dX8_puts_24 kc_1 ?_
  refine y_iadd C dX8_puts_25 ?_
  obtain ⟨M5, eM5, h⟩ := ob h
  have eM5 := Option.some.inj eM5
  refine y_puti C fl_X8_156 rfl g1 rfl rfl dX8_puts_26 eM5 ?_
  have e0 := Option.some.inj h
  subst e0
  exact y_vret C E (Nat.zero_le _) (Nat.zero_le _) dX8_puts_29
def b_X8_unwinds_0 (K : yK) (t : Nat) (x_1 : Int32) : Nat → yM → Option yM
  | 0, _ => none
  | n + 1, M => (if gO K t 7 = true then (if (M t 34) ≤ 0 then (some M) else (Option.bind (K.2.2 t 33) fun q3 => (if gA K q3 ((M t 34) - (1 : Int32)) = true then (Option.bind (b_X8_rank K M ((M q3 (((M t 34) - (1 : Int32))).toNatClampNeg))) fun r5 => (if r5 < x_1 then (some M) else (Option.bind (some (yS M t 34 ((M t 34) - (1 : Int32)))) fun M7 => (if gA K q3 (M7 t 34) = true then (Option.bind (some (M7 q3 ((M7 t 34)).toNatClampNeg)) fun v9 => (Option.bind (if v9 = (13 : Int32) then (some true) else (if v9 = (19 : Int32) then (some true) else (some false))) fun j11 => (Option.bind (some (yS M7 t 35 ((M7 t 35) - (bI j11)))) fun M13 => (Option.bind (b_X8_puts K M13 t v9) fun r14 => (b_X8_unwinds_0 K t x_1 n r14))))) else none)))) else none))) else none)
set_option maxHeartbeats 4000000 in
set_option maxRecDepth 100000 in
theorem l_X8_unwinds_0 {X : yX} {K : yK} {t : Nat} {x_1 : Int32} (C : yCx X cX8_unwinds RX8 "unwinds" rm_X8_unwinds 3) : ∀ (n : Nat) (M : yM) (x : yM), b_X8_unwinds_0 K t x_1 n M = some x → ∀ (hX : Y X K x 0 0 79 [] []), Y X K M 0 0 0 [(0, .ref t), (1, .int x_1)] [] := by
  intro n
  induction n with
  | zero =>
    intro M x h
    exact nomatch (show (none : Option _) = some x from h)
  | succ n ih =>
    intro M x h hX
    rw [b_X8_unwinds_0] at h
    refine y_aload_n C dX8_unwinds_0 rfl ?_
    obtain ⟨g1, h⟩ := gd h
    refine y_geti C fl_X8_159 g1 dX8_unwinds_1 ?_
    refine y_if_le C dX8_unwinds_4 (tgt := 79) rfl (fun c2 => ?_) (fun c2 => ?_)
    · have h := itT c2 h
      have e0 := Option.some.inj h
      subst e0
      exact y_sel [] rfl hX
    · have h := itF c2 h
      refine y_aload_n C dX8_unwinds_7 rfl ?_
      obtain ⟨q3, hq3, h⟩ := ob h
      refine y_getr C fl_X8_59 g1 hq3 dX8_unwinds_8 ?_
      refine y_aload_n C dX8_unwinds_11 rfl ?_
      refine y_geti C fl_X8_159 g1 dX8_unwinds_12 ?_
      refine y_iconst C dX8_unwinds_15 kc_1 ?_
      refine y_isub C dX8_unwinds_16 ?_
      obtain ⟨g4, h⟩ := gd h
      refine y_iald C g4 dX8_unwinds_17 ?_
      obtain ⟨r5, hr5, h⟩ := ob h
      refine y_cS C [.int (M q3 (((M t 34) - (1 : Int32))).toNatClampNeg)] (m_X8_rank K M ((M q3 (((M t 34) - (1 : Int32))).toNatClampNeg))) hr5 cw_X8_162 rfl (by decide) ⟨rfl, rfl⟩ ⟨Nat.zero_le _, Nat.zero_le _⟩ (Nat.le_of_ble_eq_true rfl) rfl rfl rfl dX8_unwinds_18 ?_
      refine y_iload_n C dX8_unwinds_21 rfl ?_
      refine y_icmp_lt C dX8_unwinds_22 (tgt := 79) rfl (fun c6 => ?_) (fun c6 => ?_)
      · have h := itT c6 h
        have e0 := Option.some.inj h
        subst e0
        exact y_sel [] rfl hX
      · have h := itF c6 h
        refine y_aload_n C dX8_unwinds_25 rfl ?_
        refine y_dup C dX8_unwinds_26 rfl ?_
        refine y_geti C fl_X8_159 g1 dX8_unwinds_27 ?_
        refine y_iconst C dX8_unwinds_30 kc_1 ?_
        refine y_isub C dX8_unwinds_31 ?_
        obtain ⟨M7, eM7, h⟩ := ob h
        have eM7 := Option.some.inj eM7
        refine y_puti C fl_X8_159 rfl g1 rfl rfl dX8_unwinds_32 eM7 ?_
        refine y_aload_n C dX8_unwinds_35 rfl ?_
        refine y_getr C fl_X8_59 g1 hq3 dX8_unwinds_36 ?_
        refine y_aload_n C dX8_unwinds_39 rfl ?_
        refine y_geti C fl_X8_159 g1 dX8_unwinds_40 ?_
        obtain ⟨g8, h⟩ := gd h
        refine y_iald C g8 dX8_unwinds_43 ?_
        obtain ⟨v9, ev9, h⟩ := ob h
        have ev9 := Option.some.inj ev9
        refine y_istore_n C dX8_unwinds_44 (by decide) (L' := [(2, .int v9), (0, .ref t), (1, .int x_1)]) (by subst ev9; rfl) ?_
        refine y_aload_n C dX8_unwinds_45 rfl ?_
        refine y_dup C dX8_unwinds_46 rfl ?_
        refine y_geti C fl_X8_165 g1 dX8_unwinds_47 ?_
        refine y_iload_n C dX8_unwinds_50 rfl ?_
        refine y_bipush C dX8_unwinds_51 kb_13 ?_
        obtain ⟨j11, hj11, h⟩ := ob h
        have hJj11 : Y X K M7 0 0 67 [(2, .int v9), (0, .ref t), (1, .int x_1)] [.int (bI j11), .int (M7 t 35), .ref t] := by
          refine y_isub C dX8_unwinds_67 ?_
          obtain ⟨M13, eM13, h⟩ := ob h
          have eM13 := Option.some.inj eM13
          refine y_puti C fl_X8_165 rfl g1 rfl rfl dX8_unwinds_68 eM13 ?_
          refine y_aload_n C dX8_unwinds_71 rfl ?_
          refine y_iload_n C dX8_unwinds_72 rfl ?_
          obtain ⟨r14, hr14, h⟩ := ob h
          refine y_cV C [.int v9] (m_X8_puts K M13 t v9) hr14 g1 cw_X8_168 rfl (by decide) ⟨rfl, rfl⟩ ⟨Nat.zero_le _, Nat.zero_le _⟩ (Nat.le_of_ble_eq_true rfl) rfl rfl rfl dX8_unwinds_73 ?_
          refine y_goto C dX8_unwinds_76 (tgt := 0) rfl ?_
          exact y_sel [0, 1] rfl (ih _ _  h hX)
        replace h := hj11
        refine y_icmp_eq C dX8_unwinds_53 (tgt := 62) rfl (fun c10 => ?_) (fun c10 => ?_)
        · have h := itT c10 h
          refine y_iconst C dX8_unwinds_62 kc_1 ?_
          refine y_goto C dX8_unwinds_63 (tgt := 67) rfl ?_
          have e0 := Option.some.inj h
          subst e0
          exact y_sel [2, 0, 1] rfl hJj11
        · have h := itF c10 h
          refine y_iload_n C dX8_unwinds_56 rfl ?_
          refine y_bipush C dX8_unwinds_57 kb_19 ?_
          refine y_icmp_ne C dX8_unwinds_59 (tgt := 66) rfl (fun c12 => ?_) (fun c12 => ?_)
          · have h := itF c12 h
            refine y_iconst C dX8_unwinds_66 kc_0 ?_
            have e0 := Option.some.inj h
            subst e0
            exact y_sel [2, 0, 1] rfl hJj11
          · have h := itT c12 h
            refine y_iconst C dX8_unwinds_62 kc_1 ?_
            refine y_goto C dX8_unwinds_63 (tgt := 67) rfl ?_
            have e0 := Option.some.inj h
            subst e0
            exact y_sel [2, 0, 1] rfl hJj11
set_option maxRecDepth 100000 in
def b_X8_unwinds (K : yK) (M : yM) (t : Nat) (x1 : Int32) : Option yM := (Option.bind (b_X8_unwinds_0 K t x1 1000 M) fun j1 => (some j1))
set_option maxHeartbeats 4000000 in
set_option maxRecDepth 100000 in
theorem m_X8_unwinds (K : yK) (M : yM) (t : Nat) (x1 : Int32) : yMet yX8_unwinds cX8_unwinds 3 none rm_X8_unwinds K M [.ref t, .int x1] (b_X8_unwinds K M t x1) (yGv K) := by
  refine yM_intro (by decide) (Nat.le_of_ble_eq_true rfl) (fun X r h C E => ?_)
  replace C : yCx X cX8_unwinds RX8 "unwinds" rm_X8_unwinds 3 := C
  show Y X K M 0 0 0 [(0, .ref t), (1, .int x1)] []
  unfold b_X8_unwinds at h
  obtain ⟨j1, hj1, h⟩ := ob h
  refine y_sel [0, 1] rfl (l_X8_unwinds_0 C 1000 _ _ hj1 ?_)
  have e0 := Option.some.inj h
  subst e0
  exact y_vret C E (Nat.zero_le _) (Nat.zero_le _) dX8_unwinds_79
set_option maxRecDepth 100000 in
def b_X8_between (K : yK) (M : yM) (t : Nat) (x1 : Int32) : Option (Bool × yM) := (Option.bind (b_X8_rank K M x1) fun r1 => (Option.bind (if r1 = (4 : Int32) then (some (5 : Int32)) else (Option.bind (b_X8_rank K M x1) fun r4 => (some r4))) fun j3 => (if gO K t 7 = true then (Option.bind (b_X8_unwinds K M t j3) fun r6 => (Option.bind (b_X8_rank K r6 x1) fun r7 => (if r7 = (4 : Int32) then (if (r6 t 34) ≤ 0 then (Option.bind (b_X8_holds K r6 t x1) fun r11 => (some (true, r11))) else (Option.bind (K.2.2 t 33) fun q12 => (if gA K q12 ((r6 t 34) - (1 : Int32)) = true then (Option.bind (b_X8_rank K r6 ((r6 q12 (((r6 t 34) - (1 : Int32))).toNatClampNeg))) fun r14 => (if r14 = (4 : Int32) then (some (false, r6)) else (Option.bind (b_X8_holds K r6 t x1) fun r16 => (some (true, r16))))) else none))) else (Option.bind (b_X8_holds K r6 t x1) fun r9 => (some (true, r9)))))) else none)))
set_option maxHeartbeats 4000000 in
set_option maxRecDepth 100000 in
theorem m_X8_between (K : yK) (M : yM) (t : Nat) (x1 : Int32) : yMet yX8_between cX8_between 2 (Option.some Jvm.ClassFile.FieldType.boolean) rm_X8_between K M [.ref t, .int x1] (b_X8_between K M t x1) (yGb K) := by
  refine yM_intro (by decide) (Nat.le_of_ble_eq_true rfl) (fun X r h C E => ?_)
  replace C : yCx X cX8_between RX8 "between" rm_X8_between 2 := C
  show Y X K M 0 0 0 [(0, .ref t), (1, .int x1)] []
  unfold b_X8_between at h
  refine y_aload_n C dX8_between_0 rfl ?_
  refine y_iload_n C dX8_between_1 rfl ?_
  obtain ⟨r1, hr1, h⟩ := ob h
  refine y_cS C [.int x1] (m_X8_rank K M x1) hr1 cw_X8_162 rfl (by decide) ⟨rfl, rfl⟩ ⟨Nat.zero_le _, Nat.zero_le _⟩ (Nat.le_of_ble_eq_true rfl) rfl rfl rfl dX8_between_2 ?_
  refine y_iconst C dX8_between_5 kc_4 ?_
  obtain ⟨j3, hj3, h⟩ := ob h
  have hJj3 : Y X K M 0 0 17 [(0, .ref t), (1, .int x1)] [.int j3, .ref t] := by
    obtain ⟨g5, h⟩ := gd h
    obtain ⟨r6, hr6, h⟩ := ob h
    refine y_cV C [.int j3] (m_X8_unwinds K M t j3) hr6 g5 cw_X8_175 rfl (by decide) ⟨rfl, rfl⟩ ⟨Nat.zero_le _, Nat.zero_le _⟩ (Nat.le_of_ble_eq_true rfl) rfl rfl rfl dX8_between_17 ?_
    refine y_iload_n C dX8_between_20 rfl ?_
    obtain ⟨r7, hr7, h⟩ := ob h
    refine y_cS C [.int x1] (m_X8_rank K r6 x1) hr7 cw_X8_162 rfl (by decide) ⟨rfl, rfl⟩ ⟨Nat.zero_le _, Nat.zero_le _⟩ (Nat.le_of_ble_eq_true rfl) rfl rfl rfl dX8_between_21 ?_
    refine y_iconst C dX8_between_24 kc_4 ?_
    refine y_icmp_ne C dX8_between_25 (tgt := 55) rfl (fun c8 => ?_) (fun c8 => ?_)
    · have h := itF c8 h
      refine y_aload_n C dX8_between_55 rfl ?_
      refine y_iload_n C dX8_between_56 rfl ?_
      obtain ⟨r9, hr9, h⟩ := ob h
      refine y_cV C [.int x1] (m_X8_holds K r6 t x1) hr9 g5 cw_X8_172 rfl (by decide) ⟨rfl, rfl⟩ ⟨Nat.zero_le _, Nat.zero_le _⟩ (Nat.le_of_ble_eq_true rfl) rfl rfl rfl dX8_between_57 ?_
      refine y_iconst C dX8_between_60 kc_1 ?_
      have e0 := Option.some.inj h
      subst e0
      exact y_bret (b := true) C E (Nat.zero_le _) (Nat.zero_le _) dX8_between_61
    · have h := itT c8 h
      refine y_aload_n C dX8_between_28 rfl ?_
      refine y_geti C fl_X8_159 g5 dX8_between_29 ?_
      refine y_if_le C dX8_between_32 (tgt := 55) rfl (fun c10 => ?_) (fun c10 => ?_)
      · have h := itT c10 h
        refine y_aload_n C dX8_between_55 rfl ?_
        refine y_iload_n C dX8_between_56 rfl ?_
        obtain ⟨r11, hr11, h⟩ := ob h
        refine y_cV C [.int x1] (m_X8_holds K r6 t x1) hr11 g5 cw_X8_172 rfl (by decide) ⟨rfl, rfl⟩ ⟨Nat.zero_le _, Nat.zero_le _⟩ (Nat.le_of_ble_eq_true rfl) rfl rfl rfl dX8_between_57 ?_
        refine y_iconst C dX8_between_60 kc_1 ?_
        have e0 := Option.some.inj h
        subst e0
        exact y_bret (b := true) C E (Nat.zero_le _) (Nat.zero_le _) dX8_between_61
      · have h := itF c10 h
        refine y_aload_n C dX8_between_35 rfl ?_
        obtain ⟨q12, hq12, h⟩ := ob h
        refine y_getr C fl_X8_59 g5 hq12 dX8_between_36 ?_
        refine y_aload_n C dX8_between_39 rfl ?_
        refine y_geti C fl_X8_159 g5 dX8_between_40 ?_
        refine y_iconst C dX8_between_43 kc_1 ?_
        refine y_isub C dX8_between_44 ?_
        obtain ⟨g13, h⟩ := gd h
        refine y_iald C g13 dX8_between_45 ?_
        obtain ⟨r14, hr14, h⟩ := ob h
        refine y_cS C [.int (r6 q12 (((r6 t 34) - (1 : Int32))).toNatClampNeg)] (m_X8_rank K r6 ((r6 q12 (((r6 t 34) - (1 : Int32))).toNatClampNeg))) hr14 cw_X8_162 rfl (by decide) ⟨rfl, rfl⟩ ⟨Nat.zero_le _, Nat.zero_le _⟩ (Nat.le_of_ble_eq_true rfl) rfl rfl rfl dX8_between_46 ?_
        refine y_iconst C dX8_between_49 kc_4 ?_
        refine y_icmp_ne C dX8_between_50 (tgt := 55) rfl (fun c15 => ?_) (fun c15 => ?_)
        · have h := itF c15 h
          refine y_aload_n C dX8_between_55 rfl ?_
          refine y_iload_n C dX8_between_56 rfl ?_
          obtain ⟨r16, hr16, h⟩ := ob h
          refine y_cV C [.int x1] (m_X8_holds K r6 t x1) hr16 g5 cw_X8_172 rfl (by decide) ⟨rfl, rfl⟩ ⟨Nat.zero_le _, Nat.zero_le _⟩ (Nat.le_of_ble_eq_true rfl) rfl rfl rfl dX8_between_57 ?_
          refine y_iconst C dX8_between_60 kc_1 ?_
          have e0 := Option.some.inj h
          subst e0
          exact y_bret (b := true) C E (Nat.zero_le _) (Nat.zero_le _) dX8_between_61
        · have h := itT c15 h
          refine y_iconst C dX8_between_53 kc_0 ?_
          have e0 := Option.some.inj h
          subst e0
          exact y_bret (b := false) C E (Nat.zero_le _) (Nat.zero_le _) dX8_between_54
  replace h := hj3
  refine y_icmp_ne C dX8_between_6 (tgt := 13) rfl (fun c2 => ?_) (fun c2 => ?_)
  · have h := itF c2 h
    refine y_iload_n C dX8_between_13 rfl ?_
    obtain ⟨r4, hr4, h⟩ := ob h
    refine y_cS C [.int x1] (m_X8_rank K M x1) hr4 cw_X8_162 rfl (by decide) ⟨rfl, rfl⟩ ⟨Nat.zero_le _, Nat.zero_le _⟩ (Nat.le_of_ble_eq_true rfl) rfl rfl rfl dX8_between_14 ?_
    have e0 := Option.some.inj h
    subst e0
    exact y_sel [0, 1] rfl hJj3
  · have h := itT c2 h
    refine y_iconst C dX8_between_9 kc_5 ?_
    refine y_goto C dX8_between_10 (tgt := 17) rfl ?_
    have e0 := Option.some.inj h
    subst e0
    exact y_sel [0, 1] rfl hJj3
set_option maxRecDepth 100000 in
def b_X8_cell (K : yK) (M : yM) (t : Nat) (x1 : Int32) (x2 : Int32) (x3 : Int32) : Option (Int32 × yM) := (Option.bind (b_X8_in K M x1 ((0 : Int32)) ((3 : Int32))) fun r1 => (if r1 = true then (if gO K t 7 = true then (Option.bind (K.2.2 t 24) fun q4 => (if gA K q4 x1 = true then (if (M q4 (x1).toNatClampNeg) = (-1 : Int32) then (some ((-11 : Int32), M)) else (Option.bind (K.2.2 t 25) fun q7 => (if gA K q7 x1 = true then (Option.bind (b_X8_in K M x2 ((0 : Int32)) (((M q7 (x1).toNatClampNeg) - (1 : Int32)))) fun r9 => (if r9 = true then (Option.bind (K.2.2 t 26) fun q11 => (Option.bind (if (M q4 (x1).toNatClampNeg) = 0 then (some (x3).toInt8.toInt32) else (if (M q4 (x1).toNatClampNeg) = (1 : Int32) then (some (x3).toInt16.toInt32) else (some x3))) fun j13 => (if gA K q11 (((40 : Int32) * x1) + x2) = true then (Option.bind (some (yS M q11 ((((40 : Int32) * x1) + x2)).toNatClampNeg j13)) fun M16 => (some ((1 : Int32), M16))) else none))) else (some ((-12 : Int32), M)))) else none))) else none)) else none) else (some ((-2 : Int32), M))))
set_option maxHeartbeats 4000000 in
set_option maxRecDepth 100000 in
theorem m_X8_cell (K : yK) (M : yM) (t : Nat) (x1 : Int32) (x2 : Int32) (x3 : Int32) : yMet yX8_cell cX8_cell 4 (Option.some Jvm.ClassFile.FieldType.int) rm_X8_cell K M [.ref t, .int x1, .int x2, .int x3] (b_X8_cell K M t x1 x2 x3) (yGi K) := by
  refine yM_intro (by decide) (Nat.le_of_ble_eq_true rfl) (fun X r h C E => ?_)
  replace C : yCx X cX8_cell RX8 "cell" rm_X8_cell 4 := C
  show Y X K M 0 0 0 [(0, .ref t), (1, .int x1), (2, .int x2), (3, .int x3)] []
  unfold b_X8_cell at h
  refine y_iload_n C dX8_cell_0 rfl ?_
  refine y_iconst C dX8_cell_1 kc_0 ?_
  refine y_iconst C dX8_cell_2 kc_3 ?_
  obtain ⟨r1, hr1, h⟩ := ob h
  refine y_cS C [.int x1, .int (0 : Int32), .int (3 : Int32)] (m_X8_in K M x1 ((0 : Int32)) ((3 : Int32))) hr1 cw_X8_90 rfl (by decide) ⟨rfl, rfl⟩ ⟨Nat.zero_le _, Nat.zero_le _⟩ (Nat.le_of_ble_eq_true rfl) rfl rfl rfl dX8_cell_3 ?_
  refine y_ifneB C dX8_cell_6 (tgt := 12) rfl (fun c2 => ?_) (fun c2 => ?_)
  · have h := itT c2 h
    refine y_aload_n C dX8_cell_12 rfl ?_
    obtain ⟨g3, h⟩ := gd h
    obtain ⟨q4, hq4, h⟩ := ob h
    refine y_getr C fl_X8_44 g3 hq4 dX8_cell_13 ?_
    refine y_iload_n C dX8_cell_16 rfl ?_
    obtain ⟨g5, h⟩ := gd h
    refine y_iald C g5 dX8_cell_17 ?_
    refine y_iconst C dX8_cell_18 kc_m1 ?_
    refine y_icmp_ne C dX8_cell_19 (tgt := 25) rfl (fun c6 => ?_) (fun c6 => ?_)
    · have h := itF c6 h
      refine y_iload_n C dX8_cell_25 rfl ?_
      refine y_iconst C dX8_cell_26 kc_0 ?_
      refine y_aload_n C dX8_cell_27 rfl ?_
      obtain ⟨q7, hq7, h⟩ := ob h
      refine y_getr C fl_X8_47 g3 hq7 dX8_cell_28 ?_
      refine y_iload_n C dX8_cell_31 rfl ?_
      obtain ⟨g8, h⟩ := gd h
      refine y_iald C g8 dX8_cell_32 ?_
      refine y_iconst C dX8_cell_33 kc_1 ?_
      refine y_isub C dX8_cell_34 ?_
      obtain ⟨r9, hr9, h⟩ := ob h
      refine y_cS C [.int x2, .int (0 : Int32), .int ((M q7 (x1).toNatClampNeg) - (1 : Int32))] (m_X8_in K M x2 ((0 : Int32)) (((M q7 (x1).toNatClampNeg) - (1 : Int32)))) hr9 cw_X8_90 rfl (by decide) ⟨rfl, rfl⟩ ⟨Nat.zero_le _, Nat.zero_le _⟩ (Nat.le_of_ble_eq_true rfl) rfl rfl rfl dX8_cell_35 ?_
      refine y_ifneB C dX8_cell_38 (tgt := 44) rfl (fun c10 => ?_) (fun c10 => ?_)
      · have h := itT c10 h
        refine y_aload_n C dX8_cell_44 rfl ?_
        obtain ⟨q11, hq11, h⟩ := ob h
        refine y_getr C fl_X8_50 g3 hq11 dX8_cell_45 ?_
        refine y_bipush C dX8_cell_48 kb_40 ?_
        refine y_iload_n C dX8_cell_50 rfl ?_
        refine y_imul C dX8_cell_51 ?_
        refine y_iload_n C dX8_cell_52 rfl ?_
        refine y_iadd C dX8_cell_53 ?_
        refine y_aload_n C dX8_cell_54 rfl ?_
        refine y_getr C fl_X8_44 g3 hq4 dX8_cell_55 ?_
        refine y_iload_n C dX8_cell_58 rfl ?_
        refine y_iald C g5 dX8_cell_59 ?_
        obtain ⟨j13, hj13, h⟩ := ob h
        have hJj13 : Y X K M 0 0 84 [] [.int j13, .int (((40 : Int32) * x1) + x2), .ref q11] := by
          obtain ⟨g15, h⟩ := gd h
          obtain ⟨M16, eM16, h⟩ := ob h
          have eM16 := Option.some.inj eM16
          refine y_iast C g15 dX8_cell_84 eM16 ?_
          refine y_iconst C dX8_cell_85 kc_1 ?_
          have e0 := Option.some.inj h
          subst e0
          exact y_iret C E (Nat.zero_le _) (Nat.zero_le _) dX8_cell_86
        replace h := hj13
        refine y_if_ne C dX8_cell_60 (tgt := 68) rfl (fun c12 => ?_) (fun c12 => ?_)
        · have h := itF c12 h
          refine y_aload_n C dX8_cell_68 rfl ?_
          refine y_getr C fl_X8_44 g3 hq4 dX8_cell_69 ?_
          refine y_iload_n C dX8_cell_72 rfl ?_
          refine y_iald C g5 dX8_cell_73 ?_
          refine y_iconst C dX8_cell_74 kc_1 ?_
          refine y_icmp_ne C dX8_cell_75 (tgt := 83) rfl (fun c14 => ?_) (fun c14 => ?_)
          · have h := itF c14 h
            refine y_iload_n C dX8_cell_83 rfl ?_
            have e0 := Option.some.inj h
            subst e0
            exact y_sel [] rfl hJj13
          · have h := itT c14 h
            refine y_iload_n C dX8_cell_78 rfl ?_
            refine y_i2s C dX8_cell_79 rfl ?_
            refine y_goto C dX8_cell_80 (tgt := 84) rfl ?_
            have e0 := Option.some.inj h
            subst e0
            exact y_sel [] rfl hJj13
        · have h := itT c12 h
          refine y_iload_n C dX8_cell_63 rfl ?_
          refine y_i2b C dX8_cell_64 rfl ?_
          refine y_goto C dX8_cell_65 (tgt := 84) rfl ?_
          have e0 := Option.some.inj h
          subst e0
          exact y_sel [] rfl hJj13
      · have h := itFb c10 h
        refine y_bipush C dX8_cell_41 kb_m12 ?_
        have e0 := Option.some.inj h
        subst e0
        exact y_iret C E (Nat.zero_le _) (Nat.zero_le _) dX8_cell_43
    · have h := itT c6 h
      refine y_bipush C dX8_cell_22 kb_m11 ?_
      have e0 := Option.some.inj h
      subst e0
      exact y_iret C E (Nat.zero_le _) (Nat.zero_le _) dX8_cell_24
  · have h := itFb c2 h
    refine y_bipush C dX8_cell_9 kb_m2 ?_
    have e0 := Option.some.inj h
    subst e0
    exact y_iret C E (Nat.zero_le _) (Nat.zero_le _) dX8_cell_11
set_option maxRecDepth 100000 in
def b_X8_chain (K : yK) (M : yM) (t : Nat) (x1 : Int32) : Option Int32 := (if gO K t 7 = true then (Option.bind (b_X8_isEntry K M t x1) fun r2 => (if r2 = true then (Option.bind (b_X8_chainOf K M t x1) fun r4 => (some r4)) else (some (-5 : Int32)))) else none)
set_option maxHeartbeats 4000000 in
set_option maxRecDepth 100000 in
theorem m_X8_chain (K : yK) (M : yM) (t : Nat) (x1 : Int32) : yMet yX8_chain cX8_chain 2 (Option.some Jvm.ClassFile.FieldType.int) rm_X8_chain K M [.ref t, .int x1] (b_X8_chain K M t x1) (yFi K M) := by
  refine yM_intro (by decide) (Nat.le_of_ble_eq_true rfl) (fun X r h C E => ?_)
  replace C : yCx X cX8_chain RX8 "chain" rm_X8_chain 2 := C
  show Y X K M 0 0 0 [(0, .ref t), (1, .int x1)] []
  unfold b_X8_chain at h
  refine y_aload_n C dX8_chain_0 rfl ?_
  refine y_iload_n C dX8_chain_1 rfl ?_
  obtain ⟨g1, h⟩ := gd h
  obtain ⟨r2, hr2, h⟩ := ob h
  refine y_cV C [.int x1] (m_X8_isEntry K M t x1) hr2 g1 cw_X8_201 rfl (by decide) ⟨rfl, rfl⟩ ⟨Nat.zero_le _, Nat.zero_le _⟩ (Nat.le_of_ble_eq_true rfl) rfl rfl rfl dX8_chain_2 ?_
  refine y_ifeqB C dX8_chain_5 (tgt := 16) rfl (fun c3 => ?_) (fun c3 => ?_)
  · have h := itFb c3 h
    refine y_bipush C dX8_chain_16 kb_m5 ?_
    have e0 := Option.some.inj h
    subst e0
    exact y_iret C E (Nat.zero_le _) (Nat.zero_le _) dX8_chain_18
  · have h := itT c3 h
    refine y_aload_n C dX8_chain_8 rfl ?_
    refine y_iload_n C dX8_chain_9 rfl ?_
    obtain ⟨r4, hr4, h⟩ := ob h
    refine y_cV C [.int x1] (m_X8_chainOf K M t x1) hr4 g1 cw_X8_227 rfl (by decide) ⟨rfl, rfl⟩ ⟨Nat.zero_le _, Nat.zero_le _⟩ (Nat.le_of_ble_eq_true rfl) rfl rfl rfl dX8_chain_10 ?_
    refine y_goto C dX8_chain_13 (tgt := 18) rfl ?_
    have e0 := Option.some.inj h
    subst e0
    exact y_iret C E (Nat.zero_le _) (Nat.zero_le _) dX8_chain_18
def b_X8_comesToItself_13 (K : yK) (M : yM) (t : Nat) (x_1 : Int32) : Nat → Int32 → Int32 → Option (Unit ⊕ Bool)
  | 0, _, _ => none
  | n + 1, u13_2, u13_3 => (if (12 : Int32) ≤ u13_3 then (some (.inl ())) else (if gO K t 7 = true then (Option.bind (b_X8_isEntry K M t u13_2) fun r3 => (if r3 = true then (if u13_2 = x_1 then (some (.inr true)) else (Option.bind (K.2.2 t 3) fun q6 => (if gA K q6 (((3 : Int32) * u13_2) + (1 : Int32)) = true then (Option.bind (some (M q6 ((((3 : Int32) * u13_2) + (1 : Int32))).toNatClampNeg)) fun v8 => (Option.bind (some (u13_3 + (1 : Int32))) fun v9 => (b_X8_comesToItself_13 K M t x_1 n v8 v9))) else none))) else (some (.inl ())))) else none))
set_option maxHeartbeats 4000000 in
set_option maxRecDepth 100000 in
theorem l_X8_comesToItself_13 {X : yX} {K : yK} {M : yM} {K0 : yK} {M0 : yM} {t : Nat} {x_1 : Int32} (C : yCx X cX8_comesToItself RX8 "comesToItself" rm_X8_comesToItself 4) : ∀ (n : Nat) (u13_2 : Int32) (u13_3 : Int32) (x : (Unit ⊕ Bool)), b_X8_comesToItself_13 K M t x_1 n u13_2 u13_3 = some x → ∀ (hX : ∀ x8, x = .inl x8 → Y X K M 0 0 51 [] []), ∀ (hE : ∀ x9, x = .inr x9 → yRt X (Option.some Jvm.ClassFile.FieldType.boolean) K0 M0 ((yFb K M) x9).1 ((yFb K M) x9).2.1 ((yFb K M) x9).2.2 0 0), Y X K M 0 0 13 [(0, .ref t), (1, .int x_1), (2, .int u13_2), (3, .int u13_3)] [] := by
  intro n
  induction n with
  | zero =>
    intro u13_2 u13_3 x h
    exact nomatch (show (none : Option _) = some x from h)
  | succ n ih =>
    intro u13_2 u13_3 x h hX hE
    rw [b_X8_comesToItself_13] at h
    refine y_iload_n C dX8_comesToItself_13 rfl ?_
    refine y_bipush C dX8_comesToItself_14 kb_12 ?_
    refine y_icmp_ge C dX8_comesToItself_16 (tgt := 51) rfl (fun c1 => ?_) (fun c1 => ?_)
    · have h := itT c1 h
      have e0 := Option.some.inj h
      subst e0
      exact y_sel [] rfl (hX _ rfl)
    · have h := itF c1 h
      refine y_aload_n C dX8_comesToItself_19 rfl ?_
      refine y_iload_n C dX8_comesToItself_20 rfl ?_
      obtain ⟨g2, h⟩ := gd h
      obtain ⟨r3, hr3, h⟩ := ob h
      refine y_cV C [.int u13_2] (m_X8_isEntry K M t u13_2) hr3 g2 cw_X8_201 rfl (by decide) ⟨rfl, rfl⟩ ⟨Nat.zero_le _, Nat.zero_le _⟩ (Nat.le_of_ble_eq_true rfl) rfl rfl rfl dX8_comesToItself_21 ?_
      refine y_ifeqB C dX8_comesToItself_24 (tgt := 51) rfl (fun c4 => ?_) (fun c4 => ?_)
      · have h := itFb c4 h
        have e0 := Option.some.inj h
        subst e0
        exact y_sel [] rfl (hX _ rfl)
      · have h := itT c4 h
        refine y_iload_n C dX8_comesToItself_27 rfl ?_
        refine y_iload_n C dX8_comesToItself_28 rfl ?_
        refine y_icmp_ne C dX8_comesToItself_29 (tgt := 34) rfl (fun c5 => ?_) (fun c5 => ?_)
        · have h := itF c5 h
          refine y_aload_n C dX8_comesToItself_34 rfl ?_
          obtain ⟨q6, hq6, h⟩ := ob h
          refine y_getr C fl_X8_16 g2 hq6 dX8_comesToItself_35 ?_
          refine y_iconst C dX8_comesToItself_38 kc_3 ?_
          refine y_iload_n C dX8_comesToItself_39 rfl ?_
          refine y_imul C dX8_comesToItself_40 ?_
          refine y_iconst C dX8_comesToItself_41 kc_1 ?_
          refine y_iadd C dX8_comesToItself_42 ?_
          obtain ⟨g7, h⟩ := gd h
          refine y_iald C g7 dX8_comesToItself_43 ?_
          obtain ⟨v8, ev8, h⟩ := ob h
          have ev8 := Option.some.inj ev8
          refine y_istore_n C dX8_comesToItself_44 (by decide) (L' := [(2, .int v8), (0, .ref t), (1, .int x_1), (3, .int u13_3)]) (by subst ev8; rfl) ?_
          obtain ⟨v9, ev9, h⟩ := ob h
          have ev9 := Option.some.inj ev9
          refine y_iinc C dX8_comesToItself_45 (by decide) rfl (v := v9) (by subst ev9; rfl) (L' := [(3, .int v9), (2, .int v8), (0, .ref t), (1, .int x_1)]) rfl ?_
          refine y_goto C dX8_comesToItself_48 (tgt := 13) rfl ?_
          exact y_sel [0, 1, 2, 3] rfl (ih _ _ _  h hX hE)
        · have h := itT c5 h
          refine y_iconst C dX8_comesToItself_32 kc_1 ?_
          have e0 := Option.some.inj h
          subst e0
          have E := hE _ rfl
          exact y_bret (b := true) C E (Nat.zero_le _) (Nat.zero_le _) dX8_comesToItself_33
set_option maxRecDepth 100000 in
def b_X8_comesToItself (K : yK) (M : yM) (t : Nat) (x1 : Int32) : Option Bool := (if gO K t 7 = true then (Option.bind (K.2.2 t 3) fun q2 => (if gA K q2 (((3 : Int32) * x1) + (1 : Int32)) = true then (Option.bind (some (M q2 ((((3 : Int32) * x1) + (1 : Int32))).toNatClampNeg)) fun v4 => (Option.bind (b_X8_comesToItself_13 K M t x1 1000 v4 ((0 : Int32))) fun x9 => Sum.elim (fun j5 => (some false)) (fun r9 => (some r9)) x9)) else none)) else none)
set_option maxHeartbeats 4000000 in
set_option maxRecDepth 100000 in
theorem m_X8_comesToItself (K : yK) (M : yM) (t : Nat) (x1 : Int32) : yMet yX8_comesToItself cX8_comesToItself 4 (Option.some Jvm.ClassFile.FieldType.boolean) rm_X8_comesToItself K M [.ref t, .int x1] (b_X8_comesToItself K M t x1) (yFb K M) := by
  refine yM_intro (by decide) (Nat.le_of_ble_eq_true rfl) (fun X r h C E => ?_)
  replace C : yCx X cX8_comesToItself RX8 "comesToItself" rm_X8_comesToItself 4 := C
  show Y X K M 0 0 0 [(0, .ref t), (1, .int x1)] []
  unfold b_X8_comesToItself at h
  refine y_aload_n C dX8_comesToItself_0 rfl ?_
  obtain ⟨g1, h⟩ := gd h
  obtain ⟨q2, hq2, h⟩ := ob h
  refine y_getr C fl_X8_16 g1 hq2 dX8_comesToItself_1 ?_
  refine y_iconst C dX8_comesToItself_4 kc_3 ?_
  refine y_iload_n C dX8_comesToItself_5 rfl ?_
  refine y_imul C dX8_comesToItself_6 ?_
  refine y_iconst C dX8_comesToItself_7 kc_1 ?_
  refine y_iadd C dX8_comesToItself_8 ?_
  obtain ⟨g3, h⟩ := gd h
  refine y_iald C g3 dX8_comesToItself_9 ?_
  obtain ⟨v4, ev4, h⟩ := ob h
  have ev4 := Option.some.inj ev4
  refine y_istore_n C dX8_comesToItself_10 (by decide) (L' := [(2, .int v4), (0, .ref t), (1, .int x1)]) (by subst ev4; rfl) ?_
  refine y_iconst C dX8_comesToItself_11 kc_0 ?_
  refine y_istore_n C dX8_comesToItself_12 (by decide) (L' := [(3, .int (0)), (2, .int v4), (0, .ref t), (1, .int x1)]) rfl ?_
  obtain ⟨x9, hx9, h⟩ := ob h
  refine y_sel [0, 1, 2, 3] rfl (l_X8_comesToItself_13 (K0 := K) (M0 := M) C 1000 _ _ _ hx9 (fun j5 e9 => ?_) (fun r9 e9 => ?_))
  · subst e9
    dsimp only [Sum.elim_inl] at h
    refine y_iconst C dX8_comesToItself_51 kc_0 ?_
    have e0 := Option.some.inj h
    subst e0
    exact y_bret (b := false) C E (Nat.zero_le _) (Nat.zero_le _) dX8_comesToItself_52
  · subst e9
    dsimp only [Sum.elim_inr] at h
    have e0 := Option.some.inj h
    subst e0
    exact E
def b_X8_copy_147 (K : yK) (t : Nat) (x_5 : Int32) (x_6 : Int32) (x_7 : Int32) : Nat → yM → Int32 → Option yM
  | 0, _, _ => none
  | n + 1, M, u147_8 => (if x_5 ≤ u147_8 then (some M) else (Option.bind (if x_7 ≤ x_6 then (some u147_8) else (some ((x_5 - (1 : Int32)) - u147_8))) fun j3 => (if gO K t 7 = true then (Option.bind (K.2.2 t 26) fun q5 => (if gA K q5 (x_6 + j3) = true then (if gA K q5 (x_7 + j3) = true then (Option.bind (some (yS M q5 ((x_7 + j3)).toNatClampNeg (M q5 ((x_6 + j3)).toNatClampNeg))) fun M8 => (Option.bind (some (u147_8 + (1 : Int32))) fun v9 => (b_X8_copy_147 K t x_5 x_6 x_7 n M8 v9))) else none) else none)) else none)))
set_option maxHeartbeats 4000000 in
set_option maxRecDepth 100000 in
theorem l_X8_copy_147 {X : yX} {K : yK} {t : Nat} {x_5 : Int32} {x_6 : Int32} {x_7 : Int32} (C : yCx X cX8_copy RX8 "copy" rm_X8_copy 10) : ∀ (n : Nat) (M : yM) (u147_8 : Int32) (x : yM), b_X8_copy_147 K t x_5 x_6 x_7 n M u147_8 = some x → ∀ (hX : Y X K x 0 0 201 [(5, .int x_5)] []), Y X K M 0 0 147 [(0, .ref t), (5, .int x_5), (6, .int x_6), (7, .int x_7), (8, .int u147_8)] [] := by
  intro n
  induction n with
  | zero =>
    intro M u147_8 x h
    exact nomatch (show (none : Option _) = some x from h)
  | succ n ih =>
    intro M u147_8 x h hX
    rw [b_X8_copy_147] at h
    refine y_iload C dX8_copy_147 rfl ?_
    refine y_iload C dX8_copy_149 rfl ?_
    refine y_icmp_ge C dX8_copy_151 (tgt := 201) rfl (fun c1 => ?_) (fun c1 => ?_)
    · have h := itT c1 h
      have e0 := Option.some.inj h
      subst e0
      exact y_sel [5] rfl hX
    · have h := itF c1 h
      refine y_iload C dX8_copy_154 rfl ?_
      refine y_iload C dX8_copy_156 rfl ?_
      obtain ⟨j3, hj3, h⟩ := ob h
      have hJj3 : Y X K M 0 0 173 [(0, .ref t), (5, .int x_5), (6, .int x_6), (7, .int x_7), (8, .int u147_8)] [.int j3] := by
        refine y_istore C dX8_copy_173 (by decide) (L' := [(9, .int j3), (0, .ref t), (5, .int x_5), (6, .int x_6), (7, .int x_7), (8, .int u147_8)]) rfl ?_
        refine y_aload_n C dX8_copy_175 rfl ?_
        obtain ⟨g4, h⟩ := gd h
        obtain ⟨q5, hq5, h⟩ := ob h
        refine y_getr C fl_X8_50 g4 hq5 dX8_copy_176 ?_
        refine y_iload C dX8_copy_179 rfl ?_
        refine y_iload C dX8_copy_181 rfl ?_
        refine y_iadd C dX8_copy_183 ?_
        refine y_aload_n C dX8_copy_184 rfl ?_
        refine y_getr C fl_X8_50 g4 hq5 dX8_copy_185 ?_
        refine y_iload C dX8_copy_188 rfl ?_
        refine y_iload C dX8_copy_190 rfl ?_
        refine y_iadd C dX8_copy_192 ?_
        obtain ⟨g6, h⟩ := gd h
        refine y_iald C g6 dX8_copy_193 ?_
        obtain ⟨g7, h⟩ := gd h
        obtain ⟨M8, eM8, h⟩ := ob h
        have eM8 := Option.some.inj eM8
        refine y_iast C g7 dX8_copy_194 eM8 ?_
        obtain ⟨v9, ev9, h⟩ := ob h
        have ev9 := Option.some.inj ev9
        refine y_iinc C dX8_copy_195 (by decide) rfl (v := v9) (by subst ev9; rfl) (L' := [(8, .int v9), (9, .int j3), (0, .ref t), (5, .int x_5), (6, .int x_6), (7, .int x_7)]) rfl ?_
        refine y_goto C dX8_copy_198 (tgt := 147) rfl ?_
        exact y_sel [0, 5, 6, 7, 8] rfl (ih _ _ _  h hX)
      replace h := hj3
      refine y_icmp_ge C dX8_copy_158 (tgt := 171) rfl (fun c2 => ?_) (fun c2 => ?_)
      · have h := itT c2 h
        refine y_iload C dX8_copy_171 rfl ?_
        have e0 := Option.some.inj h
        subst e0
        exact y_sel [0, 5, 6, 7, 8] rfl hJj3
      · have h := itF c2 h
        refine y_iload C dX8_copy_161 rfl ?_
        refine y_iconst C dX8_copy_163 kc_1 ?_
        refine y_isub C dX8_copy_164 ?_
        refine y_iload C dX8_copy_165 rfl ?_
        refine y_isub C dX8_copy_167 ?_
        refine y_goto C dX8_copy_168 (tgt := 173) rfl ?_
        have e0 := Option.some.inj h
        subst e0
        exact y_sel [0, 5, 6, 7, 8] rfl hJj3
set_option maxRecDepth 100000 in
def b_X8_copy (K : yK) (M : yM) (t : Nat) (x1 : Int32) (x2 : Int32) (x3 : Int32) (x4 : Int32) (x5 : Int32) : Option (Int32 × yM) := (Option.bind (b_X8_in K M x1 ((0 : Int32)) ((3 : Int32))) fun r1 => (if r1 = true then (Option.bind (b_X8_in K M x3 ((0 : Int32)) ((3 : Int32))) fun r3 => (if r3 = true then (if gO K t 7 = true then (Option.bind (K.2.2 t 24) fun q6 => (if gA K q6 x1 = true then (if (M q6 (x1).toNatClampNeg) = (-1 : Int32) then (some ((-11 : Int32), M)) else (if gA K q6 x3 = true then (if (M q6 (x3).toNatClampNeg) = (-1 : Int32) then (some ((-11 : Int32), M)) else (if (M q6 (x1).toNatClampNeg) = (M q6 (x3).toNatClampNeg) then (if x5 < 0 then (some ((-12 : Int32), M)) else (if x2 < 0 then (some ((-12 : Int32), M)) else (if x4 < 0 then (some ((-12 : Int32), M)) else (Option.bind (K.2.2 t 25) fun q15 => (if gA K q15 x1 = true then (if (M q15 (x1).toNatClampNeg) < x2 then (some ((-12 : Int32), M)) else (if gA K q15 x3 = true then (if (M q15 (x3).toNatClampNeg) < x4 then (some ((-12 : Int32), M)) else (if ((M q15 (x1).toNatClampNeg) - x2) < x5 then (some ((-12 : Int32), M)) else (if x5 ≤ ((M q15 (x3).toNatClampNeg) - x4) then (Option.bind (some (((40 : Int32) * x1) + x2)) fun v22 => (Option.bind (some (((40 : Int32) * x3) + x4)) fun v23 => (Option.bind (b_X8_copy_147 K t x5 v22 v23 1000 M ((0 : Int32))) fun j24 => (some (x5, j24))))) else (some ((-12 : Int32), M))))) else none)) else none))))) else (some ((-13 : Int32), M)))) else none)) else none)) else none) else (some ((-2 : Int32), M)))) else (some ((-2 : Int32), M))))
set_option maxHeartbeats 4000000 in
set_option maxRecDepth 100000 in
theorem m_X8_copy (K : yK) (M : yM) (t : Nat) (x1 : Int32) (x2 : Int32) (x3 : Int32) (x4 : Int32) (x5 : Int32) : yMet yX8_copy cX8_copy 10 (Option.some Jvm.ClassFile.FieldType.int) rm_X8_copy K M [.ref t, .int x1, .int x2, .int x3, .int x4, .int x5] (b_X8_copy K M t x1 x2 x3 x4 x5) (yGi K) := by
  refine yM_intro (by decide) (Nat.le_of_ble_eq_true rfl) (fun X r h C E => ?_)
  replace C : yCx X cX8_copy RX8 "copy" rm_X8_copy 10 := C
  show Y X K M 0 0 0 [(0, .ref t), (1, .int x1), (2, .int x2), (3, .int x3), (4, .int x4), (5, .int x5)] []
  unfold b_X8_copy at h
  refine y_iload_n C dX8_copy_0 rfl ?_
  refine y_iconst C dX8_copy_1 kc_0 ?_
  refine y_iconst C dX8_copy_2 kc_3 ?_
  obtain ⟨r1, hr1, h⟩ := ob h
  refine y_cS C [.int x1, .int (0 : Int32), .int (3 : Int32)] (m_X8_in K M x1 ((0 : Int32)) ((3 : Int32))) hr1 cw_X8_90 rfl (by decide) ⟨rfl, rfl⟩ ⟨Nat.zero_le _, Nat.zero_le _⟩ (Nat.le_of_ble_eq_true rfl) rfl rfl rfl dX8_copy_3 ?_
  refine y_ifeqB C dX8_copy_6 (tgt := 18) rfl (fun c2 => ?_) (fun c2 => ?_)
  · have h := itFb c2 h
    refine y_bipush C dX8_copy_18 kb_m2 ?_
    have e0 := Option.some.inj h
    subst e0
    exact y_iret C E (Nat.zero_le _) (Nat.zero_le _) dX8_copy_20
  · have h := itT c2 h
    refine y_iload_n C dX8_copy_9 rfl ?_
    refine y_iconst C dX8_copy_10 kc_0 ?_
    refine y_iconst C dX8_copy_11 kc_3 ?_
    obtain ⟨r3, hr3, h⟩ := ob h
    refine y_cS C [.int x3, .int (0 : Int32), .int (3 : Int32)] (m_X8_in K M x3 ((0 : Int32)) ((3 : Int32))) hr3 cw_X8_90 rfl (by decide) ⟨rfl, rfl⟩ ⟨Nat.zero_le _, Nat.zero_le _⟩ (Nat.le_of_ble_eq_true rfl) rfl rfl rfl dX8_copy_12 ?_
    refine y_ifneB C dX8_copy_15 (tgt := 21) rfl (fun c4 => ?_) (fun c4 => ?_)
    · have h := itT c4 h
      refine y_aload_n C dX8_copy_21 rfl ?_
      obtain ⟨g5, h⟩ := gd h
      obtain ⟨q6, hq6, h⟩ := ob h
      refine y_getr C fl_X8_44 g5 hq6 dX8_copy_22 ?_
      refine y_iload_n C dX8_copy_25 rfl ?_
      obtain ⟨g7, h⟩ := gd h
      refine y_iald C g7 dX8_copy_26 ?_
      refine y_iconst C dX8_copy_27 kc_m1 ?_
      refine y_icmp_eq C dX8_copy_28 (tgt := 41) rfl (fun c8 => ?_) (fun c8 => ?_)
      · have h := itT c8 h
        refine y_bipush C dX8_copy_41 kb_m11 ?_
        have e0 := Option.some.inj h
        subst e0
        exact y_iret C E (Nat.zero_le _) (Nat.zero_le _) dX8_copy_43
      · have h := itF c8 h
        refine y_aload_n C dX8_copy_31 rfl ?_
        refine y_getr C fl_X8_44 g5 hq6 dX8_copy_32 ?_
        refine y_iload_n C dX8_copy_35 rfl ?_
        obtain ⟨g9, h⟩ := gd h
        refine y_iald C g9 dX8_copy_36 ?_
        refine y_iconst C dX8_copy_37 kc_m1 ?_
        refine y_icmp_ne C dX8_copy_38 (tgt := 44) rfl (fun c10 => ?_) (fun c10 => ?_)
        · have h := itF c10 h
          refine y_aload_n C dX8_copy_44 rfl ?_
          refine y_getr C fl_X8_44 g5 hq6 dX8_copy_45 ?_
          refine y_iload_n C dX8_copy_48 rfl ?_
          refine y_iald C g7 dX8_copy_49 ?_
          refine y_aload_n C dX8_copy_50 rfl ?_
          refine y_getr C fl_X8_44 g5 hq6 dX8_copy_51 ?_
          refine y_iload_n C dX8_copy_54 rfl ?_
          refine y_iald C g9 dX8_copy_55 ?_
          refine y_icmp_eq C dX8_copy_56 (tgt := 62) rfl (fun c11 => ?_) (fun c11 => ?_)
          · have h := itT c11 h
            refine y_iload C dX8_copy_62 rfl ?_
            refine y_if_lt C dX8_copy_64 (tgt := 124) rfl (fun c12 => ?_) (fun c12 => ?_)
            · have h := itT c12 h
              refine y_bipush C dX8_copy_124 kb_m12 ?_
              have e0 := Option.some.inj h
              subst e0
              exact y_iret C E (Nat.zero_le _) (Nat.zero_le _) dX8_copy_126
            · have h := itF c12 h
              refine y_iload_n C dX8_copy_67 rfl ?_
              refine y_if_lt C dX8_copy_68 (tgt := 124) rfl (fun c13 => ?_) (fun c13 => ?_)
              · have h := itT c13 h
                refine y_bipush C dX8_copy_124 kb_m12 ?_
                have e0 := Option.some.inj h
                subst e0
                exact y_iret C E (Nat.zero_le _) (Nat.zero_le _) dX8_copy_126
              · have h := itF c13 h
                refine y_iload C dX8_copy_71 rfl ?_
                refine y_if_lt C dX8_copy_73 (tgt := 124) rfl (fun c14 => ?_) (fun c14 => ?_)
                · have h := itT c14 h
                  refine y_bipush C dX8_copy_124 kb_m12 ?_
                  have e0 := Option.some.inj h
                  subst e0
                  exact y_iret C E (Nat.zero_le _) (Nat.zero_le _) dX8_copy_126
                · have h := itF c14 h
                  refine y_iload_n C dX8_copy_76 rfl ?_
                  refine y_aload_n C dX8_copy_77 rfl ?_
                  obtain ⟨q15, hq15, h⟩ := ob h
                  refine y_getr C fl_X8_47 g5 hq15 dX8_copy_78 ?_
                  refine y_iload_n C dX8_copy_81 rfl ?_
                  obtain ⟨g16, h⟩ := gd h
                  refine y_iald C g16 dX8_copy_82 ?_
                  refine y_icmp_gt C dX8_copy_83 (tgt := 124) rfl (fun c17 => ?_) (fun c17 => ?_)
                  · have h := itT c17 h
                    refine y_bipush C dX8_copy_124 kb_m12 ?_
                    have e0 := Option.some.inj h
                    subst e0
                    exact y_iret C E (Nat.zero_le _) (Nat.zero_le _) dX8_copy_126
                  · have h := itF c17 h
                    refine y_iload C dX8_copy_86 rfl ?_
                    refine y_aload_n C dX8_copy_88 rfl ?_
                    refine y_getr C fl_X8_47 g5 hq15 dX8_copy_89 ?_
                    refine y_iload_n C dX8_copy_92 rfl ?_
                    obtain ⟨g18, h⟩ := gd h
                    refine y_iald C g18 dX8_copy_93 ?_
                    refine y_icmp_gt C dX8_copy_94 (tgt := 124) rfl (fun c19 => ?_) (fun c19 => ?_)
                    · have h := itT c19 h
                      refine y_bipush C dX8_copy_124 kb_m12 ?_
                      have e0 := Option.some.inj h
                      subst e0
                      exact y_iret C E (Nat.zero_le _) (Nat.zero_le _) dX8_copy_126
                    · have h := itF c19 h
                      refine y_iload C dX8_copy_97 rfl ?_
                      refine y_aload_n C dX8_copy_99 rfl ?_
                      refine y_getr C fl_X8_47 g5 hq15 dX8_copy_100 ?_
                      refine y_iload_n C dX8_copy_103 rfl ?_
                      refine y_iald C g16 dX8_copy_104 ?_
                      refine y_iload_n C dX8_copy_105 rfl ?_
                      refine y_isub C dX8_copy_106 ?_
                      refine y_icmp_gt C dX8_copy_107 (tgt := 124) rfl (fun c20 => ?_) (fun c20 => ?_)
                      · have h := itT c20 h
                        refine y_bipush C dX8_copy_124 kb_m12 ?_
                        have e0 := Option.some.inj h
                        subst e0
                        exact y_iret C E (Nat.zero_le _) (Nat.zero_le _) dX8_copy_126
                      · have h := itF c20 h
                        refine y_iload C dX8_copy_110 rfl ?_
                        refine y_aload_n C dX8_copy_112 rfl ?_
                        refine y_getr C fl_X8_47 g5 hq15 dX8_copy_113 ?_
                        refine y_iload_n C dX8_copy_116 rfl ?_
                        refine y_iald C g18 dX8_copy_117 ?_
                        refine y_iload C dX8_copy_118 rfl ?_
                        refine y_isub C dX8_copy_120 ?_
                        refine y_icmp_le C dX8_copy_121 (tgt := 127) rfl (fun c21 => ?_) (fun c21 => ?_)
                        · have h := itT c21 h
                          refine y_bipush C dX8_copy_127 kb_40 ?_
                          refine y_iload_n C dX8_copy_129 rfl ?_
                          refine y_imul C dX8_copy_130 ?_
                          refine y_iload_n C dX8_copy_131 rfl ?_
                          refine y_iadd C dX8_copy_132 ?_
                          obtain ⟨v22, ev22, h⟩ := ob h
                          have ev22 := Option.some.inj ev22
                          refine y_istore C dX8_copy_133 (by decide) (L' := [(6, .int v22), (0, .ref t), (1, .int x1), (2, .int x2), (3, .int x3), (4, .int x4), (5, .int x5)]) (by subst ev22; rfl) ?_
                          refine y_bipush C dX8_copy_135 kb_40 ?_
                          refine y_iload_n C dX8_copy_137 rfl ?_
                          refine y_imul C dX8_copy_138 ?_
                          refine y_iload C dX8_copy_139 rfl ?_
                          refine y_iadd C dX8_copy_141 ?_
                          obtain ⟨v23, ev23, h⟩ := ob h
                          have ev23 := Option.some.inj ev23
                          refine y_istore C dX8_copy_142 (by decide) (L' := [(7, .int v23), (6, .int v22), (0, .ref t), (1, .int x1), (2, .int x2), (3, .int x3), (4, .int x4), (5, .int x5)]) (by subst ev23; rfl) ?_
                          refine y_iconst C dX8_copy_144 kc_0 ?_
                          refine y_istore C dX8_copy_145 (by decide) (L' := [(8, .int (0)), (7, .int v23), (6, .int v22), (0, .ref t), (1, .int x1), (2, .int x2), (3, .int x3), (4, .int x4), (5, .int x5)]) rfl ?_
                          obtain ⟨j24, hj24, h⟩ := ob h
                          refine y_sel [0, 5, 6, 7, 8] rfl (l_X8_copy_147 C 1000 _ _ _ hj24 ?_)
                          refine y_iload C dX8_copy_201 rfl ?_
                          have e0 := Option.some.inj h
                          subst e0
                          exact y_iret C E (Nat.zero_le _) (Nat.zero_le _) dX8_copy_203
                        · have h := itF c21 h
                          refine y_bipush C dX8_copy_124 kb_m12 ?_
                          have e0 := Option.some.inj h
                          subst e0
                          exact y_iret C E (Nat.zero_le _) (Nat.zero_le _) dX8_copy_126
          · have h := itF c11 h
            refine y_bipush C dX8_copy_59 kb_m13 ?_
            have e0 := Option.some.inj h
            subst e0
            exact y_iret C E (Nat.zero_le _) (Nat.zero_le _) dX8_copy_61
        · have h := itT c10 h
          refine y_bipush C dX8_copy_41 kb_m11 ?_
          have e0 := Option.some.inj h
          subst e0
          exact y_iret C E (Nat.zero_le _) (Nat.zero_le _) dX8_copy_43
    · have h := itFb c4 h
      refine y_bipush C dX8_copy_18 kb_m2 ?_
      have e0 := Option.some.inj h
      subst e0
      exact y_iret C E (Nat.zero_le _) (Nat.zero_le _) dX8_copy_20
set_option maxRecDepth 100000 in
def b_X8_count (K : yK) (M : yM) (t : Nat) (x1 : Int32) : Option Int32 := (if x1 = (0 : Int32) then (if gO K t 7 = true then (some (M t 0)) else none) else (if x1 = (1 : Int32) then (if gO K t 7 = true then (some (M t 4)) else none) else (if x1 = (2 : Int32) then (if gO K t 7 = true then (some (M t 6)) else none) else (if x1 = (3 : Int32) then (if gO K t 7 = true then (some (M t 7)) else none) else (if x1 = (4 : Int32) then (if gO K t 7 = true then (some (M t 8)) else none) else (if x1 = (5 : Int32) then (if gO K t 7 = true then (some (M t 9)) else none) else (if x1 = (6 : Int32) then (if gO K t 7 = true then (some (M t 15)) else none) else (if x1 = (7 : Int32) then (if gO K t 7 = true then (some (M t 16)) else none) else (if x1 = (8 : Int32) then (if gO K t 7 = true then (some (M t 12)) else none) else (some (-2 : Int32)))))))))))
set_option maxHeartbeats 4000000 in
set_option maxRecDepth 100000 in
theorem m_X8_count (K : yK) (M : yM) (t : Nat) (x1 : Int32) : yMet yX8_count cX8_count 2 (Option.some Jvm.ClassFile.FieldType.int) rm_X8_count K M [.ref t, .int x1] (b_X8_count K M t x1) (yFi K M) := by
  refine yM_intro (by decide) (Nat.le_of_ble_eq_true rfl) (fun X r h C E => ?_)
  replace C : yCx X cX8_count RX8 "count" rm_X8_count 2 := C
  show Y X K M 0 0 0 [(0, .ref t), (1, .int x1)] []
  unfold b_X8_count at h
  refine y_iload_n C dX8_count_0 rfl ?_
  rcases Classical.em (x1 = (0 : Int32)) with c1 | c1
  · have h := itT c1 h
    refine y_tabIn C dX8_count_1 (off := 51) (tgt := 52) (by rw [c1]; decide) (by rw [c1]; decide) (by rw [c1]; rfl) rfl ?_
    refine y_aload_n C dX8_count_52 rfl ?_
    obtain ⟨g10, h⟩ := gd h
    refine y_geti C fl_X8_87 g10 dX8_count_53 ?_
    have e0 := Option.some.inj h
    subst e0
    exact y_iret C E (Nat.zero_le _) (Nat.zero_le _) dX8_count_56
  replace h := itF c1 h
  rcases Classical.em (x1 = (1 : Int32)) with c2 | c2
  · have h := itT c2 h
    refine y_tabIn C dX8_count_1 (off := 56) (tgt := 57) (by rw [c2]; decide) (by rw [c2]; decide) (by rw [c2]; rfl) rfl ?_
    refine y_aload_n C dX8_count_57 rfl ?_
    obtain ⟨g11, h⟩ := gd h
    refine y_geti C fl_X8_94 g11 dX8_count_58 ?_
    have e0 := Option.some.inj h
    subst e0
    exact y_iret C E (Nat.zero_le _) (Nat.zero_le _) dX8_count_61
  replace h := itF c2 h
  rcases Classical.em (x1 = (2 : Int32)) with c3 | c3
  · have h := itT c3 h
    refine y_tabIn C dX8_count_1 (off := 61) (tgt := 62) (by rw [c3]; decide) (by rw [c3]; decide) (by rw [c3]; rfl) rfl ?_
    refine y_aload_n C dX8_count_62 rfl ?_
    obtain ⟨g12, h⟩ := gd h
    refine y_geti C fl_X8_104 g12 dX8_count_63 ?_
    have e0 := Option.some.inj h
    subst e0
    exact y_iret C E (Nat.zero_le _) (Nat.zero_le _) dX8_count_66
  replace h := itF c3 h
  rcases Classical.em (x1 = (3 : Int32)) with c4 | c4
  · have h := itT c4 h
    refine y_tabIn C dX8_count_1 (off := 66) (tgt := 67) (by rw [c4]; decide) (by rw [c4]; decide) (by rw [c4]; rfl) rfl ?_
    refine y_aload_n C dX8_count_67 rfl ?_
    obtain ⟨g13, h⟩ := gd h
    refine y_geti C fl_X8_107 g13 dX8_count_68 ?_
    have e0 := Option.some.inj h
    subst e0
    exact y_iret C E (Nat.zero_le _) (Nat.zero_le _) dX8_count_71
  replace h := itF c4 h
  rcases Classical.em (x1 = (4 : Int32)) with c5 | c5
  · have h := itT c5 h
    refine y_tabIn C dX8_count_1 (off := 71) (tgt := 72) (by rw [c5]; decide) (by rw [c5]; decide) (by rw [c5]; rfl) rfl ?_
    refine y_aload_n C dX8_count_72 rfl ?_
    obtain ⟨g14, h⟩ := gd h
    refine y_geti C fl_X8_22 g14 dX8_count_73 ?_
    have e0 := Option.some.inj h
    subst e0
    exact y_iret C E (Nat.zero_le _) (Nat.zero_le _) dX8_count_76
  replace h := itF c5 h
  rcases Classical.em (x1 = (5 : Int32)) with c6 | c6
  · have h := itT c6 h
    refine y_tabIn C dX8_count_1 (off := 76) (tgt := 77) (by rw [c6]; decide) (by rw [c6]; decide) (by rw [c6]; rfl) rfl ?_
    refine y_aload_n C dX8_count_77 rfl ?_
    obtain ⟨g15, h⟩ := gd h
    refine y_geti C fl_X8_110 g15 dX8_count_78 ?_
    have e0 := Option.some.inj h
    subst e0
    exact y_iret C E (Nat.zero_le _) (Nat.zero_le _) dX8_count_81
  replace h := itF c6 h
  rcases Classical.em (x1 = (6 : Int32)) with c7 | c7
  · have h := itT c7 h
    refine y_tabIn C dX8_count_1 (off := 81) (tgt := 82) (by rw [c7]; decide) (by rw [c7]; decide) (by rw [c7]; rfl) rfl ?_
    refine y_aload_n C dX8_count_82 rfl ?_
    obtain ⟨g16, h⟩ := gd h
    refine y_geti C fl_X8_113 g16 dX8_count_83 ?_
    have e0 := Option.some.inj h
    subst e0
    exact y_iret C E (Nat.zero_le _) (Nat.zero_le _) dX8_count_86
  replace h := itF c7 h
  rcases Classical.em (x1 = (7 : Int32)) with c8 | c8
  · have h := itT c8 h
    refine y_tabIn C dX8_count_1 (off := 86) (tgt := 87) (by rw [c8]; decide) (by rw [c8]; decide) (by rw [c8]; rfl) rfl ?_
    refine y_aload_n C dX8_count_87 rfl ?_
    obtain ⟨g17, h⟩ := gd h
    refine y_geti C fl_X8_116 g17 dX8_count_88 ?_
    have e0 := Option.some.inj h
    subst e0
    exact y_iret C E (Nat.zero_le _) (Nat.zero_le _) dX8_count_91
  replace h := itF c8 h
  rcases Classical.em (x1 = (8 : Int32)) with c9 | c9
  · have h := itT c9 h
    refine y_tabIn C dX8_count_1 (off := 91) (tgt := 92) (by rw [c9]; decide) (by rw [c9]; decide) (by rw [c9]; rfl) rfl ?_
    refine y_aload_n C dX8_count_92 rfl ?_
    obtain ⟨g18, h⟩ := gd h
    refine y_geti C fl_X8_80 g18 dX8_count_93 ?_
    have e0 := Option.some.inj h
    subst e0
    exact y_iret C E (Nat.zero_le _) (Nat.zero_le _) dX8_count_96
  replace h := itF c9 h
  refine y_tabOut C dX8_count_1 (tgt := 97) (by have q0 : (x1).toInt ≠ 0 := yNe c1; have q1 : (x1).toInt ≠ 1 := yNe c2; have q2 : (x1).toInt ≠ 2 := yNe c3; have q3 : (x1).toInt ≠ 3 := yNe c4; have q4 : (x1).toInt ≠ 4 := yNe c5; have q5 : (x1).toInt ≠ 5 := yNe c6; have q6 : (x1).toInt ≠ 6 := yNe c7; have q7 : (x1).toInt ≠ 7 := yNe c8; have q8 : (x1).toInt ≠ 8 := yNe c9; omega) rfl ?_
  refine y_bipush C dX8_count_97 kb_m2 ?_
  have e0 := Option.some.inj h
  subst e0
  exact y_iret C E (Nat.zero_le _) (Nat.zero_le _) dX8_count_99
set_option maxRecDepth 100000 in
def b_X8_deed (K : yK) (M : yM) (t : Nat) (x1 : Int32) : Option (Int32 × yM) := (if gO K t 7 = true then (Option.bind (b_X8_all K M t) fun r2 => (Option.bind (b_X8_in K M x1 ((1 : Int32)) r2) fun r3 => (if r3 = true then (if (M t 4) = (6 : Int32) then (some ((-4 : Int32), M)) else (Option.bind (K.2.2 t 5) fun q6 => (if gA K q6 (M t 4) = true then (Option.bind (some (yS M q6 ((M t 4)).toNatClampNeg x1)) fun M8 => (Option.bind (some (yS M8 t 4 ((M8 t 4) + (1 : Int32)))) fun M9 => (some (((M9 t 4) - (1 : Int32)), M9)))) else none))) else (some ((-2 : Int32), M))))) else none)
set_option maxHeartbeats 4000000 in
set_option maxRecDepth 100000 in
theorem m_X8_deed (K : yK) (M : yM) (t : Nat) (x1 : Int32) : yMet yX8_deed cX8_deed 2 (Option.some Jvm.ClassFile.FieldType.int) rm_X8_deed K M [.ref t, .int x1] (b_X8_deed K M t x1) (yGi K) := by
  refine yM_intro (by decide) (Nat.le_of_ble_eq_true rfl) (fun X r h C E => ?_)
  replace C : yCx X cX8_deed RX8 "deed" rm_X8_deed 2 := C
  show Y X K M 0 0 0 [(0, .ref t), (1, .int x1)] []
  unfold b_X8_deed at h
  refine y_iload_n C dX8_deed_0 rfl ?_
  refine y_iconst C dX8_deed_1 kc_1 ?_
  refine y_aload_n C dX8_deed_2 rfl ?_
  obtain ⟨g1, h⟩ := gd h
  obtain ⟨r2, hr2, h⟩ := ob h
  refine y_cV C [] (m_X8_all K M t) hr2 g1 cw_X8_126 rfl (by decide) ⟨rfl, rfl⟩ ⟨Nat.zero_le _, Nat.zero_le _⟩ (Nat.le_of_ble_eq_true rfl) rfl rfl rfl dX8_deed_3 ?_
  obtain ⟨r3, hr3, h⟩ := ob h
  refine y_cS C [.int x1, .int (1 : Int32), .int r2] (m_X8_in K M x1 ((1 : Int32)) r2) hr3 cw_X8_90 rfl (by decide) ⟨rfl, rfl⟩ ⟨Nat.zero_le _, Nat.zero_le _⟩ (Nat.le_of_ble_eq_true rfl) rfl rfl rfl dX8_deed_6 ?_
  refine y_ifneB C dX8_deed_9 (tgt := 15) rfl (fun c4 => ?_) (fun c4 => ?_)
  · have h := itT c4 h
    refine y_aload_n C dX8_deed_15 rfl ?_
    refine y_geti C fl_X8_94 g1 dX8_deed_16 ?_
    refine y_bipush C dX8_deed_19 kb_6 ?_
    refine y_icmp_ne C dX8_deed_21 (tgt := 27) rfl (fun c5 => ?_) (fun c5 => ?_)
    · have h := itF c5 h
      refine y_aload_n C dX8_deed_27 rfl ?_
      obtain ⟨q6, hq6, h⟩ := ob h
      refine y_getr C fl_X8_19 g1 hq6 dX8_deed_28 ?_
      refine y_aload_n C dX8_deed_31 rfl ?_
      refine y_geti C fl_X8_94 g1 dX8_deed_32 ?_
      refine y_iload_n C dX8_deed_35 rfl ?_
      obtain ⟨g7, h⟩ := gd h
      obtain ⟨M8, eM8, h⟩ := ob h
      have eM8 := Option.some.inj eM8
      refine y_iast C g7 dX8_deed_36 eM8 ?_
      refine y_aload_n C dX8_deed_37 rfl ?_
      refine y_dup C dX8_deed_38 rfl ?_
      refine y_geti C fl_X8_94 g1 dX8_deed_39 ?_
      refine y_iconst C dX8_deed_42 kc_1 ?_
      refine y_iadd C dX8_deed_43 ?_
      obtain ⟨M9, eM9, h⟩ := ob h
      have eM9 := Option.some.inj eM9
      refine y_puti C fl_X8_94 rfl g1 rfl rfl dX8_deed_44 eM9 ?_
      refine y_aload_n C dX8_deed_47 rfl ?_
      refine y_geti C fl_X8_94 g1 dX8_deed_48 ?_
      refine y_iconst C dX8_deed_51 kc_1 ?_
      refine y_isub C dX8_deed_52 ?_
      have e0 := Option.some.inj h
      subst e0
      exact y_iret C E (Nat.zero_le _) (Nat.zero_le _) dX8_deed_53
    · have h := itT c5 h
      refine y_bipush C dX8_deed_24 kb_m4 ?_
      have e0 := Option.some.inj h
      subst e0
      exact y_iret C E (Nat.zero_le _) (Nat.zero_le _) dX8_deed_26
  · have h := itFb c4 h
    refine y_bipush C dX8_deed_12 kb_m2 ?_
    have e0 := Option.some.inj h
    subst e0
    exact y_iret C E (Nat.zero_le _) (Nat.zero_le _) dX8_deed_14
set_option maxRecDepth 100000 in
def b_X8_done (K : yK) (M : yM) (t : Nat) (x1 : Int32) : Option (Int32 × yM) := (Option.bind (b_X8_in K M x1 ((0 : Int32)) ((1 : Int32))) fun r1 => (if r1 = true then (if gO K t 7 = true then (Option.bind (b_X8_holding K M t) fun r4 => (Option.bind (b_X8_doneBy K r4.2 t r4.1) fun r5 => (if x1 = 0 then (some (r5, r4.2)) else (Option.bind (b_X8_worthOf K r4.2 t r5) fun r7 => (some (r7.1, r7.2)))))) else none) else (some ((-2 : Int32), M))))
set_option maxHeartbeats 4000000 in
set_option maxRecDepth 100000 in
theorem m_X8_done (K : yK) (M : yM) (t : Nat) (x1 : Int32) : yMet yX8_done cX8_done 3 (Option.some Jvm.ClassFile.FieldType.int) rm_X8_done K M [.ref t, .int x1] (b_X8_done K M t x1) (yGi K) := by
  refine yM_intro (by decide) (Nat.le_of_ble_eq_true rfl) (fun X r h C E => ?_)
  replace C : yCx X cX8_done RX8 "done" rm_X8_done 3 := C
  show Y X K M 0 0 0 [(0, .ref t), (1, .int x1)] []
  unfold b_X8_done at h
  refine y_iload_n C dX8_done_0 rfl ?_
  refine y_iconst C dX8_done_1 kc_0 ?_
  refine y_iconst C dX8_done_2 kc_1 ?_
  obtain ⟨r1, hr1, h⟩ := ob h
  refine y_cS C [.int x1, .int (0 : Int32), .int (1 : Int32)] (m_X8_in K M x1 ((0 : Int32)) ((1 : Int32))) hr1 cw_X8_90 rfl (by decide) ⟨rfl, rfl⟩ ⟨Nat.zero_le _, Nat.zero_le _⟩ (Nat.le_of_ble_eq_true rfl) rfl rfl rfl dX8_done_3 ?_
  refine y_ifneB C dX8_done_6 (tgt := 12) rfl (fun c2 => ?_) (fun c2 => ?_)
  · have h := itT c2 h
    refine y_aload_n C dX8_done_12 rfl ?_
    refine y_aload_n C dX8_done_13 rfl ?_
    obtain ⟨g3, h⟩ := gd h
    obtain ⟨r4, hr4, h⟩ := ob h
    refine y_cV C [] (m_X8_holding K M t) hr4 g3 cw_X8_230 rfl (by decide) ⟨rfl, rfl⟩ ⟨Nat.zero_le _, Nat.zero_le _⟩ (Nat.le_of_ble_eq_true rfl) rfl rfl rfl dX8_done_14 ?_
    obtain ⟨r5, hr5, h⟩ := ob h
    refine y_cV C [.int r4.1] (m_X8_doneBy K r4.2 t r4.1) hr5 g3 cw_X8_239 rfl (by decide) ⟨rfl, rfl⟩ ⟨Nat.zero_le _, Nat.zero_le _⟩ (Nat.le_of_ble_eq_true rfl) rfl rfl rfl dX8_done_17 ?_
    refine y_istore_n C dX8_done_20 (by decide) (L' := [(2, .int r5), (0, .ref t), (1, .int x1)]) rfl ?_
    refine y_iload_n C dX8_done_21 rfl ?_
    refine y_if_ne C dX8_done_22 (tgt := 29) rfl (fun c6 => ?_) (fun c6 => ?_)
    · have h := itF c6 h
      refine y_aload_n C dX8_done_29 rfl ?_
      refine y_iload_n C dX8_done_30 rfl ?_
      obtain ⟨r7, hr7, h⟩ := ob h
      refine y_cV C [.int r5] (m_X8_worthOf K r4.2 t r5) hr7 g3 cw_X8_242 rfl (by decide) ⟨rfl, rfl⟩ ⟨Nat.zero_le _, Nat.zero_le _⟩ (Nat.le_of_ble_eq_true rfl) rfl rfl rfl dX8_done_31 ?_
      have e0 := Option.some.inj h
      subst e0
      exact y_iret C E (Nat.zero_le _) (Nat.zero_le _) dX8_done_34
    · have h := itT c6 h
      refine y_iload_n C dX8_done_25 rfl ?_
      refine y_goto C dX8_done_26 (tgt := 34) rfl ?_
      have e0 := Option.some.inj h
      subst e0
      exact y_iret C E (Nat.zero_le _) (Nat.zero_le _) dX8_done_34
  · have h := itFb c2 h
    refine y_bipush C dX8_done_9 kb_m2 ?_
    have e0 := Option.some.inj h
    subst e0
    exact y_iret C E (Nat.zero_le _) (Nat.zero_le _) dX8_done_11
def b_X8_goesByLots_13 (K : yK) (t : Nat) (x_2 : Int32) (x_3 : Int32) : Nat → yM → Int64 → Int32 → Option yM
  | 0, _, _, _ => none
  | n + 1, M, u13_4, u13_6 => (if x_2 ≤ u13_6 then (some M) else (Option.bind (some ((u13_4 * (48271 : Int64)) - (u13_4 * (48271 : Int64)) / (2147483647 : Int64) * (2147483647 : Int64))) fun v2 => (Option.bind (if 0 ≤ (lg_cmp (v2 - v2 / (100 : Int64) * (100 : Int64)) (x_3).toInt64) then (if gO K t 7 = true then (some (M t 6)) else none) else (if u13_6 ≤ 0 then (if gO K t 7 = true then (some (M t 6)) else none) else (if gO K t 7 = true then (if (M t 0) ≤ 0 then (some (M t 6)) else (some (M t 39))) else none))) fun j4 => (if gO K t 7 = true then (Option.bind (some (yS M t 6 j4)) fun M11 => (Option.bind (b_X8_lives K M11 t u13_6) fun r12 => (Option.bind (some (u13_6 + (1 : Int32))) fun v13 => (b_X8_goesByLots_13 K t x_2 x_3 n r12 v2 v13)))) else none))))
set_option maxHeartbeats 4000000 in
set_option maxRecDepth 100000 in
theorem l_X8_goesByLots_13 {X : yX} {K : yK} {t : Nat} {x_2 : Int32} {x_3 : Int32} (C : yCx X cX8_goesByLots RX8 "goesByLots" rm_X8_goesByLots 7) : ∀ (n : Nat) (M : yM) (u13_4 : Int64) (u13_6 : Int32) (x : yM), b_X8_goesByLots_13 K t x_2 x_3 n M u13_4 u13_6 = some x → ∀ (hX : Y X K x 0 0 82 [(0, .ref t)] []), Y X K M 0 0 13 [(0, .ref t), (2, .int x_2), (3, .int x_3), (4, .long u13_4), (6, .int u13_6)] [] := by
  intro n
  induction n with
  | zero =>
    intro M u13_4 u13_6 x h
    exact nomatch (show (none : Option _) = some x from h)
  | succ n ih =>
    intro M u13_4 u13_6 x h hX
    rw [b_X8_goesByLots_13] at h
    refine y_iload C dX8_goesByLots_13 rfl ?_
    refine y_iload_n C dX8_goesByLots_15 rfl ?_
    refine y_icmp_ge C dX8_goesByLots_16 (tgt := 82) rfl (fun c1 => ?_) (fun c1 => ?_)
    · have h := itT c1 h
      have e0 := Option.some.inj h
      subst e0
      exact y_sel [0] rfl hX
    · have h := itF c1 h
      refine y_lload C dX8_goesByLots_19 rfl ?_
      refine y_ldc2 C wd_1278 dX8_goesByLots_21 ?_
      refine y_lmul C dX8_goesByLots_24 ?_
      refine y_ldc2 C wd_1279 dX8_goesByLots_25 ?_
      refine y_lrem C dX8_goesByLots_28 (by decide) ?_
      obtain ⟨v2, ev2, h⟩ := ob h
      have ev2 := Option.some.inj ev2
      refine y_lstore C dX8_goesByLots_29 (by decide) (L' := [(4, .long v2), (0, .ref t), (2, .int x_2), (3, .int x_3), (6, .int u13_6)]) (by subst ev2; rfl) ?_
      refine y_aload_n C dX8_goesByLots_31 rfl ?_
      refine y_lload C dX8_goesByLots_32 rfl ?_
      refine y_ldc2 C wd_1280 dX8_goesByLots_34 ?_
      refine y_lrem C dX8_goesByLots_37 (by decide) ?_
      refine y_iload_n C dX8_goesByLots_38 rfl ?_
      refine y_i2l C dX8_goesByLots_39 rfl ?_
      refine y_lcmp C dX8_goesByLots_40 ?_
      obtain ⟨j4, hj4, h⟩ := ob h
      have hJj4 : Y X K M 0 0 67 [(4, .long v2), (0, .ref t), (2, .int x_2), (3, .int x_3), (6, .int u13_6)] [.int j4, .ref t] := by
        obtain ⟨g10, h⟩ := gd h
        obtain ⟨M11, eM11, h⟩ := ob h
        have eM11 := Option.some.inj eM11
        refine y_puti C fl_X8_104 rfl g10 rfl rfl dX8_goesByLots_67 eM11 ?_
        refine y_aload_n C dX8_goesByLots_70 rfl ?_
        refine y_iload C dX8_goesByLots_71 rfl ?_
        obtain ⟨r12, hr12, h⟩ := ob h
        refine y_cV C [.int u13_6] (m_X8_lives K M11 t u13_6) hr12 g10 cw_X8_278 rfl (by decide) ⟨rfl, rfl⟩ ⟨Nat.zero_le _, Nat.zero_le _⟩ (Nat.le_of_ble_eq_true rfl) rfl rfl rfl dX8_goesByLots_73 ?_
        obtain ⟨v13, ev13, h⟩ := ob h
        have ev13 := Option.some.inj ev13
        refine y_iinc C dX8_goesByLots_76 (by decide) rfl (v := v13) (by subst ev13; rfl) (L' := [(6, .int v13), (4, .long v2), (0, .ref t), (2, .int x_2), (3, .int x_3)]) rfl ?_
        refine y_goto C dX8_goesByLots_79 (tgt := 13) rfl ?_
        exact y_sel [0, 2, 3, 4, 6] rfl (ih _ _ _ _  h hX)
      replace h := hj4
      refine y_if_ge C dX8_goesByLots_41 (tgt := 63) rfl (fun c3 => ?_) (fun c3 => ?_)
      · have h := itT c3 h
        refine y_aload_n C dX8_goesByLots_63 rfl ?_
        obtain ⟨g5, h⟩ := gd h
        refine y_geti C fl_X8_104 g5 dX8_goesByLots_64 ?_
        have e0 := Option.some.inj h
        subst e0
        exact y_sel [4, 0, 2, 3, 6] rfl hJj4
      · have h := itF c3 h
        refine y_iload C dX8_goesByLots_44 rfl ?_
        refine y_if_le C dX8_goesByLots_46 (tgt := 63) rfl (fun c6 => ?_) (fun c6 => ?_)
        · have h := itT c6 h
          refine y_aload_n C dX8_goesByLots_63 rfl ?_
          obtain ⟨g7, h⟩ := gd h
          refine y_geti C fl_X8_104 g7 dX8_goesByLots_64 ?_
          have e0 := Option.some.inj h
          subst e0
          exact y_sel [4, 0, 2, 3, 6] rfl hJj4
        · have h := itF c6 h
          refine y_aload_n C dX8_goesByLots_49 rfl ?_
          obtain ⟨g8, h⟩ := gd h
          refine y_geti C fl_X8_87 g8 dX8_goesByLots_50 ?_
          refine y_if_le C dX8_goesByLots_53 (tgt := 63) rfl (fun c9 => ?_) (fun c9 => ?_)
          · have h := itT c9 h
            refine y_aload_n C dX8_goesByLots_63 rfl ?_
            refine y_geti C fl_X8_104 g8 dX8_goesByLots_64 ?_
            have e0 := Option.some.inj h
            subst e0
            exact y_sel [4, 0, 2, 3, 6] rfl hJj4
          · have h := itF c9 h
            refine y_aload_n C dX8_goesByLots_56 rfl ?_
            refine y_geti C fl_X8_245 g8 dX8_goesByLots_57 ?_
            refine y_goto C dX8_goesByLots_60 (tgt := 67) rfl ?_
            have e0 := Option.some.inj h
            subst e0
            exact y_sel [4, 0, 2, 3, 6] rfl hJj4
set_option maxRecDepth 100000 in
def b_X8_goesByLots (K : yK) (M : yM) (t : Nat) (x1 : Int32) (x2 : Int32) (x3 : Int32) : Option (Int32 × yM) := (Option.bind (some ((x1).toInt64 + (1 : Int64))) fun v1 => (if gO K t 7 = true then (Option.bind (b_X8_keeps K M t) fun r3 => (Option.bind (b_X8_goesByLots_13 K t x2 x3 1000 r3 v1 ((0 : Int32))) fun j4 => (Option.bind (b_X8_laysBack K j4 t) fun r5 => (some ((r5 t 42), r5))))) else none))
set_option maxHeartbeats 4000000 in
set_option maxRecDepth 100000 in
theorem m_X8_goesByLots (K : yK) (M : yM) (t : Nat) (x1 : Int32) (x2 : Int32) (x3 : Int32) : yMet yX8_goesByLots cX8_goesByLots 7 (Option.some Jvm.ClassFile.FieldType.int) rm_X8_goesByLots K M [.ref t, .int x1, .int x2, .int x3] (b_X8_goesByLots K M t x1 x2 x3) (yGi K) := by
  refine yM_intro (by decide) (Nat.le_of_ble_eq_true rfl) (fun X r h C E => ?_)
  replace C : yCx X cX8_goesByLots RX8 "goesByLots" rm_X8_goesByLots 7 := C
  show Y X K M 0 0 0 [(0, .ref t), (1, .int x1), (2, .int x2), (3, .int x3)] []
  unfold b_X8_goesByLots at h
  refine y_iload_n C dX8_goesByLots_0 rfl ?_
  refine y_i2l C dX8_goesByLots_1 rfl ?_
  refine y_lconst C dX8_goesByLots_2 rfl ?_
  refine y_ladd C dX8_goesByLots_3 ?_
  obtain ⟨v1, ev1, h⟩ := ob h
  have ev1 := Option.some.inj ev1
  refine y_lstore C dX8_goesByLots_4 (by decide) (L' := [(4, .long v1), (0, .ref t), (1, .int x1), (2, .int x2), (3, .int x3)]) (by subst ev1; rfl) ?_
  refine y_aload_n C dX8_goesByLots_6 rfl ?_
  obtain ⟨g2, h⟩ := gd h
  obtain ⟨r3, hr3, h⟩ := ob h
  refine y_cV C [] (m_X8_keeps K M t) hr3 g2 cw_X8_275 rfl (by decide) ⟨rfl, rfl⟩ ⟨Nat.zero_le _, Nat.zero_le _⟩ (Nat.le_of_ble_eq_true rfl) rfl rfl rfl dX8_goesByLots_7 ?_
  refine y_iconst C dX8_goesByLots_10 kc_0 ?_
  refine y_istore C dX8_goesByLots_11 (by decide) (L' := [(6, .int (0)), (4, .long v1), (0, .ref t), (1, .int x1), (2, .int x2), (3, .int x3)]) rfl ?_
  obtain ⟨j4, hj4, h⟩ := ob h
  refine y_sel [0, 2, 3, 4, 6] rfl (l_X8_goesByLots_13 C 1000 _ _ _ _ hj4 ?_)
  refine y_aload_n C dX8_goesByLots_82 rfl ?_
  obtain ⟨r5, hr5, h⟩ := ob h
  refine y_cV C [] (m_X8_laysBack K j4 t) hr5 g2 cw_X8_281 rfl (by decide) ⟨rfl, rfl⟩ ⟨Nat.zero_le _, Nat.zero_le _⟩ (Nat.le_of_ble_eq_true rfl) rfl rfl rfl dX8_goesByLots_83 ?_
  refine y_aload_n C dX8_goesByLots_86 rfl ?_
  refine y_geti C fl_X8_254 g2 dX8_goesByLots_87 ?_
  have e0 := Option.some.inj h
  subst e0
  exact y_iret C E (Nat.zero_le _) (Nat.zero_le _) dX8_goesByLots_90
set_option maxRecDepth 100000 in
def b_X8_toldRun (K : yK) (M : yM) (t : Nat) (x1 : Int32) : Option Int32 := (if x1 = 0 then (if gO K t 7 = true then (some (M t 42)) else none) else (if x1 = (1 : Int32) then (if gO K t 7 = true then (some (M t 43)) else none) else (if x1 = (2 : Int32) then (if gO K t 7 = true then (some (M t 44)) else none) else (if x1 = (3 : Int32) then (if gO K t 7 = true then (some (M t 45)) else none) else (if gO K t 7 = true then (some (M t 46)) else none)))))
set_option maxHeartbeats 4000000 in
set_option maxRecDepth 100000 in
theorem m_X8_toldRun (K : yK) (M : yM) (t : Nat) (x1 : Int32) : yMet yX8_toldRun cX8_toldRun 2 (Option.some Jvm.ClassFile.FieldType.int) rm_X8_toldRun K M [.ref t, .int x1] (b_X8_toldRun K M t x1) (yFi K M) := by
  refine yM_intro (by decide) (Nat.le_of_ble_eq_true rfl) (fun X r h C E => ?_)
  replace C : yCx X cX8_toldRun RX8 "toldRun" rm_X8_toldRun 2 := C
  show Y X K M 0 0 0 [(0, .ref t), (1, .int x1)] []
  unfold b_X8_toldRun at h
  refine y_iload_n C dX8_toldRun_0 rfl ?_
  refine y_if_ne C dX8_toldRun_1 (tgt := 11) rfl (fun c1 => ?_) (fun c1 => ?_)
  · have h := itF c1 h
    refine y_iload_n C dX8_toldRun_11 rfl ?_
    refine y_iconst C dX8_toldRun_12 kc_1 ?_
    refine y_icmp_ne C dX8_toldRun_13 (tgt := 23) rfl (fun c2 => ?_) (fun c2 => ?_)
    · have h := itF c2 h
      refine y_iload_n C dX8_toldRun_23 rfl ?_
      refine y_iconst C dX8_toldRun_24 kc_2 ?_
      refine y_icmp_ne C dX8_toldRun_25 (tgt := 35) rfl (fun c3 => ?_) (fun c3 => ?_)
      · have h := itF c3 h
        refine y_iload_n C dX8_toldRun_35 rfl ?_
        refine y_iconst C dX8_toldRun_36 kc_3 ?_
        refine y_icmp_ne C dX8_toldRun_37 (tgt := 47) rfl (fun c4 => ?_) (fun c4 => ?_)
        · have h := itF c4 h
          refine y_aload_n C dX8_toldRun_47 rfl ?_
          obtain ⟨g5, h⟩ := gd h
          refine y_geti C fl_X8_272 g5 dX8_toldRun_48 ?_
          have e0 := Option.some.inj h
          subst e0
          exact y_iret C E (Nat.zero_le _) (Nat.zero_le _) dX8_toldRun_51
        · have h := itT c4 h
          refine y_aload_n C dX8_toldRun_40 rfl ?_
          obtain ⟨g6, h⟩ := gd h
          refine y_geti C fl_X8_263 g6 dX8_toldRun_41 ?_
          refine y_goto C dX8_toldRun_44 (tgt := 51) rfl ?_
          have e0 := Option.some.inj h
          subst e0
          exact y_iret C E (Nat.zero_le _) (Nat.zero_le _) dX8_toldRun_51
      · have h := itT c3 h
        refine y_aload_n C dX8_toldRun_28 rfl ?_
        obtain ⟨g7, h⟩ := gd h
        refine y_geti C fl_X8_260 g7 dX8_toldRun_29 ?_
        refine y_goto C dX8_toldRun_32 (tgt := 51) rfl ?_
        have e0 := Option.some.inj h
        subst e0
        exact y_iret C E (Nat.zero_le _) (Nat.zero_le _) dX8_toldRun_51
    · have h := itT c2 h
      refine y_aload_n C dX8_toldRun_16 rfl ?_
      obtain ⟨g8, h⟩ := gd h
      refine y_geti C fl_X8_257 g8 dX8_toldRun_17 ?_
      refine y_goto C dX8_toldRun_20 (tgt := 51) rfl ?_
      have e0 := Option.some.inj h
      subst e0
      exact y_iret C E (Nat.zero_le _) (Nat.zero_le _) dX8_toldRun_51
  · have h := itT c1 h
    refine y_aload_n C dX8_toldRun_4 rfl ?_
    obtain ⟨g9, h⟩ := gd h
    refine y_geti C fl_X8_254 g9 dX8_toldRun_5 ?_
    refine y_goto C dX8_toldRun_8 (tgt := 51) rfl ?_
    have e0 := Option.some.inj h
    subst e0
    exact y_iret C E (Nat.zero_le _) (Nat.zero_le _) dX8_toldRun_51
set_option maxRecDepth 100000 in
def b_X8_drawn (K : yK) (M : yM) (t : Nat) (x1 : Int32) (x2 : Int32) (x3 : Int32) : Option (Int32 × yM) := (Option.bind (b_X8_in K M x1 ((0 : Int32)) ((99999 : Int32))) fun r1 => (if r1 = true then (Option.bind (b_X8_in K M x2 ((0 : Int32)) ((60 : Int32))) fun r3 => (if r3 = true then (Option.bind (b_X8_in K M x3 ((0 : Int32)) ((1004 : Int32))) fun r5 => (if r5 = true then (if (x3 - x3 / (10 : Int32) * (10 : Int32)) ≤ (4 : Int32) then (if gO K t 7 = true then (Option.bind (b_X8_goesByLots K M t x1 x2 ((x3 / (10 : Int32)))) fun r9 => (Option.bind (b_X8_toldRun K r9.2 t ((x3 - x3 / (10 : Int32) * (10 : Int32)))) fun r10 => (some (r10, r9.2)))) else none) else (some ((-2 : Int32), M))) else (some ((-2 : Int32), M)))) else (some ((-2 : Int32), M)))) else (some ((-2 : Int32), M))))
set_option maxHeartbeats 4000000 in
set_option maxRecDepth 100000 in
theorem m_X8_drawn (K : yK) (M : yM) (t : Nat) (x1 : Int32) (x2 : Int32) (x3 : Int32) : yMet yX8_drawn cX8_drawn 4 (Option.some Jvm.ClassFile.FieldType.int) rm_X8_drawn K M [.ref t, .int x1, .int x2, .int x3] (b_X8_drawn K M t x1 x2 x3) (yGi K) := by
  refine yM_intro (by decide) (Nat.le_of_ble_eq_true rfl) (fun X r h C E => ?_)
  replace C : yCx X cX8_drawn RX8 "drawn" rm_X8_drawn 4 := C
  show Y X K M 0 0 0 [(0, .ref t), (1, .int x1), (2, .int x2), (3, .int x3)] []
  unfold b_X8_drawn at h
  refine y_iload_n C dX8_drawn_0 rfl ?_
  refine y_iconst C dX8_drawn_1 kc_0 ?_
  refine y_ldcw C wd_1273 dX8_drawn_2 ?_
  obtain ⟨r1, hr1, h⟩ := ob h
  refine y_cS C [.int x1, .int (0 : Int32), .int (99999 : Int32)] (m_X8_in K M x1 ((0 : Int32)) ((99999 : Int32))) hr1 cw_X8_90 rfl (by decide) ⟨rfl, rfl⟩ ⟨Nat.zero_le _, Nat.zero_le _⟩ (Nat.le_of_ble_eq_true rfl) rfl rfl rfl dX8_drawn_5 ?_
  refine y_ifeqB C dX8_drawn_8 (tgt := 40) rfl (fun c2 => ?_) (fun c2 => ?_)
  · have h := itFb c2 h
    refine y_bipush C dX8_drawn_40 kb_m2 ?_
    have e0 := Option.some.inj h
    subst e0
    exact y_iret C E (Nat.zero_le _) (Nat.zero_le _) dX8_drawn_42
  · have h := itT c2 h
    refine y_iload_n C dX8_drawn_11 rfl ?_
    refine y_iconst C dX8_drawn_12 kc_0 ?_
    refine y_bipush C dX8_drawn_13 kb_60 ?_
    obtain ⟨r3, hr3, h⟩ := ob h
    refine y_cS C [.int x2, .int (0 : Int32), .int (60 : Int32)] (m_X8_in K M x2 ((0 : Int32)) ((60 : Int32))) hr3 cw_X8_90 rfl (by decide) ⟨rfl, rfl⟩ ⟨Nat.zero_le _, Nat.zero_le _⟩ (Nat.le_of_ble_eq_true rfl) rfl rfl rfl dX8_drawn_15 ?_
    refine y_ifeqB C dX8_drawn_18 (tgt := 40) rfl (fun c4 => ?_) (fun c4 => ?_)
    · have h := itFb c4 h
      refine y_bipush C dX8_drawn_40 kb_m2 ?_
      have e0 := Option.some.inj h
      subst e0
      exact y_iret C E (Nat.zero_le _) (Nat.zero_le _) dX8_drawn_42
    · have h := itT c4 h
      refine y_iload_n C dX8_drawn_21 rfl ?_
      refine y_iconst C dX8_drawn_22 kc_0 ?_
      refine y_sipush C dX8_drawn_23 ks_1004 ?_
      obtain ⟨r5, hr5, h⟩ := ob h
      refine y_cS C [.int x3, .int (0 : Int32), .int (1004 : Int32)] (m_X8_in K M x3 ((0 : Int32)) ((1004 : Int32))) hr5 cw_X8_90 rfl (by decide) ⟨rfl, rfl⟩ ⟨Nat.zero_le _, Nat.zero_le _⟩ (Nat.le_of_ble_eq_true rfl) rfl rfl rfl dX8_drawn_26 ?_
      refine y_ifeqB C dX8_drawn_29 (tgt := 40) rfl (fun c6 => ?_) (fun c6 => ?_)
      · have h := itFb c6 h
        refine y_bipush C dX8_drawn_40 kb_m2 ?_
        have e0 := Option.some.inj h
        subst e0
        exact y_iret C E (Nat.zero_le _) (Nat.zero_le _) dX8_drawn_42
      · have h := itT c6 h
        refine y_iload_n C dX8_drawn_32 rfl ?_
        refine y_bipush C dX8_drawn_33 kb_10 ?_
        refine y_irem C dX8_drawn_35 (by decide) ?_
        refine y_iconst C dX8_drawn_36 kc_4 ?_
        refine y_icmp_le C dX8_drawn_37 (tgt := 43) rfl (fun c7 => ?_) (fun c7 => ?_)
        · have h := itT c7 h
          refine y_aload_n C dX8_drawn_43 rfl ?_
          refine y_iload_n C dX8_drawn_44 rfl ?_
          refine y_iload_n C dX8_drawn_45 rfl ?_
          refine y_iload_n C dX8_drawn_46 rfl ?_
          refine y_bipush C dX8_drawn_47 kb_10 ?_
          refine y_idiv C dX8_drawn_49 (by decide) ?_
          obtain ⟨g8, h⟩ := gd h
          obtain ⟨r9, hr9, h⟩ := ob h
          refine y_cV C [.int x1, .int x2, .int (x3 / (10 : Int32))] (m_X8_goesByLots K M t x1 x2 ((x3 / (10 : Int32)))) hr9 g8 cw_X8_312 rfl (by decide) ⟨rfl, rfl⟩ ⟨Nat.zero_le _, Nat.zero_le _⟩ (Nat.le_of_ble_eq_true rfl) rfl rfl rfl dX8_drawn_50 ?_
          refine y_pop C dX8_drawn_53 rfl ?_
          refine y_aload_n C dX8_drawn_54 rfl ?_
          refine y_iload_n C dX8_drawn_55 rfl ?_
          refine y_bipush C dX8_drawn_56 kb_10 ?_
          refine y_irem C dX8_drawn_58 (by decide) ?_
          obtain ⟨r10, hr10, h⟩ := ob h
          refine y_cV C [.int (x3 - x3 / (10 : Int32) * (10 : Int32))] (m_X8_toldRun K r9.2 t ((x3 - x3 / (10 : Int32) * (10 : Int32)))) hr10 g8 cw_X8_287 rfl (by decide) ⟨rfl, rfl⟩ ⟨Nat.zero_le _, Nat.zero_le _⟩ (Nat.le_of_ble_eq_true rfl) rfl rfl rfl dX8_drawn_59 ?_
          have e0 := Option.some.inj h
          subst e0
          exact y_iret C E (Nat.zero_le _) (Nat.zero_le _) dX8_drawn_62
        · have h := itF c7 h
          refine y_bipush C dX8_drawn_40 kb_m2 ?_
          have e0 := Option.some.inj h
          subst e0
          exact y_iret C E (Nat.zero_le _) (Nat.zero_le _) dX8_drawn_42
def b_X8_wordFrom_26 (K : yK) (M : yM) (t : Nat) (x_1 : Int32) (x_2 : Int32) (x_3 : Int32) : Nat → Bool → Int32 → Option Bool
  | 0, _, _ => none
  | n + 1, u26_4, u26_5 => (if (8 : Int32) ≤ u26_5 then (some u26_4) else (if u26_4 = true then (if gO K t 7 = true then (Option.bind (K.2.2 t 32) fun q4 => (if gA K q4 (((8 : Int32) * x_3) + u26_5) = true then (Option.bind (if x_2 ≤ (x_1 + u26_5) then (some (32 : Int32)) else (Option.bind (K.2.2 t 11) fun q8 => (if gA K q8 (x_1 + u26_5) = true then (some (M q8 ((x_1 + u26_5)).toNatClampNeg)) else none))) fun j7 => (Option.bind (if (M q4 ((((8 : Int32) * x_3) + u26_5)).toNatClampNeg) = j7 then (some true) else (some false)) fun j11 => (Option.bind (some (u26_5 + (1 : Int32))) fun v12 => (b_X8_wordFrom_26 K M t x_1 x_2 x_3 n j11 v12)))) else none)) else none) else (some u26_4)))
set_option maxHeartbeats 4000000 in
set_option maxRecDepth 100000 in
theorem l_X8_wordFrom_26 {X : yX} {K : yK} {M : yM} {t : Nat} {x_1 : Int32} {x_2 : Int32} {x_3 : Int32} (C : yCx X cX8_wordFrom RX8 "wordFrom" rm_X8_wordFrom 6) : ∀ (n : Nat) (u26_4 : Bool) (u26_5 : Int32) (x : Bool), b_X8_wordFrom_26 K M t x_1 x_2 x_3 n u26_4 u26_5 = some x → ∀ (hX : Y X K M 0 0 88 [(0, .ref t), (1, .int x_1), (2, .int x_2), (3, .int x_3), (4, .int (bI x))] []), Y X K M 0 0 26 [(0, .ref t), (1, .int x_1), (2, .int x_2), (3, .int x_3), (4, .int (bI u26_4)), (5, .int u26_5)] [] := by
  intro n
  induction n with
  | zero =>
    intro u26_4 u26_5 x h
    exact nomatch (show (none : Option _) = some x from h)
  | succ n ih =>
    intro u26_4 u26_5 x h hX
    rw [b_X8_wordFrom_26] at h
    refine y_iload C dX8_wordFrom_26 rfl ?_
    refine y_bipush C dX8_wordFrom_28 kb_8 ?_
    refine y_icmp_ge C dX8_wordFrom_30 (tgt := 88) rfl (fun c1 => ?_) (fun c1 => ?_)
    · have h := itT c1 h
      have e0 := Option.some.inj h
      subst e0
      exact y_sel [0, 1, 2, 3, 4] rfl hX
    · have h := itF c1 h
      refine y_iload C dX8_wordFrom_33 rfl ?_
      refine y_ifeqB C dX8_wordFrom_35 (tgt := 88) rfl (fun c2 => ?_) (fun c2 => ?_)
      · have h := itFb c2 h
        have e0 := Option.some.inj h
        subst e0
        exact y_sel [0, 1, 2, 3, 4] rfl hX
      · have h := itT c2 h
        refine y_aload_n C dX8_wordFrom_38 rfl ?_
        obtain ⟨g3, h⟩ := gd h
        obtain ⟨q4, hq4, h⟩ := ob h
        refine y_getr C fl_X8_56 g3 hq4 dX8_wordFrom_39 ?_
        refine y_bipush C dX8_wordFrom_42 kb_8 ?_
        refine y_iload_n C dX8_wordFrom_44 rfl ?_
        refine y_imul C dX8_wordFrom_45 ?_
        refine y_iload C dX8_wordFrom_46 rfl ?_
        refine y_iadd C dX8_wordFrom_48 ?_
        obtain ⟨g5, h⟩ := gd h
        refine y_iald C g5 dX8_wordFrom_49 ?_
        refine y_iload_n C dX8_wordFrom_50 rfl ?_
        refine y_iload C dX8_wordFrom_51 rfl ?_
        refine y_iadd C dX8_wordFrom_53 ?_
        refine y_iload_n C dX8_wordFrom_54 rfl ?_
        obtain ⟨j7, hj7, h⟩ := ob h
        have hJj7 : Y X K M 0 0 72 [(0, .ref t), (1, .int x_1), (2, .int x_2), (3, .int x_3), (5, .int u26_5)] [.int j7, .int (M q4 ((((8 : Int32) * x_3) + u26_5)).toNatClampNeg)] := by
          obtain ⟨j11, hj11, h⟩ := ob h
          have hJj11 : Y X K M 0 0 80 [(0, .ref t), (1, .int x_1), (2, .int x_2), (3, .int x_3), (5, .int u26_5)] [.int (bI j11)] := by
            refine y_istore C dX8_wordFrom_80 (by decide) (L' := [(4, .int (bI j11)), (0, .ref t), (1, .int x_1), (2, .int x_2), (3, .int x_3), (5, .int u26_5)]) rfl ?_
            obtain ⟨v12, ev12, h⟩ := ob h
            have ev12 := Option.some.inj ev12
            refine y_iinc C dX8_wordFrom_82 (by decide) rfl (v := v12) (by subst ev12; rfl) (L' := [(5, .int v12), (4, .int (bI j11)), (0, .ref t), (1, .int x_1), (2, .int x_2), (3, .int x_3)]) rfl ?_
            refine y_goto C dX8_wordFrom_85 (tgt := 26) rfl ?_
            exact y_sel [0, 1, 2, 3, 4, 5] rfl (ih _ _ _  h hX)
          replace h := hj11
          refine y_icmp_ne C dX8_wordFrom_72 (tgt := 79) rfl (fun c10 => ?_) (fun c10 => ?_)
          · have h := itF c10 h
            refine y_iconst C dX8_wordFrom_79 kc_0 ?_
            have e0 := Option.some.inj h
            subst e0
            exact y_sel [0, 1, 2, 3, 5] rfl hJj11
          · have h := itT c10 h
            refine y_iconst C dX8_wordFrom_75 kc_1 ?_
            refine y_goto C dX8_wordFrom_76 (tgt := 80) rfl ?_
            have e0 := Option.some.inj h
            subst e0
            exact y_sel [0, 1, 2, 3, 5] rfl hJj11
        replace h := hj7
        refine y_icmp_ge C dX8_wordFrom_55 (tgt := 70) rfl (fun c6 => ?_) (fun c6 => ?_)
        · have h := itT c6 h
          refine y_bipush C dX8_wordFrom_70 kb_32 ?_
          have e0 := Option.some.inj h
          subst e0
          exact y_sel [0, 1, 2, 3, 5] rfl hJj7
        · have h := itF c6 h
          refine y_aload_n C dX8_wordFrom_58 rfl ?_
          obtain ⟨q8, hq8, h⟩ := ob h
          refine y_getr C fl_X8_26 g3 hq8 dX8_wordFrom_59 ?_
          refine y_iload_n C dX8_wordFrom_62 rfl ?_
          refine y_iload C dX8_wordFrom_63 rfl ?_
          refine y_iadd C dX8_wordFrom_65 ?_
          obtain ⟨g9, h⟩ := gd h
          refine y_iald C g9 dX8_wordFrom_66 ?_
          refine y_goto C dX8_wordFrom_67 (tgt := 72) rfl ?_
          have e0 := Option.some.inj h
          subst e0
          exact y_sel [0, 1, 2, 3, 5] rfl hJj7
def b_X8_wordFrom_2 (K : yK) (M : yM) (t : Nat) (x_1 : Int32) (x_2 : Int32) : Nat → Int32 → Option (Unit ⊕ Int32)
  | 0, _ => none
  | n + 1, u2_3 => (if (12 : Int32) ≤ u2_3 then (some (.inl ())) else (Option.bind (if (8 : Int32) < (x_2 - x_1) then (some false) else (some true)) fun j3 => (Option.bind (b_X8_wordFrom_26 K M t x_1 x_2 u2_3 1000 j3 ((0 : Int32))) fun j4 => (if j4 = true then (some (.inr u2_3)) else (Option.bind (some (u2_3 + (1 : Int32))) fun v6 => (b_X8_wordFrom_2 K M t x_1 x_2 n v6))))))
set_option maxHeartbeats 4000000 in
set_option maxRecDepth 100000 in
theorem l_X8_wordFrom_2 {X : yX} {K : yK} {M : yM} {K0 : yK} {M0 : yM} {t : Nat} {x_1 : Int32} {x_2 : Int32} (C : yCx X cX8_wordFrom RX8 "wordFrom" rm_X8_wordFrom 6) : ∀ (n : Nat) (u2_3 : Int32) (x : (Unit ⊕ Int32)), b_X8_wordFrom_2 K M t x_1 x_2 n u2_3 = some x → ∀ (hX : ∀ x8, x = .inl x8 → Y X K M 0 0 101 [] []), ∀ (hE : ∀ x9, x = .inr x9 → yRt X (Option.some Jvm.ClassFile.FieldType.int) K0 M0 ((yFi K M) x9).1 ((yFi K M) x9).2.1 ((yFi K M) x9).2.2 0 0), Y X K M 0 0 2 [(0, .ref t), (1, .int x_1), (2, .int x_2), (3, .int u2_3)] [] := by
  intro n
  induction n with
  | zero =>
    intro u2_3 x h
    exact nomatch (show (none : Option _) = some x from h)
  | succ n ih =>
    intro u2_3 x h hX hE
    rw [b_X8_wordFrom_2] at h
    refine y_iload_n C dX8_wordFrom_2 rfl ?_
    refine y_bipush C dX8_wordFrom_3 kb_12 ?_
    refine y_icmp_ge C dX8_wordFrom_5 (tgt := 101) rfl (fun c1 => ?_) (fun c1 => ?_)
    · have h := itT c1 h
      have e0 := Option.some.inj h
      subst e0
      exact y_sel [] rfl (hX _ rfl)
    · have h := itF c1 h
      refine y_iload_n C dX8_wordFrom_8 rfl ?_
      refine y_iload_n C dX8_wordFrom_9 rfl ?_
      refine y_isub C dX8_wordFrom_10 ?_
      refine y_bipush C dX8_wordFrom_11 kb_8 ?_
      obtain ⟨j3, hj3, h⟩ := ob h
      have hJj3 : Y X K M 0 0 21 [(0, .ref t), (1, .int x_1), (2, .int x_2), (3, .int u2_3)] [.int (bI j3)] := by
        refine y_istore C dX8_wordFrom_21 (by decide) (L' := [(4, .int (bI j3)), (0, .ref t), (1, .int x_1), (2, .int x_2), (3, .int u2_3)]) rfl ?_
        refine y_iconst C dX8_wordFrom_23 kc_0 ?_
        refine y_istore C dX8_wordFrom_24 (by decide) (L' := [(5, .int (0)), (4, .int (bI j3)), (0, .ref t), (1, .int x_1), (2, .int x_2), (3, .int u2_3)]) rfl ?_
        obtain ⟨j4, hj4, h⟩ := ob h
        refine y_sel [0, 1, 2, 3, 4, 5] rfl (l_X8_wordFrom_26 C 1000 _ _ _ hj4 ?_)
        refine y_iload C dX8_wordFrom_88 rfl ?_
        refine y_ifeqB C dX8_wordFrom_90 (tgt := 95) rfl (fun c5 => ?_) (fun c5 => ?_)
        · have h := itFb c5 h
          obtain ⟨v6, ev6, h⟩ := ob h
          have ev6 := Option.some.inj ev6
          refine y_iinc C dX8_wordFrom_95 (by decide) rfl (v := v6) (by subst ev6; rfl) (L' := [(3, .int v6), (0, .ref t), (1, .int x_1), (2, .int x_2), (4, .int (bI j4))]) rfl ?_
          refine y_goto C dX8_wordFrom_98 (tgt := 2) rfl ?_
          exact y_sel [0, 1, 2, 3] rfl (ih _ _  h hX hE)
        · have h := itT c5 h
          refine y_iload_n C dX8_wordFrom_93 rfl ?_
          have e0 := Option.some.inj h
          subst e0
          have E := hE _ rfl
          exact y_iret C E (Nat.zero_le _) (Nat.zero_le _) dX8_wordFrom_94
      replace h := hj3
      refine y_icmp_gt C dX8_wordFrom_13 (tgt := 20) rfl (fun c2 => ?_) (fun c2 => ?_)
      · have h := itT c2 h
        refine y_iconst C dX8_wordFrom_20 kc_0 ?_
        have e0 := Option.some.inj h
        subst e0
        exact y_sel [0, 1, 2, 3] rfl hJj3
      · have h := itF c2 h
        refine y_iconst C dX8_wordFrom_16 kc_1 ?_
        refine y_goto C dX8_wordFrom_17 (tgt := 21) rfl ?_
        have e0 := Option.some.inj h
        subst e0
        exact y_sel [0, 1, 2, 3] rfl hJj3
set_option maxRecDepth 100000 in
def b_X8_wordFrom (K : yK) (M : yM) (t : Nat) (x1 : Int32) (x2 : Int32) : Option Int32 := (Option.bind (b_X8_wordFrom_2 K M t x1 x2 1000 ((0 : Int32))) fun x9 => Sum.elim (fun j1 => (some (12 : Int32))) (fun r9 => (some r9)) x9)
set_option maxHeartbeats 4000000 in
set_option maxRecDepth 100000 in
theorem m_X8_wordFrom (K : yK) (M : yM) (t : Nat) (x1 : Int32) (x2 : Int32) : yMet yX8_wordFrom cX8_wordFrom 6 (Option.some Jvm.ClassFile.FieldType.int) rm_X8_wordFrom K M [.ref t, .int x1, .int x2] (b_X8_wordFrom K M t x1 x2) (yFi K M) := by
  refine yM_intro (by decide) (Nat.le_of_ble_eq_true rfl) (fun X r h C E => ?_)
  replace C : yCx X cX8_wordFrom RX8 "wordFrom" rm_X8_wordFrom 6 := C
  show Y X K M 0 0 0 [(0, .ref t), (1, .int x1), (2, .int x2)] []
  unfold b_X8_wordFrom at h
  refine y_iconst C dX8_wordFrom_0 kc_0 ?_
  refine y_istore_n C dX8_wordFrom_1 (by decide) (L' := [(3, .int (0)), (0, .ref t), (1, .int x1), (2, .int x2)]) rfl ?_
  obtain ⟨x9, hx9, h⟩ := ob h
  refine y_sel [0, 1, 2, 3] rfl (l_X8_wordFrom_2 (K0 := K) (M0 := M) C 1000 _ _ hx9 (fun j1 e9 => ?_) (fun r9 e9 => ?_))
  · subst e9
    dsimp only [Sum.elim_inl] at h
    refine y_bipush C dX8_wordFrom_101 kb_12 ?_
    have e0 := Option.some.inj h
    subst e0
    exact y_iret C E (Nat.zero_le _) (Nat.zero_le _) dX8_wordFrom_103
  · subst e9
    dsimp only [Sum.elim_inr] at h
    have e0 := Option.some.inj h
    subst e0
    exact E
def b_X8_next_0 (K : yK) (t : Nat) : Nat → yM → Option yM
  | 0, _ => none
  | n + 1, M => (if gO K t 7 = true then (if (M t 12) ≤ (M t 28) then (some M) else (Option.bind (K.2.2 t 11) fun q3 => (if gA K q3 (M t 28) = true then (if (M q3 ((M t 28)).toNatClampNeg) = (32 : Int32) then (Option.bind (some (yS M t 28 ((M t 28) + (1 : Int32)))) fun M6 => (b_X8_next_0 K t n M6)) else (if (M q3 ((M t 28)).toNatClampNeg) = (10 : Int32) then (Option.bind (some (yS M t 28 ((M t 28) + (1 : Int32)))) fun M8 => (b_X8_next_0 K t n M8)) else (some M))) else none))) else none)
set_option maxHeartbeats 4000000 in
set_option maxRecDepth 100000 in
theorem l_X8_next_0 {X : yX} {K : yK} {t : Nat} (C : yCx X cX8_next RX8 "next" rm_X8_next 3) : ∀ (n : Nat) (M : yM) (x : yM), b_X8_next_0 K t n M = some x → ∀ (hX : Y X K x 0 0 52 [(0, .ref t)] []), Y X K M 0 0 0 [(0, .ref t)] [] := by
  intro n
  induction n with
  | zero =>
    intro M x h
    exact nomatch (show (none : Option _) = some x from h)
  | succ n ih =>
    intro M x h hX
    rw [b_X8_next_0] at h
    refine y_aload_n C dX8_next_0 rfl ?_
    obtain ⟨g1, h⟩ := gd h
    refine y_geti C fl_X8_140 g1 dX8_next_1 ?_
    refine y_aload_n C dX8_next_4 rfl ?_
    refine y_geti C fl_X8_80 g1 dX8_next_5 ?_
    refine y_icmp_ge C dX8_next_8 (tgt := 52) rfl (fun c2 => ?_) (fun c2 => ?_)
    · have h := itT c2 h
      have e0 := Option.some.inj h
      subst e0
      exact y_sel [0] rfl hX
    · have h := itF c2 h
      refine y_aload_n C dX8_next_11 rfl ?_
      obtain ⟨q3, hq3, h⟩ := ob h
      refine y_getr C fl_X8_26 g1 hq3 dX8_next_12 ?_
      refine y_aload_n C dX8_next_15 rfl ?_
      refine y_geti C fl_X8_140 g1 dX8_next_16 ?_
      obtain ⟨g4, h⟩ := gd h
      refine y_iald C g4 dX8_next_19 ?_
      refine y_bipush C dX8_next_20 kb_32 ?_
      refine y_icmp_eq C dX8_next_22 (tgt := 39) rfl (fun c5 => ?_) (fun c5 => ?_)
      · have h := itT c5 h
        refine y_aload_n C dX8_next_39 rfl ?_
        refine y_dup C dX8_next_40 rfl ?_
        refine y_geti C fl_X8_140 g1 dX8_next_41 ?_
        refine y_iconst C dX8_next_44 kc_1 ?_
        refine y_iadd C dX8_next_45 ?_
        obtain ⟨M6, eM6, h⟩ := ob h
        have eM6 := Option.some.inj eM6
        refine y_puti C fl_X8_140 rfl g1 rfl rfl dX8_next_46 eM6 ?_
        refine y_goto C dX8_next_49 (tgt := 0) rfl ?_
        exact y_sel [0] rfl (ih _ _  h hX)
      · have h := itF c5 h
        refine y_aload_n C dX8_next_25 rfl ?_
        refine y_getr C fl_X8_26 g1 hq3 dX8_next_26 ?_
        refine y_aload_n C dX8_next_29 rfl ?_
        refine y_geti C fl_X8_140 g1 dX8_next_30 ?_
        refine y_iald C g4 dX8_next_33 ?_
        refine y_bipush C dX8_next_34 kb_10 ?_
        refine y_icmp_ne C dX8_next_36 (tgt := 52) rfl (fun c7 => ?_) (fun c7 => ?_)
        · have h := itF c7 h
          have e0 := Option.some.inj h
          subst e0
          exact y_sel [0] rfl hX
        · have h := itT c7 h
          refine y_aload_n C dX8_next_39 rfl ?_
          refine y_dup C dX8_next_40 rfl ?_
          refine y_geti C fl_X8_140 g1 dX8_next_41 ?_
          refine y_iconst C dX8_next_44 kc_1 ?_
          refine y_iadd C dX8_next_45 ?_
          obtain ⟨M8, eM8, h⟩ := ob h
          have eM8 := Option.some.inj eM8
          refine y_puti C fl_X8_140 rfl g1 rfl rfl dX8_next_46 eM8 ?_
          refine y_goto C dX8_next_49 (tgt := 0) rfl ?_
          exact y_sel [0] rfl (ih _ _  h hX)
def b_X8_next_230 (K : yK) (t : Nat) : Nat → yM → Int32 → Option (Int32 × yM)
  | 0, _, _ => none
  | n + 1, M, u230_2 => (if gO K t 7 = true then (if (M t 12) ≤ (M t 28) then (some (u230_2, M)) else (Option.bind (K.2.2 t 11) fun q3 => (if gA K q3 (M t 28) = true then (Option.bind (b_X8_in K M ((M q3 ((M t 28)).toNatClampNeg)) ((48 : Int32)) ((57 : Int32))) fun r5 => (if r5 = true then (Option.bind (if (4 : Int32) ≤ u230_2 then (some (0 : Int32)) else (some ((((10 : Int32) * (M t 31)) + (M q3 ((M t 28)).toNatClampNeg)) - (48 : Int32)))) fun j8 => (Option.bind (some (yS M t 31 j8)) fun M9 => (Option.bind (some (u230_2 + (1 : Int32))) fun v10 => (Option.bind (some (yS M9 t 28 ((M9 t 28) + (1 : Int32)))) fun M11 => (b_X8_next_230 K t n M11 v10))))) else (some (u230_2, M)))) else none))) else none)
set_option maxHeartbeats 4000000 in
set_option maxRecDepth 100000 in
theorem l_X8_next_230 {X : yX} {K : yK} {t : Nat} (C : yCx X cX8_next RX8 "next" rm_X8_next 3) : ∀ (n : Nat) (M : yM) (u230_2 : Int32) (x : (Int32 × yM)), b_X8_next_230 K t n M u230_2 = some x → ∀ (hX : Y X K x.2 0 0 309 [(0, .ref t), (2, .int x.1)] []), Y X K M 0 0 230 [(0, .ref t), (2, .int u230_2)] [] := by
  intro n
  induction n with
  | zero =>
    intro M u230_2 x h
    exact nomatch (show (none : Option _) = some x from h)
  | succ n ih =>
    intro M u230_2 x h hX
    rw [b_X8_next_230] at h
    refine y_aload_n C dX8_next_230 rfl ?_
    obtain ⟨g1, h⟩ := gd h
    refine y_geti C fl_X8_140 g1 dX8_next_231 ?_
    refine y_aload_n C dX8_next_234 rfl ?_
    refine y_geti C fl_X8_80 g1 dX8_next_235 ?_
    refine y_icmp_ge C dX8_next_238 (tgt := 309) rfl (fun c2 => ?_) (fun c2 => ?_)
    · have h := itT c2 h
      have e0 := Option.some.inj h
      subst e0
      exact y_sel [0, 2] rfl hX
    · have h := itF c2 h
      refine y_aload_n C dX8_next_241 rfl ?_
      obtain ⟨q3, hq3, h⟩ := ob h
      refine y_getr C fl_X8_26 g1 hq3 dX8_next_242 ?_
      refine y_aload_n C dX8_next_245 rfl ?_
      refine y_geti C fl_X8_140 g1 dX8_next_246 ?_
      obtain ⟨g4, h⟩ := gd h
      refine y_iald C g4 dX8_next_249 ?_
      refine y_bipush C dX8_next_250 kb_48 ?_
      refine y_bipush C dX8_next_252 kb_57 ?_
      obtain ⟨r5, hr5, h⟩ := ob h
      refine y_cS C [.int (M q3 ((M t 28)).toNatClampNeg), .int (48 : Int32), .int (57 : Int32)] (m_X8_in K M ((M q3 ((M t 28)).toNatClampNeg)) ((48 : Int32)) ((57 : Int32))) hr5 cw_X8_90 rfl (by decide) ⟨rfl, rfl⟩ ⟨Nat.zero_le _, Nat.zero_le _⟩ (Nat.le_of_ble_eq_true rfl) rfl rfl rfl dX8_next_254 ?_
      refine y_ifeqB C dX8_next_257 (tgt := 309) rfl (fun c6 => ?_) (fun c6 => ?_)
      · have h := itFb c6 h
        have e0 := Option.some.inj h
        subst e0
        exact y_sel [0, 2] rfl hX
      · have h := itT c6 h
        refine y_aload_n C dX8_next_260 rfl ?_
        refine y_iload_n C dX8_next_261 rfl ?_
        refine y_iconst C dX8_next_262 kc_4 ?_
        obtain ⟨j8, hj8, h⟩ := ob h
        have hJj8 : Y X K M 0 0 290 [(0, .ref t), (2, .int u230_2)] [.int j8, .ref t] := by
          obtain ⟨M9, eM9, h⟩ := ob h
          have eM9 := Option.some.inj eM9
          refine y_puti C fl_X8_149 rfl g1 rfl rfl dX8_next_290 eM9 ?_
          obtain ⟨v10, ev10, h⟩ := ob h
          have ev10 := Option.some.inj ev10
          refine y_iinc C dX8_next_293 (by decide) rfl (v := v10) (by subst ev10; rfl) (L' := [(2, .int v10), (0, .ref t)]) rfl ?_
          refine y_aload_n C dX8_next_296 rfl ?_
          refine y_dup C dX8_next_297 rfl ?_
          refine y_geti C fl_X8_140 g1 dX8_next_298 ?_
          refine y_iconst C dX8_next_301 kc_1 ?_
          refine y_iadd C dX8_next_302 ?_
          obtain ⟨M11, eM11, h⟩ := ob h
          have eM11 := Option.some.inj eM11
          refine y_puti C fl_X8_140 rfl g1 rfl rfl dX8_next_303 eM11 ?_
          refine y_goto C dX8_next_306 (tgt := 230) rfl ?_
          exact y_sel [0, 2] rfl (ih _ _ _  h hX)
        replace h := hj8
        refine y_icmp_ge C dX8_next_263 (tgt := 289) rfl (fun c7 => ?_) (fun c7 => ?_)
        · have h := itT c7 h
          refine y_iconst C dX8_next_289 kc_0 ?_
          have e0 := Option.some.inj h
          subst e0
          exact y_sel [0, 2] rfl hJj8
        · have h := itF c7 h
          refine y_bipush C dX8_next_266 kb_10 ?_
          refine y_aload_n C dX8_next_268 rfl ?_
          refine y_geti C fl_X8_149 g1 dX8_next_269 ?_
          refine y_imul C dX8_next_272 ?_
          refine y_aload_n C dX8_next_273 rfl ?_
          refine y_getr C fl_X8_26 g1 hq3 dX8_next_274 ?_
          refine y_aload_n C dX8_next_277 rfl ?_
          refine y_geti C fl_X8_140 g1 dX8_next_278 ?_
          refine y_iald C g4 dX8_next_281 ?_
          refine y_iadd C dX8_next_282 ?_
          refine y_bipush C dX8_next_283 kb_48 ?_
          refine y_isub C dX8_next_285 ?_
          refine y_goto C dX8_next_286 (tgt := 290) rfl ?_
          have e0 := Option.some.inj h
          subst e0
          exact y_sel [0, 2] rfl hJj8
def b_X8_next_103 (K : yK) (t : Nat) : Nat → yM → Option yM
  | 0, _ => none
  | n + 1, M => (if gO K t 7 = true then (if (M t 12) ≤ (M t 28) then (some M) else (Option.bind (K.2.2 t 11) fun q3 => (if gA K q3 (M t 28) = true then (Option.bind (b_X8_in K M ((M q3 ((M t 28)).toNatClampNeg)) ((97 : Int32)) ((122 : Int32))) fun r5 => (if r5 = true then (Option.bind (some (yS M t 28 ((M t 28) + (1 : Int32)))) fun M7 => (b_X8_next_103 K t n M7)) else (some M))) else none))) else none)
set_option maxHeartbeats 4000000 in
set_option maxRecDepth 100000 in
theorem l_X8_next_103 {X : yX} {K : yK} {t : Nat} (C : yCx X cX8_next RX8 "next" rm_X8_next 3) : ∀ (n : Nat) (M : yM) (x : yM), b_X8_next_103 K t n M = some x → ∀ (hX : Y X K x 0 0 146 [(0, .ref t)] []), Y X K M 0 0 103 [(0, .ref t)] [] := by
  intro n
  induction n with
  | zero =>
    intro M x h
    exact nomatch (show (none : Option _) = some x from h)
  | succ n ih =>
    intro M x h hX
    rw [b_X8_next_103] at h
    refine y_aload_n C dX8_next_103 rfl ?_
    obtain ⟨g1, h⟩ := gd h
    refine y_geti C fl_X8_140 g1 dX8_next_104 ?_
    refine y_aload_n C dX8_next_107 rfl ?_
    refine y_geti C fl_X8_80 g1 dX8_next_108 ?_
    refine y_icmp_ge C dX8_next_111 (tgt := 146) rfl (fun c2 => ?_) (fun c2 => ?_)
    · have h := itT c2 h
      have e0 := Option.some.inj h
      subst e0
      exact y_sel [0] rfl hX
    · have h := itF c2 h
      refine y_aload_n C dX8_next_114 rfl ?_
      obtain ⟨q3, hq3, h⟩ := ob h
      refine y_getr C fl_X8_26 g1 hq3 dX8_next_115 ?_
      refine y_aload_n C dX8_next_118 rfl ?_
      refine y_geti C fl_X8_140 g1 dX8_next_119 ?_
      obtain ⟨g4, h⟩ := gd h
      refine y_iald C g4 dX8_next_122 ?_
      refine y_bipush C dX8_next_123 kb_97 ?_
      refine y_bipush C dX8_next_125 kb_122 ?_
      obtain ⟨r5, hr5, h⟩ := ob h
      refine y_cS C [.int (M q3 ((M t 28)).toNatClampNeg), .int (97 : Int32), .int (122 : Int32)] (m_X8_in K M ((M q3 ((M t 28)).toNatClampNeg)) ((97 : Int32)) ((122 : Int32))) hr5 cw_X8_90 rfl (by decide) ⟨rfl, rfl⟩ ⟨Nat.zero_le _, Nat.zero_le _⟩ (Nat.le_of_ble_eq_true rfl) rfl rfl rfl dX8_next_127 ?_
      refine y_ifeqB C dX8_next_130 (tgt := 146) rfl (fun c6 => ?_) (fun c6 => ?_)
      · have h := itFb c6 h
        have e0 := Option.some.inj h
        subst e0
        exact y_sel [0] rfl hX
      · have h := itT c6 h
        refine y_aload_n C dX8_next_133 rfl ?_
        refine y_dup C dX8_next_134 rfl ?_
        refine y_geti C fl_X8_140 g1 dX8_next_135 ?_
        refine y_iconst C dX8_next_138 kc_1 ?_
        refine y_iadd C dX8_next_139 ?_
        obtain ⟨M7, eM7, h⟩ := ob h
        have eM7 := Option.some.inj eM7
        refine y_puti C fl_X8_140 rfl g1 rfl rfl dX8_next_140 eM7 ?_
        refine y_goto C dX8_next_143 (tgt := 103) rfl ?_
        exact y_sel [0] rfl (ih _ _  h hX)
set_option maxRecDepth 100000 in
def b_X8_next (K : yK) (M : yM) (t : Nat) : Option yM := (Option.bind (b_X8_next_0 K t 1000 M) fun j1 => (if gO K t 7 = true then (Option.bind (some (yS j1 t 29 (j1 t 28))) fun M3 => (Option.bind (some (yS M3 t 30 (0 : Int32))) fun M4 => (Option.bind (some (yS M4 t 31 (0 : Int32))) fun M5 => (if (M5 t 28) = (M5 t 12) then (some M5) else (Option.bind (K.2.2 t 11) fun q7 => (if gA K q7 (M5 t 28) = true then (Option.bind (some (M5 q7 ((M5 t 28)).toNatClampNeg)) fun v9 => (Option.bind (b_X8_in K M5 v9 ((97 : Int32)) ((122 : Int32))) fun r10 => (if r10 = true then (Option.bind (b_X8_next_103 K t 1000 M5) fun j31 => (Option.bind (b_X8_wordFrom K j31 t ((j31 t 29)) ((j31 t 28))) fun r32 => (Option.bind (if (3 : Int32) ≤ r32 then (if (9 : Int32) ≤ r32 then (if r32 = (12 : Int32) then (some (-1 : Int32)) else (some (((4 : Int32) + r32) - (9 : Int32)))) else (some (2 : Int32))) else (some (3 : Int32))) fun j34 => (Option.bind (some (yS j31 t 30 j34)) fun M37 => (Option.bind (if (3 : Int32) ≤ r32 then (some (r32 - (3 : Int32))) else (some r32)) fun j39 => (Option.bind (some (yS M37 t 31 j39)) fun M40 => (some M40))))))) else (Option.bind (b_X8_in K M5 v9 ((48 : Int32)) ((57 : Int32))) fun r12 => (if r12 = true then (Option.bind (b_X8_next_230 K t 1000 M5 ((0 : Int32))) fun j27 => (Option.bind (if j27.1 ≤ (4 : Int32) then (some (1 : Int32)) else (some (-1 : Int32))) fun j29 => (Option.bind (some (yS j27.2 t 30 j29)) fun M30 => (some M30)))) else (Option.bind (if v9 = (40 : Int32) then (some true) else (if v9 = (41 : Int32) then (some true) else (if v9 = (59 : Int32) then (some true) else (if v9 = (43 : Int32) then (some true) else (if v9 = (45 : Int32) then (some true) else (if v9 = (42 : Int32) then (some true) else (if v9 = (60 : Int32) then (some true) else (if v9 = (61 : Int32) then (some true) else (some false))))))))) fun j15 => (Option.bind (if j15 = true then (some v9) else (some (-1 : Int32))) fun j24 => (Option.bind (some (yS M5 t 30 j24)) fun M25 => (Option.bind (some (yS M25 t 28 ((M25 t 28) + (1 : Int32)))) fun M26 => (some M26)))))))))) else none)))))) else none))
set_option maxHeartbeats 4000000 in
set_option maxRecDepth 100000 in
theorem m_X8_next (K : yK) (M : yM) (t : Nat) : yMet yX8_next cX8_next 3 none rm_X8_next K M [.ref t] (b_X8_next K M t) (yGv K) := by
  refine yM_intro (by decide) (Nat.le_of_ble_eq_true rfl) (fun X r h C E => ?_)
  replace C : yCx X cX8_next RX8 "next" rm_X8_next 3 := C
  show Y X K M 0 0 0 [(0, .ref t)] []
  unfold b_X8_next at h
  obtain ⟨j1, hj1, h⟩ := ob h
  refine y_sel [0] rfl (l_X8_next_0 C 1000 _ _ hj1 ?_)
  refine y_aload_n C dX8_next_52 rfl ?_
  refine y_aload_n C dX8_next_53 rfl ?_
  obtain ⟨g2, h⟩ := gd h
  refine y_geti C fl_X8_140 g2 dX8_next_54 ?_
  obtain ⟨M3, eM3, h⟩ := ob h
  have eM3 := Option.some.inj eM3
  refine y_puti C fl_X8_143 rfl g2 rfl rfl dX8_next_57 eM3 ?_
  refine y_aload_n C dX8_next_60 rfl ?_
  refine y_iconst C dX8_next_61 kc_0 ?_
  obtain ⟨M4, eM4, h⟩ := ob h
  have eM4 := Option.some.inj eM4
  refine y_puti C fl_X8_146 rfl g2 rfl rfl dX8_next_62 eM4 ?_
  refine y_aload_n C dX8_next_65 rfl ?_
  refine y_iconst C dX8_next_66 kc_0 ?_
  obtain ⟨M5, eM5, h⟩ := ob h
  have eM5 := Option.some.inj eM5
  refine y_puti C fl_X8_149 rfl g2 rfl rfl dX8_next_67 eM5 ?_
  refine y_aload_n C dX8_next_70 rfl ?_
  refine y_geti C fl_X8_140 g2 dX8_next_71 ?_
  refine y_aload_n C dX8_next_74 rfl ?_
  refine y_geti C fl_X8_80 g2 dX8_next_75 ?_
  refine y_icmp_ne C dX8_next_78 (tgt := 82) rfl (fun c6 => ?_) (fun c6 => ?_)
  · have h := itF c6 h
    refine y_aload_n C dX8_next_82 rfl ?_
    obtain ⟨q7, hq7, h⟩ := ob h
    refine y_getr C fl_X8_26 g2 hq7 dX8_next_83 ?_
    refine y_aload_n C dX8_next_86 rfl ?_
    refine y_geti C fl_X8_140 g2 dX8_next_87 ?_
    obtain ⟨g8, h⟩ := gd h
    refine y_iald C g8 dX8_next_90 ?_
    obtain ⟨v9, ev9, h⟩ := ob h
    have ev9 := Option.some.inj ev9
    refine y_istore_n C dX8_next_91 (by decide) (L' := [(1, .int v9), (0, .ref t)]) (by subst ev9; rfl) ?_
    refine y_iload_n C dX8_next_92 rfl ?_
    refine y_bipush C dX8_next_93 kb_97 ?_
    refine y_bipush C dX8_next_95 kb_122 ?_
    obtain ⟨r10, hr10, h⟩ := ob h
    refine y_cS C [.int v9, .int (97 : Int32), .int (122 : Int32)] (m_X8_in K M5 v9 ((97 : Int32)) ((122 : Int32))) hr10 cw_X8_90 rfl (by decide) ⟨rfl, rfl⟩ ⟨Nat.zero_le _, Nat.zero_le _⟩ (Nat.le_of_ble_eq_true rfl) rfl rfl rfl dX8_next_97 ?_
    refine y_ifeqB C dX8_next_100 (tgt := 217) rfl (fun c11 => ?_) (fun c11 => ?_)
    · have h := itFb c11 h
      refine y_iload_n C dX8_next_217 rfl ?_
      refine y_bipush C dX8_next_218 kb_48 ?_
      refine y_bipush C dX8_next_220 kb_57 ?_
      obtain ⟨r12, hr12, h⟩ := ob h
      refine y_cS C [.int v9, .int (48 : Int32), .int (57 : Int32)] (m_X8_in K M5 v9 ((48 : Int32)) ((57 : Int32))) hr12 cw_X8_90 rfl (by decide) ⟨rfl, rfl⟩ ⟨Nat.zero_le _, Nat.zero_le _⟩ (Nat.le_of_ble_eq_true rfl) rfl rfl rfl dX8_next_222 ?_
      refine y_ifeqB C dX8_next_225 (tgt := 326) rfl (fun c13 => ?_) (fun c13 => ?_)
      · have h := itFb c13 h
        refine y_iload_n C dX8_next_326 rfl ?_
        refine y_bipush C dX8_next_327 kb_40 ?_
        obtain ⟨j15, hj15, h⟩ := ob h
        have hJj15 : Y X K M5 0 0 379 [(1, .int v9), (0, .ref t)] [.int (bI j15)] := by
          refine y_istore_n C dX8_next_379 (by decide) (L' := [(2, .int (bI j15)), (1, .int v9), (0, .ref t)]) rfl ?_
          refine y_aload_n C dX8_next_380 rfl ?_
          refine y_iload_n C dX8_next_381 rfl ?_
          obtain ⟨j24, hj24, h⟩ := ob h
          have hJj24 : Y X K M5 0 0 390 [(0, .ref t)] [.int j24, .ref t] := by
            obtain ⟨M25, eM25, h⟩ := ob h
            have eM25 := Option.some.inj eM25
            refine y_puti C fl_X8_146 rfl g2 rfl rfl dX8_next_390 eM25 ?_
            refine y_aload_n C dX8_next_393 rfl ?_
            refine y_dup C dX8_next_394 rfl ?_
            refine y_geti C fl_X8_140 g2 dX8_next_395 ?_
            refine y_iconst C dX8_next_398 kc_1 ?_
            refine y_iadd C dX8_next_399 ?_
            obtain ⟨M26, eM26, h⟩ := ob h
            have eM26 := Option.some.inj eM26
            refine y_puti C fl_X8_140 rfl g2 rfl rfl dX8_next_400 eM26 ?_
            have e0 := Option.some.inj h
            subst e0
            exact y_vret C E (Nat.zero_le _) (Nat.zero_le _) dX8_next_403
          replace h := hj24
          refine y_ifeqB C dX8_next_382 (tgt := 389) rfl (fun c23 => ?_) (fun c23 => ?_)
          · have h := itFb c23 h
            refine y_iconst C dX8_next_389 kc_m1 ?_
            have e0 := Option.some.inj h
            subst e0
            exact y_sel [0] rfl hJj24
          · have h := itT c23 h
            refine y_iload_n C dX8_next_385 rfl ?_
            refine y_goto C dX8_next_386 (tgt := 390) rfl ?_
            have e0 := Option.some.inj h
            subst e0
            exact y_sel [0] rfl hJj24
        replace h := hj15
        refine y_icmp_eq C dX8_next_329 (tgt := 374) rfl (fun c14 => ?_) (fun c14 => ?_)
        · have h := itT c14 h
          refine y_iconst C dX8_next_374 kc_1 ?_
          refine y_goto C dX8_next_375 (tgt := 379) rfl ?_
          have e0 := Option.some.inj h
          subst e0
          exact y_sel [1, 0] rfl hJj15
        · have h := itF c14 h
          refine y_iload_n C dX8_next_332 rfl ?_
          refine y_bipush C dX8_next_333 kb_41 ?_
          refine y_icmp_eq C dX8_next_335 (tgt := 374) rfl (fun c16 => ?_) (fun c16 => ?_)
          · have h := itT c16 h
            refine y_iconst C dX8_next_374 kc_1 ?_
            refine y_goto C dX8_next_375 (tgt := 379) rfl ?_
            have e0 := Option.some.inj h
            subst e0
            exact y_sel [1, 0] rfl hJj15
          · have h := itF c16 h
            refine y_iload_n C dX8_next_338 rfl ?_
            refine y_bipush C dX8_next_339 kb_59 ?_
            refine y_icmp_eq C dX8_next_341 (tgt := 374) rfl (fun c17 => ?_) (fun c17 => ?_)
            · have h := itT c17 h
              refine y_iconst C dX8_next_374 kc_1 ?_
              refine y_goto C dX8_next_375 (tgt := 379) rfl ?_
              have e0 := Option.some.inj h
              subst e0
              exact y_sel [1, 0] rfl hJj15
            · have h := itF c17 h
              refine y_iload_n C dX8_next_344 rfl ?_
              refine y_bipush C dX8_next_345 kb_43 ?_
              refine y_icmp_eq C dX8_next_347 (tgt := 374) rfl (fun c18 => ?_) (fun c18 => ?_)
              · have h := itT c18 h
                refine y_iconst C dX8_next_374 kc_1 ?_
                refine y_goto C dX8_next_375 (tgt := 379) rfl ?_
                have e0 := Option.some.inj h
                subst e0
                exact y_sel [1, 0] rfl hJj15
              · have h := itF c18 h
                refine y_iload_n C dX8_next_350 rfl ?_
                refine y_bipush C dX8_next_351 kb_45 ?_
                refine y_icmp_eq C dX8_next_353 (tgt := 374) rfl (fun c19 => ?_) (fun c19 => ?_)
                · have h := itT c19 h
                  refine y_iconst C dX8_next_374 kc_1 ?_
                  refine y_goto C dX8_next_375 (tgt := 379) rfl ?_
                  have e0 := Option.some.inj h
                  subst e0
                  exact y_sel [1, 0] rfl hJj15
                · have h := itF c19 h
                  refine y_iload_n C dX8_next_356 rfl ?_
                  refine y_bipush C dX8_next_357 kb_42 ?_
                  refine y_icmp_eq C dX8_next_359 (tgt := 374) rfl (fun c20 => ?_) (fun c20 => ?_)
                  · have h := itT c20 h
                    refine y_iconst C dX8_next_374 kc_1 ?_
                    refine y_goto C dX8_next_375 (tgt := 379) rfl ?_
                    have e0 := Option.some.inj h
                    subst e0
                    exact y_sel [1, 0] rfl hJj15
                  · have h := itF c20 h
                    refine y_iload_n C dX8_next_362 rfl ?_
                    refine y_bipush C dX8_next_363 kb_60 ?_
                    refine y_icmp_eq C dX8_next_365 (tgt := 374) rfl (fun c21 => ?_) (fun c21 => ?_)
                    · have h := itT c21 h
                      refine y_iconst C dX8_next_374 kc_1 ?_
                      refine y_goto C dX8_next_375 (tgt := 379) rfl ?_
                      have e0 := Option.some.inj h
                      subst e0
                      exact y_sel [1, 0] rfl hJj15
                    · have h := itF c21 h
                      refine y_iload_n C dX8_next_368 rfl ?_
                      refine y_bipush C dX8_next_369 kb_61 ?_
                      refine y_icmp_ne C dX8_next_371 (tgt := 378) rfl (fun c22 => ?_) (fun c22 => ?_)
                      · have h := itF c22 h
                        refine y_iconst C dX8_next_378 kc_0 ?_
                        have e0 := Option.some.inj h
                        subst e0
                        exact y_sel [1, 0] rfl hJj15
                      · have h := itT c22 h
                        refine y_iconst C dX8_next_374 kc_1 ?_
                        refine y_goto C dX8_next_375 (tgt := 379) rfl ?_
                        have e0 := Option.some.inj h
                        subst e0
                        exact y_sel [1, 0] rfl hJj15
      · have h := itT c13 h
        refine y_iconst C dX8_next_228 kc_0 ?_
        refine y_istore_n C dX8_next_229 (by decide) (L' := [(2, .int (0)), (1, .int v9), (0, .ref t)]) rfl ?_
        obtain ⟨j27, hj27, h⟩ := ob h
        refine y_sel [0, 2] rfl (l_X8_next_230 C 1000 _ _ _ hj27 ?_)
        refine y_aload_n C dX8_next_309 rfl ?_
        refine y_iload_n C dX8_next_310 rfl ?_
        refine y_iconst C dX8_next_311 kc_4 ?_
        obtain ⟨j29, hj29, h⟩ := ob h
        have hJj29 : Y X K j27.2 0 0 320 [] [.int j29, .ref t] := by
          obtain ⟨M30, eM30, h⟩ := ob h
          have eM30 := Option.some.inj eM30
          refine y_puti C fl_X8_146 rfl g2 rfl rfl dX8_next_320 eM30 ?_
          refine y_goto C dX8_next_323 (tgt := 403) rfl ?_
          have e0 := Option.some.inj h
          subst e0
          exact y_vret C E (Nat.zero_le _) (Nat.zero_le _) dX8_next_403
        replace h := hj29
        refine y_icmp_le C dX8_next_312 (tgt := 319) rfl (fun c28 => ?_) (fun c28 => ?_)
        · have h := itT c28 h
          refine y_iconst C dX8_next_319 kc_1 ?_
          have e0 := Option.some.inj h
          subst e0
          exact y_sel [] rfl hJj29
        · have h := itF c28 h
          refine y_iconst C dX8_next_315 kc_m1 ?_
          refine y_goto C dX8_next_316 (tgt := 320) rfl ?_
          have e0 := Option.some.inj h
          subst e0
          exact y_sel [] rfl hJj29
    · have h := itT c11 h
      obtain ⟨j31, hj31, h⟩ := ob h
      refine y_sel [0] rfl (l_X8_next_103 C 1000 _ _ hj31 ?_)
      refine y_aload_n C dX8_next_146 rfl ?_
      refine y_aload_n C dX8_next_147 rfl ?_
      refine y_geti C fl_X8_143 g2 dX8_next_148 ?_
      refine y_aload_n C dX8_next_151 rfl ?_
      refine y_geti C fl_X8_140 g2 dX8_next_152 ?_
      obtain ⟨r32, hr32, h⟩ := ob h
      refine y_cV C [.int (j31 t 29), .int (j31 t 28)] (m_X8_wordFrom K j31 t ((j31 t 29)) ((j31 t 28))) hr32 g2 cw_X8_152 rfl (by decide) ⟨rfl, rfl⟩ ⟨Nat.zero_le _, Nat.zero_le _⟩ (Nat.le_of_ble_eq_true rfl) rfl rfl rfl dX8_next_155 ?_
      refine y_istore_n C dX8_next_158 (by decide) (L' := [(2, .int r32), (0, .ref t)]) rfl ?_
      refine y_aload_n C dX8_next_159 rfl ?_
      refine y_iload_n C dX8_next_160 rfl ?_
      refine y_iconst C dX8_next_161 kc_3 ?_
      obtain ⟨j34, hj34, h⟩ := ob h
      have hJj34 : Y X K j31 0 0 195 [(2, .int r32), (0, .ref t)] [.int j34, .ref t] := by
        obtain ⟨M37, eM37, h⟩ := ob h
        have eM37 := Option.some.inj eM37
        refine y_puti C fl_X8_146 rfl g2 rfl rfl dX8_next_195 eM37 ?_
        refine y_aload_n C dX8_next_198 rfl ?_
        refine y_iload_n C dX8_next_199 rfl ?_
        refine y_iconst C dX8_next_200 kc_3 ?_
        obtain ⟨j39, hj39, h⟩ := ob h
        have hJj39 : Y X K M37 0 0 211 [] [.int j39, .ref t] := by
          obtain ⟨M40, eM40, h⟩ := ob h
          have eM40 := Option.some.inj eM40
          refine y_puti C fl_X8_149 rfl g2 rfl rfl dX8_next_211 eM40 ?_
          refine y_goto C dX8_next_214 (tgt := 403) rfl ?_
          have e0 := Option.some.inj h
          subst e0
          exact y_vret C E (Nat.zero_le _) (Nat.zero_le _) dX8_next_403
        replace h := hj39
        refine y_icmp_ge C dX8_next_201 (tgt := 208) rfl (fun c38 => ?_) (fun c38 => ?_)
        · have h := itT c38 h
          refine y_iload_n C dX8_next_208 rfl ?_
          refine y_iconst C dX8_next_209 kc_3 ?_
          refine y_isub C dX8_next_210 ?_
          have e0 := Option.some.inj h
          subst e0
          exact y_sel [] rfl hJj39
        · have h := itF c38 h
          refine y_iload_n C dX8_next_204 rfl ?_
          refine y_goto C dX8_next_205 (tgt := 211) rfl ?_
          have e0 := Option.some.inj h
          subst e0
          exact y_sel [] rfl hJj39
      replace h := hj34
      refine y_icmp_ge C dX8_next_162 (tgt := 169) rfl (fun c33 => ?_) (fun c33 => ?_)
      · have h := itT c33 h
        refine y_iload_n C dX8_next_169 rfl ?_
        refine y_bipush C dX8_next_170 kb_9 ?_
        refine y_icmp_ge C dX8_next_172 (tgt := 179) rfl (fun c35 => ?_) (fun c35 => ?_)
        · have h := itT c35 h
          refine y_iload_n C dX8_next_179 rfl ?_
          refine y_bipush C dX8_next_180 kb_12 ?_
          refine y_icmp_ne C dX8_next_182 (tgt := 189) rfl (fun c36 => ?_) (fun c36 => ?_)
          · have h := itF c36 h
            refine y_iconst C dX8_next_189 kc_4 ?_
            refine y_iload_n C dX8_next_190 rfl ?_
            refine y_iadd C dX8_next_191 ?_
            refine y_bipush C dX8_next_192 kb_9 ?_
            refine y_isub C dX8_next_194 ?_
            have e0 := Option.some.inj h
            subst e0
            exact y_sel [2, 0] rfl hJj34
          · have h := itT c36 h
            refine y_iconst C dX8_next_185 kc_m1 ?_
            refine y_goto C dX8_next_186 (tgt := 195) rfl ?_
            have e0 := Option.some.inj h
            subst e0
            exact y_sel [2, 0] rfl hJj34
        · have h := itF c35 h
          refine y_iconst C dX8_next_175 kc_2 ?_
          refine y_goto C dX8_next_176 (tgt := 195) rfl ?_
          have e0 := Option.some.inj h
          subst e0
          exact y_sel [2, 0] rfl hJj34
      · have h := itF c33 h
        refine y_iconst C dX8_next_165 kc_3 ?_
        refine y_goto C dX8_next_166 (tgt := 195) rfl ?_
        have e0 := Option.some.inj h
        subst e0
        exact y_sel [2, 0] rfl hJj34
  · have h := itT c6 h
    have e0 := Option.some.inj h
    subst e0
    exact y_vret C E (Nat.zero_le _) (Nat.zero_le _) dX8_next_81
set_option maxRecDepth 100000 in
def b_X8_opensOne (K : yK) (M : yM) (t : Nat) (x1 : Int32) : Option (Bool × yM) := (if gO K t 7 = true then (if (M t 35) = (5 : Int32) then (some (false, M)) else (Option.bind (some (yS M t 35 ((M t 35) + (1 : Int32)))) fun M3 => (Option.bind (b_X8_holds K M3 t x1) fun r4 => (some (true, r4))))) else none)
set_option maxHeartbeats 4000000 in
set_option maxRecDepth 100000 in
theorem m_X8_opensOne (K : yK) (M : yM) (t : Nat) (x1 : Int32) : yMet yX8_opensOne cX8_opensOne 2 (Option.some Jvm.ClassFile.FieldType.boolean) rm_X8_opensOne K M [.ref t, .int x1] (b_X8_opensOne K M t x1) (yGb K) := by
  refine yM_intro (by decide) (Nat.le_of_ble_eq_true rfl) (fun X r h C E => ?_)
  replace C : yCx X cX8_opensOne RX8 "opensOne" rm_X8_opensOne 2 := C
  show Y X K M 0 0 0 [(0, .ref t), (1, .int x1)] []
  unfold b_X8_opensOne at h
  refine y_aload_n C dX8_opensOne_0 rfl ?_
  obtain ⟨g1, h⟩ := gd h
  refine y_geti C fl_X8_165 g1 dX8_opensOne_1 ?_
  refine y_iconst C dX8_opensOne_4 kc_5 ?_
  refine y_icmp_ne C dX8_opensOne_5 (tgt := 10) rfl (fun c2 => ?_) (fun c2 => ?_)
  · have h := itF c2 h
    refine y_aload_n C dX8_opensOne_10 rfl ?_
    refine y_dup C dX8_opensOne_11 rfl ?_
    refine y_geti C fl_X8_165 g1 dX8_opensOne_12 ?_
    refine y_iconst C dX8_opensOne_15 kc_1 ?_
    refine y_iadd C dX8_opensOne_16 ?_
    obtain ⟨M3, eM3, h⟩ := ob h
    have eM3 := Option.some.inj eM3
    refine y_puti C fl_X8_165 rfl g1 rfl rfl dX8_opensOne_17 eM3 ?_
    refine y_aload_n C dX8_opensOne_20 rfl ?_
    refine y_iload_n C dX8_opensOne_21 rfl ?_
    obtain ⟨r4, hr4, h⟩ := ob h
    refine y_cV C [.int x1] (m_X8_holds K M3 t x1) hr4 g1 cw_X8_172 rfl (by decide) ⟨rfl, rfl⟩ ⟨Nat.zero_le _, Nat.zero_le _⟩ (Nat.le_of_ble_eq_true rfl) rfl rfl rfl dX8_opensOne_22 ?_
    refine y_iconst C dX8_opensOne_25 kc_1 ?_
    have e0 := Option.some.inj h
    subst e0
    exact y_bret (b := true) C E (Nat.zero_le _) (Nat.zero_le _) dX8_opensOne_26
  · have h := itT c2 h
    refine y_iconst C dX8_opensOne_8 kc_0 ?_
    have e0 := Option.some.inj h
    subst e0
    exact y_bret (b := false) C E (Nat.zero_le _) (Nat.zero_le _) dX8_opensOne_9
set_option maxRecDepth 100000 in
def b_X8_signOf (K : yK) (M : yM) (t : Nat) : Option Int32 := (if gO K t 7 = true then (if (M t 30) = (4 : Int32) then (some (11 : Int32)) else (if (M t 30) = (5 : Int32) then (some (12 : Int32)) else (if (M t 30) = (60 : Int32) then (some (14 : Int32)) else (if (M t 30) = (61 : Int32) then (some (15 : Int32)) else (if (M t 30) = (43 : Int32) then (some (16 : Int32)) else (if (M t 30) = (45 : Int32) then (some (17 : Int32)) else (if (M t 30) = (42 : Int32) then (some (18 : Int32)) else (some (-1 : Int32))))))))) else none)
set_option maxHeartbeats 4000000 in
set_option maxRecDepth 100000 in
theorem m_X8_signOf (K : yK) (M : yM) (t : Nat) : yMet yX8_signOf cX8_signOf 1 (Option.some Jvm.ClassFile.FieldType.int) rm_X8_signOf K M [.ref t] (b_X8_signOf K M t) (yFi K M) := by
  refine yM_intro (by decide) (Nat.le_of_ble_eq_true rfl) (fun X r h C E => ?_)
  replace C : yCx X cX8_signOf RX8 "signOf" rm_X8_signOf 1 := C
  show Y X K M 0 0 0 [(0, .ref t)] []
  unfold b_X8_signOf at h
  refine y_aload_n C dX8_signOf_0 rfl ?_
  obtain ⟨g1, h⟩ := gd h
  refine y_geti C fl_X8_146 g1 dX8_signOf_1 ?_
  refine y_iconst C dX8_signOf_4 kc_4 ?_
  refine y_icmp_ne C dX8_signOf_5 (tgt := 13) rfl (fun c2 => ?_) (fun c2 => ?_)
  · have h := itF c2 h
    refine y_aload_n C dX8_signOf_13 rfl ?_
    refine y_geti C fl_X8_146 g1 dX8_signOf_14 ?_
    refine y_iconst C dX8_signOf_17 kc_5 ?_
    refine y_icmp_ne C dX8_signOf_18 (tgt := 26) rfl (fun c3 => ?_) (fun c3 => ?_)
    · have h := itF c3 h
      refine y_aload_n C dX8_signOf_26 rfl ?_
      refine y_geti C fl_X8_146 g1 dX8_signOf_27 ?_
      refine y_bipush C dX8_signOf_30 kb_60 ?_
      refine y_icmp_ne C dX8_signOf_32 (tgt := 40) rfl (fun c4 => ?_) (fun c4 => ?_)
      · have h := itF c4 h
        refine y_aload_n C dX8_signOf_40 rfl ?_
        refine y_geti C fl_X8_146 g1 dX8_signOf_41 ?_
        refine y_bipush C dX8_signOf_44 kb_61 ?_
        refine y_icmp_ne C dX8_signOf_46 (tgt := 54) rfl (fun c5 => ?_) (fun c5 => ?_)
        · have h := itF c5 h
          refine y_aload_n C dX8_signOf_54 rfl ?_
          refine y_geti C fl_X8_146 g1 dX8_signOf_55 ?_
          refine y_bipush C dX8_signOf_58 kb_43 ?_
          refine y_icmp_ne C dX8_signOf_60 (tgt := 68) rfl (fun c6 => ?_) (fun c6 => ?_)
          · have h := itF c6 h
            refine y_aload_n C dX8_signOf_68 rfl ?_
            refine y_geti C fl_X8_146 g1 dX8_signOf_69 ?_
            refine y_bipush C dX8_signOf_72 kb_45 ?_
            refine y_icmp_ne C dX8_signOf_74 (tgt := 82) rfl (fun c7 => ?_) (fun c7 => ?_)
            · have h := itF c7 h
              refine y_aload_n C dX8_signOf_82 rfl ?_
              refine y_geti C fl_X8_146 g1 dX8_signOf_83 ?_
              refine y_bipush C dX8_signOf_86 kb_42 ?_
              refine y_icmp_ne C dX8_signOf_88 (tgt := 96) rfl (fun c8 => ?_) (fun c8 => ?_)
              · have h := itF c8 h
                refine y_iconst C dX8_signOf_96 kc_m1 ?_
                have e0 := Option.some.inj h
                subst e0
                exact y_iret C E (Nat.zero_le _) (Nat.zero_le _) dX8_signOf_97
              · have h := itT c8 h
                refine y_bipush C dX8_signOf_91 kb_18 ?_
                refine y_goto C dX8_signOf_93 (tgt := 97) rfl ?_
                have e0 := Option.some.inj h
                subst e0
                exact y_iret C E (Nat.zero_le _) (Nat.zero_le _) dX8_signOf_97
            · have h := itT c7 h
              refine y_bipush C dX8_signOf_77 kb_17 ?_
              refine y_goto C dX8_signOf_79 (tgt := 97) rfl ?_
              have e0 := Option.some.inj h
              subst e0
              exact y_iret C E (Nat.zero_le _) (Nat.zero_le _) dX8_signOf_97
          · have h := itT c6 h
            refine y_bipush C dX8_signOf_63 kb_16 ?_
            refine y_goto C dX8_signOf_65 (tgt := 97) rfl ?_
            have e0 := Option.some.inj h
            subst e0
            exact y_iret C E (Nat.zero_le _) (Nat.zero_le _) dX8_signOf_97
        · have h := itT c5 h
          refine y_bipush C dX8_signOf_49 kb_15 ?_
          refine y_goto C dX8_signOf_51 (tgt := 97) rfl ?_
          have e0 := Option.some.inj h
          subst e0
          exact y_iret C E (Nat.zero_le _) (Nat.zero_le _) dX8_signOf_97
      · have h := itT c4 h
        refine y_bipush C dX8_signOf_35 kb_14 ?_
        refine y_goto C dX8_signOf_37 (tgt := 97) rfl ?_
        have e0 := Option.some.inj h
        subst e0
        exact y_iret C E (Nat.zero_le _) (Nat.zero_le _) dX8_signOf_97
    · have h := itT c3 h
      refine y_bipush C dX8_signOf_21 kb_12 ?_
      refine y_goto C dX8_signOf_23 (tgt := 97) rfl ?_
      have e0 := Option.some.inj h
      subst e0
      exact y_iret C E (Nat.zero_le _) (Nat.zero_le _) dX8_signOf_97
  · have h := itT c2 h
    refine y_bipush C dX8_signOf_8 kb_11 ?_
    refine y_goto C dX8_signOf_10 (tgt := 97) rfl ?_
    have e0 := Option.some.inj h
    subst e0
    exact y_iret C E (Nat.zero_le _) (Nat.zero_le _) dX8_signOf_97
def b_X8_eRead_14 (K : yK) (t : Nat) : Nat → yM → Bool → Bool → Option (yM ⊕ (Bool × yM))
  | 0, _, _, _ => none
  | n + 1, M, u14_1, u14_2 => (if gO K t 7 = true then (Option.bind (b_X8_next K M t) fun r2 => (if u14_1 = true then (if (r2 t 30) = (1 : Int32) then (Option.bind (if (r2 t 30) = (1 : Int32) then (some ((100000 : Int32) + (r2 t 31))) else (some (r2 t 31))) fun j19 => (Option.bind (b_X8_puts K r2 t j19) fun r20 => (Option.bind (b_X8_unwinds K r20 t ((7 : Int32))) fun r21 => (b_X8_eRead_14 K t n r21 false u14_2)))) else (if (r2 t 30) = (2 : Int32) then (Option.bind (if (r2 t 30) = (1 : Int32) then (some ((100000 : Int32) + (r2 t 31))) else (some (r2 t 31))) fun j40 => (Option.bind (b_X8_puts K r2 t j40) fun r41 => (Option.bind (b_X8_unwinds K r41 t ((7 : Int32))) fun r42 => (b_X8_eRead_14 K t n r42 false u14_2)))) else (if (r2 t 30) = (6 : Int32) then (if u14_2 = true then (Option.bind (b_X8_opensOne K r2 t ((13 : Int32))) fun r37 => (if r37.1 = true then (b_X8_eRead_14 K t n r37.2 u14_1 u14_2) else (some (.inr (false, r37.2))))) else (if (r2 t 30) = (45 : Int32) then (Option.bind (b_X8_opensOne K r2 t ((19 : Int32))) fun r35 => (if r35.1 = true then (b_X8_eRead_14 K t n r35.2 u14_1 false) else (some (.inr (false, r35.2))))) else (if (r2 t 30) = (40 : Int32) then (Option.bind (b_X8_opensOne K r2 t ((0 : Int32))) fun r33 => (if r33.1 = true then (b_X8_eRead_14 K t n r33.2 u14_1 true) else (some (.inr (false, r33.2))))) else (some (.inr (false, r2)))))) else (if (r2 t 30) = (45 : Int32) then (Option.bind (b_X8_opensOne K r2 t ((19 : Int32))) fun r28 => (if r28.1 = true then (b_X8_eRead_14 K t n r28.2 u14_1 false) else (some (.inr (false, r28.2))))) else (if (r2 t 30) = (40 : Int32) then (Option.bind (b_X8_opensOne K r2 t ((0 : Int32))) fun r26 => (if r26.1 = true then (b_X8_eRead_14 K t n r26.2 u14_1 true) else (some (.inr (false, r26.2))))) else (some (.inr (false, r2)))))))) else (if (r2 t 30) = (59 : Int32) then (some (.inl r2)) else (if (r2 t 30) = (41 : Int32) then (Option.bind (b_X8_unwinds K r2 t ((1 : Int32))) fun r12 => (if (r12 t 34) = 0 then (some (.inr (false, r12))) else (Option.bind (some (yS r12 t 34 ((r12 t 34) - (1 : Int32)))) fun M14 => (Option.bind (some (yS M14 t 35 ((M14 t 35) - (1 : Int32)))) fun M15 => (Option.bind (b_X8_unwinds K M15 t ((7 : Int32))) fun r16 => (b_X8_eRead_14 K t n r16 u14_1 u14_2)))))) else (Option.bind (b_X8_signOf K r2 t) fun r6 => (if r6 = (-1 : Int32) then (some (.inr (false, r2))) else (Option.bind (b_X8_between K r2 t r6) fun r8 => (if r8.1 = true then (Option.bind (if (12 : Int32) < r6 then (some false) else (some true)) fun j11 => (b_X8_eRead_14 K t n r8.2 true j11)) else (some (.inr (false, r8.2))))))))))) else none)
set_option maxHeartbeats 4000000 in
set_option maxRecDepth 100000 in
theorem l_X8_eRead_14 {X : yX} {K : yK} {K0 : yK} {M0 : yM} {t : Nat} (C : yCx X cX8_eRead RX8 "eRead" rm_X8_eRead 4) : ∀ (n : Nat) (M : yM) (u14_1 : Bool) (u14_2 : Bool) (x : (yM ⊕ (Bool × yM))), b_X8_eRead_14 K t n M u14_1 u14_2 = some x → ∀ (hX : ∀ x8, x = .inl x8 → Y X K x8 0 0 159 [(0, .ref t)] []), ∀ (hE : ∀ x9, x = .inr x9 → yRt X (Option.some Jvm.ClassFile.FieldType.boolean) K0 M0 ((yGb K) x9).1 ((yGb K) x9).2.1 ((yGb K) x9).2.2 0 0), Y X K M 0 0 14 [(0, .ref t), (1, .int (bI u14_1)), (2, .int (bI u14_2))] [] := by
  intro n
  induction n with
  | zero =>
    intro M u14_1 u14_2 x h
    exact nomatch (show (none : Option _) = some x from h)
  | succ n ih =>
    intro M u14_1 u14_2 x h hX hE
    rw [b_X8_eRead_14] at h
    refine y_aload_n C dX8_eRead_14 rfl ?_
    obtain ⟨g1, h⟩ := gd h
    obtain ⟨r2, hr2, h⟩ := ob h
    refine y_cV C [] (m_X8_next K M t) hr2 g1 cw_X8_178 rfl (by decide) ⟨rfl, rfl⟩ ⟨Nat.zero_le _, Nat.zero_le _⟩ (Nat.le_of_ble_eq_true rfl) rfl rfl rfl dX8_eRead_15 ?_
    refine y_iload_n C dX8_eRead_18 rfl ?_
    refine y_ifeqB C dX8_eRead_19 (tgt := 150) rfl (fun c3 => ?_) (fun c3 => ?_)
    · have h := itFb c3 h
      refine y_aload_n C dX8_eRead_150 rfl ?_
      refine y_geti C fl_X8_146 g1 dX8_eRead_151 ?_
      refine y_bipush C dX8_eRead_154 kb_59 ?_
      refine y_icmp_ne C dX8_eRead_156 (tgt := 177) rfl (fun c4 => ?_) (fun c4 => ?_)
      · have h := itF c4 h
        refine y_aload_n C dX8_eRead_177 rfl ?_
        refine y_geti C fl_X8_146 g1 dX8_eRead_178 ?_
        refine y_bipush C dX8_eRead_181 kb_41 ?_
        refine y_icmp_ne C dX8_eRead_183 (tgt := 229) rfl (fun c5 => ?_) (fun c5 => ?_)
        · have h := itF c5 h
          refine y_aload_n C dX8_eRead_229 rfl ?_
          obtain ⟨r6, hr6, h⟩ := ob h
          refine y_cV C [] (m_X8_signOf K r2 t) hr6 g1 cw_X8_185 rfl (by decide) ⟨rfl, rfl⟩ ⟨Nat.zero_le _, Nat.zero_le _⟩ (Nat.le_of_ble_eq_true rfl) rfl rfl rfl dX8_eRead_230 ?_
          refine y_istore_n C dX8_eRead_233 (by decide) (L' := [(3, .int r6), (0, .ref t), (1, .int (bI u14_1)), (2, .int (bI u14_2))]) rfl ?_
          refine y_iload_n C dX8_eRead_234 rfl ?_
          refine y_iconst C dX8_eRead_235 kc_m1 ?_
          refine y_icmp_eq C dX8_eRead_236 (tgt := 247) rfl (fun c7 => ?_) (fun c7 => ?_)
          · have h := itT c7 h
            refine y_iconst C dX8_eRead_247 kc_0 ?_
            have e0 := Option.some.inj h
            subst e0
            have E := hE _ rfl
            exact y_bret (b := false) C E (Nat.zero_le _) (Nat.zero_le _) dX8_eRead_248
          · have h := itF c7 h
            refine y_aload_n C dX8_eRead_239 rfl ?_
            refine y_iload_n C dX8_eRead_240 rfl ?_
            obtain ⟨r8, hr8, h⟩ := ob h
            refine y_cV C [.int r6] (m_X8_between K r2 t r6) hr8 g1 cw_X8_188 rfl (by decide) ⟨rfl, rfl⟩ ⟨Nat.zero_le _, Nat.zero_le _⟩ (Nat.le_of_ble_eq_true rfl) rfl rfl rfl dX8_eRead_241 ?_
            refine y_ifneB C dX8_eRead_244 (tgt := 249) rfl (fun c9 => ?_) (fun c9 => ?_)
            · have h := itT c9 h
              refine y_iconst C dX8_eRead_249 kc_1 ?_
              refine y_istore_n C dX8_eRead_250 (by decide) (L' := [(1, .int (1)), (3, .int r6), (0, .ref t), (2, .int (bI u14_2))]) rfl ?_
              refine y_iload_n C dX8_eRead_251 rfl ?_
              refine y_bipush C dX8_eRead_252 kb_12 ?_
              obtain ⟨j11, hj11, h⟩ := ob h
              have hJj11 : Y X K r8.2 0 0 262 [(1, .int (1)), (0, .ref t)] [.int (bI j11)] := by
                refine y_istore_n C dX8_eRead_262 (by decide) (L' := [(2, .int (bI j11)), (1, .int (1)), (0, .ref t)]) rfl ?_
                refine y_goto C dX8_eRead_263 (tgt := 14) rfl ?_
                exact y_sel [0, 1, 2] rfl (ih _ _ _ _  h hX hE)
              replace h := hj11
              refine y_icmp_gt C dX8_eRead_254 (tgt := 261) rfl (fun c10 => ?_) (fun c10 => ?_)
              · have h := itT c10 h
                refine y_iconst C dX8_eRead_261 kc_0 ?_
                have e0 := Option.some.inj h
                subst e0
                exact y_sel [1, 0] rfl hJj11
              · have h := itF c10 h
                refine y_iconst C dX8_eRead_257 kc_1 ?_
                refine y_goto C dX8_eRead_258 (tgt := 262) rfl ?_
                have e0 := Option.some.inj h
                subst e0
                exact y_sel [1, 0] rfl hJj11
            · have h := itFb c9 h
              refine y_iconst C dX8_eRead_247 kc_0 ?_
              have e0 := Option.some.inj h
              subst e0
              have E := hE _ rfl
              exact y_bret (b := false) C E (Nat.zero_le _) (Nat.zero_le _) dX8_eRead_248
        · have h := itT c5 h
          refine y_aload_n C dX8_eRead_186 rfl ?_
          refine y_iconst C dX8_eRead_187 kc_1 ?_
          obtain ⟨r12, hr12, h⟩ := ob h
          refine y_cV C [.int (1 : Int32)] (m_X8_unwinds K r2 t ((1 : Int32))) hr12 g1 cw_X8_175 rfl (by decide) ⟨rfl, rfl⟩ ⟨Nat.zero_le _, Nat.zero_le _⟩ (Nat.le_of_ble_eq_true rfl) rfl rfl rfl dX8_eRead_188 ?_
          refine y_aload_n C dX8_eRead_191 rfl ?_
          refine y_geti C fl_X8_159 g1 dX8_eRead_192 ?_
          refine y_if_ne C dX8_eRead_195 (tgt := 200) rfl (fun c13 => ?_) (fun c13 => ?_)
          · have h := itF c13 h
            refine y_aload_n C dX8_eRead_200 rfl ?_
            refine y_dup C dX8_eRead_201 rfl ?_
            refine y_geti C fl_X8_159 g1 dX8_eRead_202 ?_
            refine y_iconst C dX8_eRead_205 kc_1 ?_
            refine y_isub C dX8_eRead_206 ?_
            obtain ⟨M14, eM14, h⟩ := ob h
            have eM14 := Option.some.inj eM14
            refine y_puti C fl_X8_159 rfl g1 rfl rfl dX8_eRead_207 eM14 ?_
            refine y_aload_n C dX8_eRead_210 rfl ?_
            refine y_dup C dX8_eRead_211 rfl ?_
            refine y_geti C fl_X8_165 g1 dX8_eRead_212 ?_
            refine y_iconst C dX8_eRead_215 kc_1 ?_
            refine y_isub C dX8_eRead_216 ?_
            obtain ⟨M15, eM15, h⟩ := ob h
            have eM15 := Option.some.inj eM15
            refine y_puti C fl_X8_165 rfl g1 rfl rfl dX8_eRead_217 eM15 ?_
            refine y_aload_n C dX8_eRead_220 rfl ?_
            refine y_bipush C dX8_eRead_221 kb_7 ?_
            obtain ⟨r16, hr16, h⟩ := ob h
            refine y_cV C [.int (7 : Int32)] (m_X8_unwinds K M15 t ((7 : Int32))) hr16 g1 cw_X8_175 rfl (by decide) ⟨rfl, rfl⟩ ⟨Nat.zero_le _, Nat.zero_le _⟩ (Nat.le_of_ble_eq_true rfl) rfl rfl rfl dX8_eRead_223 ?_
            refine y_goto C dX8_eRead_226 (tgt := 14) rfl ?_
            exact y_sel [0, 1, 2] rfl (ih _ _ _ _  h hX hE)
          · have h := itT c13 h
            refine y_iconst C dX8_eRead_198 kc_0 ?_
            have e0 := Option.some.inj h
            subst e0
            have E := hE _ rfl
            exact y_bret (b := false) C E (Nat.zero_le _) (Nat.zero_le _) dX8_eRead_199
      · have h := itT c4 h
        have e0 := Option.some.inj h
        subst e0
        exact y_sel [0] rfl (hX _ rfl)
    · have h := itT c3 h
      refine y_aload_n C dX8_eRead_22 rfl ?_
      refine y_geti C fl_X8_146 g1 dX8_eRead_23 ?_
      refine y_iconst C dX8_eRead_26 kc_1 ?_
      refine y_icmp_eq C dX8_eRead_27 (tgt := 38) rfl (fun c17 => ?_) (fun c17 => ?_)
      · have h := itT c17 h
        refine y_aload_n C dX8_eRead_38 rfl ?_
        refine y_aload_n C dX8_eRead_39 rfl ?_
        refine y_geti C fl_X8_146 g1 dX8_eRead_40 ?_
        refine y_iconst C dX8_eRead_43 kc_1 ?_
        obtain ⟨j19, hj19, h⟩ := ob h
        have hJj19 : Y X K r2 0 0 61 [(0, .ref t), (2, .int (bI u14_2))] [.int j19, .ref t] := by
          obtain ⟨r20, hr20, h⟩ := ob h
          refine y_cV C [.int j19] (m_X8_puts K r2 t j19) hr20 g1 cw_X8_168 rfl (by decide) ⟨rfl, rfl⟩ ⟨Nat.zero_le _, Nat.zero_le _⟩ (Nat.le_of_ble_eq_true rfl) rfl rfl rfl dX8_eRead_61 ?_
          refine y_aload_n C dX8_eRead_64 rfl ?_
          refine y_bipush C dX8_eRead_65 kb_7 ?_
          obtain ⟨r21, hr21, h⟩ := ob h
          refine y_cV C [.int (7 : Int32)] (m_X8_unwinds K r20 t ((7 : Int32))) hr21 g1 cw_X8_175 rfl (by decide) ⟨rfl, rfl⟩ ⟨Nat.zero_le _, Nat.zero_le _⟩ (Nat.le_of_ble_eq_true rfl) rfl rfl rfl dX8_eRead_67 ?_
          refine y_iconst C dX8_eRead_70 kc_0 ?_
          refine y_istore_n C dX8_eRead_71 (by decide) (L' := [(1, .int (0)), (0, .ref t), (2, .int (bI u14_2))]) rfl ?_
          refine y_goto C dX8_eRead_72 (tgt := 14) rfl ?_
          exact y_sel [0, 1, 2] rfl (ih _ _ _ _  h hX hE)
        replace h := hj19
        refine y_icmp_ne C dX8_eRead_44 (tgt := 57) rfl (fun c18 => ?_) (fun c18 => ?_)
        · have h := itF c18 h
          refine y_aload_n C dX8_eRead_57 rfl ?_
          refine y_geti C fl_X8_149 g1 dX8_eRead_58 ?_
          have e0 := Option.some.inj h
          subst e0
          exact y_sel [0, 2] rfl hJj19
        · have h := itT c18 h
          refine y_ldc C wd_841 dX8_eRead_47 ?_
          refine y_aload_n C dX8_eRead_49 rfl ?_
          refine y_geti C fl_X8_149 g1 dX8_eRead_50 ?_
          refine y_iadd C dX8_eRead_53 ?_
          refine y_goto C dX8_eRead_54 (tgt := 61) rfl ?_
          have e0 := Option.some.inj h
          subst e0
          exact y_sel [0, 2] rfl hJj19
      · have h := itF c17 h
        refine y_aload_n C dX8_eRead_30 rfl ?_
        refine y_geti C fl_X8_146 g1 dX8_eRead_31 ?_
        refine y_iconst C dX8_eRead_34 kc_2 ?_
        refine y_icmp_ne C dX8_eRead_35 (tgt := 75) rfl (fun c22 => ?_) (fun c22 => ?_)
        · have h := itF c22 h
          refine y_aload_n C dX8_eRead_75 rfl ?_
          refine y_geti C fl_X8_146 g1 dX8_eRead_76 ?_
          refine y_bipush C dX8_eRead_79 kb_6 ?_
          refine y_icmp_ne C dX8_eRead_81 (tgt := 99) rfl (fun c23 => ?_) (fun c23 => ?_)
          · have h := itF c23 h
            refine y_aload_n C dX8_eRead_99 rfl ?_
            refine y_geti C fl_X8_146 g1 dX8_eRead_100 ?_
            refine y_bipush C dX8_eRead_103 kb_45 ?_
            refine y_icmp_ne C dX8_eRead_105 (tgt := 124) rfl (fun c24 => ?_) (fun c24 => ?_)
            · have h := itF c24 h
              refine y_aload_n C dX8_eRead_124 rfl ?_
              refine y_geti C fl_X8_146 g1 dX8_eRead_125 ?_
              refine y_bipush C dX8_eRead_128 kb_40 ?_
              refine y_icmp_ne C dX8_eRead_130 (tgt := 148) rfl (fun c25 => ?_) (fun c25 => ?_)
              · have h := itF c25 h
                refine y_iconst C dX8_eRead_148 kc_0 ?_
                have e0 := Option.some.inj h
                subst e0
                have E := hE _ rfl
                exact y_bret (b := false) C E (Nat.zero_le _) (Nat.zero_le _) dX8_eRead_149
              · have h := itT c25 h
                refine y_aload_n C dX8_eRead_133 rfl ?_
                refine y_iconst C dX8_eRead_134 kc_0 ?_
                obtain ⟨r26, hr26, h⟩ := ob h
                refine y_cV C [.int (0 : Int32)] (m_X8_opensOne K r2 t ((0 : Int32))) hr26 g1 cw_X8_182 rfl (by decide) ⟨rfl, rfl⟩ ⟨Nat.zero_le _, Nat.zero_le _⟩ (Nat.le_of_ble_eq_true rfl) rfl rfl rfl dX8_eRead_135 ?_
                refine y_ifneB C dX8_eRead_138 (tgt := 143) rfl (fun c27 => ?_) (fun c27 => ?_)
                · have h := itT c27 h
                  refine y_iconst C dX8_eRead_143 kc_1 ?_
                  refine y_istore_n C dX8_eRead_144 (by decide) (L' := [(2, .int (1)), (0, .ref t), (1, .int (bI u14_1))]) rfl ?_
                  refine y_goto C dX8_eRead_145 (tgt := 14) rfl ?_
                  exact y_sel [0, 1, 2] rfl (ih _ _ _ _  h hX hE)
                · have h := itFb c27 h
                  refine y_iconst C dX8_eRead_141 kc_0 ?_
                  have e0 := Option.some.inj h
                  subst e0
                  have E := hE _ rfl
                  exact y_bret (b := false) C E (Nat.zero_le _) (Nat.zero_le _) dX8_eRead_142
            · have h := itT c24 h
              refine y_aload_n C dX8_eRead_108 rfl ?_
              refine y_bipush C dX8_eRead_109 kb_19 ?_
              obtain ⟨r28, hr28, h⟩ := ob h
              refine y_cV C [.int (19 : Int32)] (m_X8_opensOne K r2 t ((19 : Int32))) hr28 g1 cw_X8_182 rfl (by decide) ⟨rfl, rfl⟩ ⟨Nat.zero_le _, Nat.zero_le _⟩ (Nat.le_of_ble_eq_true rfl) rfl rfl rfl dX8_eRead_111 ?_
              refine y_ifneB C dX8_eRead_114 (tgt := 119) rfl (fun c29 => ?_) (fun c29 => ?_)
              · have h := itT c29 h
                refine y_iconst C dX8_eRead_119 kc_0 ?_
                refine y_istore_n C dX8_eRead_120 (by decide) (L' := [(2, .int (0)), (0, .ref t), (1, .int (bI u14_1))]) rfl ?_
                refine y_goto C dX8_eRead_121 (tgt := 14) rfl ?_
                exact y_sel [0, 1, 2] rfl (ih _ _ _ _  h hX hE)
              · have h := itFb c29 h
                refine y_iconst C dX8_eRead_117 kc_0 ?_
                have e0 := Option.some.inj h
                subst e0
                have E := hE _ rfl
                exact y_bret (b := false) C E (Nat.zero_le _) (Nat.zero_le _) dX8_eRead_118
          · have h := itT c23 h
            refine y_iload_n C dX8_eRead_84 rfl ?_
            refine y_ifeqB C dX8_eRead_85 (tgt := 99) rfl (fun c30 => ?_) (fun c30 => ?_)
            · have h := itFb c30 h
              refine y_aload_n C dX8_eRead_99 rfl ?_
              refine y_geti C fl_X8_146 g1 dX8_eRead_100 ?_
              refine y_bipush C dX8_eRead_103 kb_45 ?_
              refine y_icmp_ne C dX8_eRead_105 (tgt := 124) rfl (fun c31 => ?_) (fun c31 => ?_)
              · have h := itF c31 h
                refine y_aload_n C dX8_eRead_124 rfl ?_
                refine y_geti C fl_X8_146 g1 dX8_eRead_125 ?_
                refine y_bipush C dX8_eRead_128 kb_40 ?_
                refine y_icmp_ne C dX8_eRead_130 (tgt := 148) rfl (fun c32 => ?_) (fun c32 => ?_)
                · have h := itF c32 h
                  refine y_iconst C dX8_eRead_148 kc_0 ?_
                  have e0 := Option.some.inj h
                  subst e0
                  have E := hE _ rfl
                  exact y_bret (b := false) C E (Nat.zero_le _) (Nat.zero_le _) dX8_eRead_149
                · have h := itT c32 h
                  refine y_aload_n C dX8_eRead_133 rfl ?_
                  refine y_iconst C dX8_eRead_134 kc_0 ?_
                  obtain ⟨r33, hr33, h⟩ := ob h
                  refine y_cV C [.int (0 : Int32)] (m_X8_opensOne K r2 t ((0 : Int32))) hr33 g1 cw_X8_182 rfl (by decide) ⟨rfl, rfl⟩ ⟨Nat.zero_le _, Nat.zero_le _⟩ (Nat.le_of_ble_eq_true rfl) rfl rfl rfl dX8_eRead_135 ?_
                  refine y_ifneB C dX8_eRead_138 (tgt := 143) rfl (fun c34 => ?_) (fun c34 => ?_)
                  · have h := itT c34 h
                    refine y_iconst C dX8_eRead_143 kc_1 ?_
                    refine y_istore_n C dX8_eRead_144 (by decide) (L' := [(2, .int (1)), (0, .ref t), (1, .int (bI u14_1))]) rfl ?_
                    refine y_goto C dX8_eRead_145 (tgt := 14) rfl ?_
                    exact y_sel [0, 1, 2] rfl (ih _ _ _ _  h hX hE)
                  · have h := itFb c34 h
                    refine y_iconst C dX8_eRead_141 kc_0 ?_
                    have e0 := Option.some.inj h
                    subst e0
                    have E := hE _ rfl
                    exact y_bret (b := false) C E (Nat.zero_le _) (Nat.zero_le _) dX8_eRead_142
              · have h := itT c31 h
                refine y_aload_n C dX8_eRead_108 rfl ?_
                refine y_bipush C dX8_eRead_109 kb_19 ?_
                obtain ⟨r35, hr35, h⟩ := ob h
                refine y_cV C [.int (19 : Int32)] (m_X8_opensOne K r2 t ((19 : Int32))) hr35 g1 cw_X8_182 rfl (by decide) ⟨rfl, rfl⟩ ⟨Nat.zero_le _, Nat.zero_le _⟩ (Nat.le_of_ble_eq_true rfl) rfl rfl rfl dX8_eRead_111 ?_
                refine y_ifneB C dX8_eRead_114 (tgt := 119) rfl (fun c36 => ?_) (fun c36 => ?_)
                · have h := itT c36 h
                  refine y_iconst C dX8_eRead_119 kc_0 ?_
                  refine y_istore_n C dX8_eRead_120 (by decide) (L' := [(2, .int (0)), (0, .ref t), (1, .int (bI u14_1))]) rfl ?_
                  refine y_goto C dX8_eRead_121 (tgt := 14) rfl ?_
                  exact y_sel [0, 1, 2] rfl (ih _ _ _ _  h hX hE)
                · have h := itFb c36 h
                  refine y_iconst C dX8_eRead_117 kc_0 ?_
                  have e0 := Option.some.inj h
                  subst e0
                  have E := hE _ rfl
                  exact y_bret (b := false) C E (Nat.zero_le _) (Nat.zero_le _) dX8_eRead_118
            · have h := itT c30 h
              refine y_aload_n C dX8_eRead_88 rfl ?_
              refine y_bipush C dX8_eRead_89 kb_13 ?_
              obtain ⟨r37, hr37, h⟩ := ob h
              refine y_cV C [.int (13 : Int32)] (m_X8_opensOne K r2 t ((13 : Int32))) hr37 g1 cw_X8_182 rfl (by decide) ⟨rfl, rfl⟩ ⟨Nat.zero_le _, Nat.zero_le _⟩ (Nat.le_of_ble_eq_true rfl) rfl rfl rfl dX8_eRead_91 ?_
              refine y_ifneB C dX8_eRead_94 (tgt := 14) rfl (fun c38 => ?_) (fun c38 => ?_)
              · have h := itT c38 h
                exact y_sel [0, 1, 2] rfl (ih _ _ _ _  h hX hE)
              · have h := itFb c38 h
                refine y_iconst C dX8_eRead_97 kc_0 ?_
                have e0 := Option.some.inj h
                subst e0
                have E := hE _ rfl
                exact y_bret (b := false) C E (Nat.zero_le _) (Nat.zero_le _) dX8_eRead_98
        · have h := itT c22 h
          refine y_aload_n C dX8_eRead_38 rfl ?_
          refine y_aload_n C dX8_eRead_39 rfl ?_
          refine y_geti C fl_X8_146 g1 dX8_eRead_40 ?_
          refine y_iconst C dX8_eRead_43 kc_1 ?_
          obtain ⟨j40, hj40, h⟩ := ob h
          have hJj40 : Y X K r2 0 0 61 [(0, .ref t), (2, .int (bI u14_2))] [.int j40, .ref t] := by
            obtain ⟨r41, hr41, h⟩ := ob h
            refine y_cV C [.int j40] (m_X8_puts K r2 t j40) hr41 g1 cw_X8_168 rfl (by decide) ⟨rfl, rfl⟩ ⟨Nat.zero_le _, Nat.zero_le _⟩ (Nat.le_of_ble_eq_true rfl) rfl rfl rfl dX8_eRead_61 ?_
            refine y_aload_n C dX8_eRead_64 rfl ?_
            refine y_bipush C dX8_eRead_65 kb_7 ?_
            obtain ⟨r42, hr42, h⟩ := ob h
            refine y_cV C [.int (7 : Int32)] (m_X8_unwinds K r41 t ((7 : Int32))) hr42 g1 cw_X8_175 rfl (by decide) ⟨rfl, rfl⟩ ⟨Nat.zero_le _, Nat.zero_le _⟩ (Nat.le_of_ble_eq_true rfl) rfl rfl rfl dX8_eRead_67 ?_
            refine y_iconst C dX8_eRead_70 kc_0 ?_
            refine y_istore_n C dX8_eRead_71 (by decide) (L' := [(1, .int (0)), (0, .ref t), (2, .int (bI u14_2))]) rfl ?_
            refine y_goto C dX8_eRead_72 (tgt := 14) rfl ?_
            exact y_sel [0, 1, 2] rfl (ih _ _ _ _  h hX hE)
          replace h := hj40
          refine y_icmp_ne C dX8_eRead_44 (tgt := 57) rfl (fun c39 => ?_) (fun c39 => ?_)
          · have h := itF c39 h
            refine y_aload_n C dX8_eRead_57 rfl ?_
            refine y_geti C fl_X8_149 g1 dX8_eRead_58 ?_
            have e0 := Option.some.inj h
            subst e0
            exact y_sel [0, 2] rfl hJj40
          · have h := itT c39 h
            refine y_ldc C wd_841 dX8_eRead_47 ?_
            refine y_aload_n C dX8_eRead_49 rfl ?_
            refine y_geti C fl_X8_149 g1 dX8_eRead_50 ?_
            refine y_iadd C dX8_eRead_53 ?_
            refine y_goto C dX8_eRead_54 (tgt := 61) rfl ?_
            have e0 := Option.some.inj h
            subst e0
            exact y_sel [0, 2] rfl hJj40
set_option maxRecDepth 100000 in
def b_X8_eRead (K : yK) (M : yM) (t : Nat) : Option (Bool × yM) := (if gO K t 7 = true then (Option.bind (some (yS M t 34 (0 : Int32))) fun M2 => (Option.bind (some (yS M2 t 35 (0 : Int32))) fun M3 => (Option.bind (b_X8_eRead_14 K t 1000 M3 true true) fun x9 => Sum.elim (fun j4 => (Option.bind (b_X8_unwinds K j4 t ((1 : Int32))) fun r5 => (if (r5 t 34) = 0 then (some (true, r5)) else (some (false, r5))))) (fun r9 => (some r9)) x9))) else none)
set_option maxHeartbeats 4000000 in
set_option maxRecDepth 100000 in
theorem m_X8_eRead (K : yK) (M : yM) (t : Nat) : yMet yX8_eRead cX8_eRead 4 (Option.some Jvm.ClassFile.FieldType.boolean) rm_X8_eRead K M [.ref t] (b_X8_eRead K M t) (yGb K) := by
  refine yM_intro (by decide) (Nat.le_of_ble_eq_true rfl) (fun X r h C E => ?_)
  replace C : yCx X cX8_eRead RX8 "eRead" rm_X8_eRead 4 := C
  show Y X K M 0 0 0 [(0, .ref t)] []
  unfold b_X8_eRead at h
  refine y_aload_n C dX8_eRead_0 rfl ?_
  refine y_iconst C dX8_eRead_1 kc_0 ?_
  obtain ⟨g1, h⟩ := gd h
  obtain ⟨M2, eM2, h⟩ := ob h
  have eM2 := Option.some.inj eM2
  refine y_puti C fl_X8_159 rfl g1 rfl rfl dX8_eRead_2 eM2 ?_
  refine y_aload_n C dX8_eRead_5 rfl ?_
  refine y_iconst C dX8_eRead_6 kc_0 ?_
  obtain ⟨M3, eM3, h⟩ := ob h
  have eM3 := Option.some.inj eM3
  refine y_puti C fl_X8_165 rfl g1 rfl rfl dX8_eRead_7 eM3 ?_
  refine y_iconst C dX8_eRead_10 kc_1 ?_
  refine y_istore_n C dX8_eRead_11 (by decide) (L' := [(1, .int (1)), (0, .ref t)]) rfl ?_
  refine y_iconst C dX8_eRead_12 kc_1 ?_
  refine y_istore_n C dX8_eRead_13 (by decide) (L' := [(2, .int (1)), (1, .int (1)), (0, .ref t)]) rfl ?_
  obtain ⟨x9, hx9, h⟩ := ob h
  refine y_sel [0, 1, 2] rfl (l_X8_eRead_14 (K0 := K) (M0 := M) C 1000 _ _ _ _ hx9 (fun j4 e9 => ?_) (fun r9 e9 => ?_))
  · subst e9
    dsimp only [Sum.elim_inl] at h
    refine y_aload_n C dX8_eRead_159 rfl ?_
    refine y_iconst C dX8_eRead_160 kc_1 ?_
    obtain ⟨r5, hr5, h⟩ := ob h
    refine y_cV C [.int (1 : Int32)] (m_X8_unwinds K j4 t ((1 : Int32))) hr5 g1 cw_X8_175 rfl (by decide) ⟨rfl, rfl⟩ ⟨Nat.zero_le _, Nat.zero_le _⟩ (Nat.le_of_ble_eq_true rfl) rfl rfl rfl dX8_eRead_161 ?_
    refine y_aload_n C dX8_eRead_164 rfl ?_
    refine y_geti C fl_X8_159 g1 dX8_eRead_165 ?_
    refine y_if_ne C dX8_eRead_168 (tgt := 175) rfl (fun c6 => ?_) (fun c6 => ?_)
    · have h := itF c6 h
      refine y_iconst C dX8_eRead_175 kc_0 ?_
      have e0 := Option.some.inj h
      subst e0
      exact y_bret (b := false) C E (Nat.zero_le _) (Nat.zero_le _) dX8_eRead_176
    · have h := itT c6 h
      refine y_iconst C dX8_eRead_171 kc_1 ?_
      refine y_goto C dX8_eRead_172 (tgt := 176) rfl ?_
      have e0 := Option.some.inj h
      subst e0
      exact y_bret (b := true) C E (Nat.zero_le _) (Nat.zero_le _) dX8_eRead_176
  · subst e9
    dsimp only [Sum.elim_inr] at h
    have e0 := Option.some.inj h
    subst e0
    exact E
set_option maxRecDepth 100000 in
def b_X8_isByte (K : yK) (M : yM) (x1 : Int32) : Option Bool := (Option.bind (b_X8_in K M x1 ((0 : Int32)) ((255 : Int32))) fun r1 => (some r1))
set_option maxHeartbeats 4000000 in
set_option maxRecDepth 100000 in
theorem m_X8_isByte (K : yK) (M : yM) (x1 : Int32) : yMet yX8_isByte cX8_isByte 1 (Option.some Jvm.ClassFile.FieldType.boolean) rm_X8_isByte K M [.int x1] (b_X8_isByte K M x1) (yFb K M) := by
  refine yM_intro (by decide) (Nat.le_of_ble_eq_true rfl) (fun X r h C E => ?_)
  replace C : yCx X cX8_isByte RX8 "isByte" rm_X8_isByte 1 := C
  show Y X K M 0 0 0 [(0, .int x1)] []
  unfold b_X8_isByte at h
  refine y_iload_n C dX8_isByte_0 rfl ?_
  refine y_iconst C dX8_isByte_1 kc_0 ?_
  refine y_sipush C dX8_isByte_2 ks_255 ?_
  obtain ⟨r1, hr1, h⟩ := ob h
  refine y_cS C [.int x1, .int (0 : Int32), .int (255 : Int32)] (m_X8_in K M x1 ((0 : Int32)) ((255 : Int32))) hr1 cw_X8_90 rfl (by decide) ⟨rfl, rfl⟩ ⟨Nat.zero_le _, Nat.zero_le _⟩ (Nat.le_of_ble_eq_true rfl) rfl rfl rfl dX8_isByte_5 ?_
  have e0 := Option.some.inj h
  subst e0
  exact y_bret (b := r1) C E (Nat.zero_le _) (Nat.zero_le _) dX8_isByte_8
def b_X8_feed_68 (K : yK) (t : Nat) (x_1 : Int32) (x_2 : Int32) (x_3 : Int32) (x_4 : Int32) (x_5 : Int32) (x_6 : Int32) : Nat → yM → Int32 → Option yM
  | 0, _, _ => none
  | n + 1, M, u68_7 => (if x_1 ≤ u68_7 then (some M) else (if gO K t 7 = true then (Option.bind (K.2.2 t 11) fun q3 => (Option.bind (if u68_7 = 0 then (some x_2) else (if u68_7 = (1 : Int32) then (some x_3) else (if u68_7 = (2 : Int32) then (some x_4) else (if u68_7 = (3 : Int32) then (some x_5) else (some x_6))))) fun j5 => (if gA K q3 (M t 12) = true then (Option.bind (some (yS M q3 ((M t 12)).toNatClampNeg j5)) fun M10 => (Option.bind (some (yS M10 t 12 ((M10 t 12) + (1 : Int32)))) fun M11 => (Option.bind (some (u68_7 + (1 : Int32))) fun v12 => (b_X8_feed_68 K t x_1 x_2 x_3 x_4 x_5 x_6 n M11 v12)))) else none))) else none))
set_option maxHeartbeats 4000000 in
set_option maxRecDepth 100000 in
theorem l_X8_feed_68 {X : yX} {K : yK} {t : Nat} {x_1 : Int32} {x_2 : Int32} {x_3 : Int32} {x_4 : Int32} {x_5 : Int32} {x_6 : Int32} (C : yCx X cX8_feed RX8 "feed" rm_X8_feed 8) : ∀ (n : Nat) (M : yM) (u68_7 : Int32) (x : yM), b_X8_feed_68 K t x_1 x_2 x_3 x_4 x_5 x_6 n M u68_7 = some x → ∀ (hX : Y X K x 0 0 142 [(0, .ref t)] []), Y X K M 0 0 68 [(0, .ref t), (1, .int x_1), (2, .int x_2), (3, .int x_3), (4, .int x_4), (5, .int x_5), (6, .int x_6), (7, .int u68_7)] [] := by
  intro n
  induction n with
  | zero =>
    intro M u68_7 x h
    exact nomatch (show (none : Option _) = some x from h)
  | succ n ih =>
    intro M u68_7 x h hX
    rw [b_X8_feed_68] at h
    refine y_iload C dX8_feed_68 rfl ?_
    refine y_iload_n C dX8_feed_70 rfl ?_
    refine y_icmp_ge C dX8_feed_71 (tgt := 142) rfl (fun c1 => ?_) (fun c1 => ?_)
    · have h := itT c1 h
      have e0 := Option.some.inj h
      subst e0
      exact y_sel [0] rfl hX
    · have h := itF c1 h
      refine y_aload_n C dX8_feed_74 rfl ?_
      obtain ⟨g2, h⟩ := gd h
      obtain ⟨q3, hq3, h⟩ := ob h
      refine y_getr C fl_X8_26 g2 hq3 dX8_feed_75 ?_
      refine y_aload_n C dX8_feed_78 rfl ?_
      refine y_geti C fl_X8_80 g2 dX8_feed_79 ?_
      refine y_iload C dX8_feed_82 rfl ?_
      obtain ⟨j5, hj5, h⟩ := ob h
      have hJj5 : Y X K M 0 0 125 [(0, .ref t), (1, .int x_1), (2, .int x_2), (3, .int x_3), (4, .int x_4), (5, .int x_5), (6, .int x_6), (7, .int u68_7)] [.int j5, .int (M t 12), .ref q3] := by
        obtain ⟨g9, h⟩ := gd h
        obtain ⟨M10, eM10, h⟩ := ob h
        have eM10 := Option.some.inj eM10
        refine y_iast C g9 dX8_feed_125 eM10 ?_
        refine y_aload_n C dX8_feed_126 rfl ?_
        refine y_dup C dX8_feed_127 rfl ?_
        refine y_geti C fl_X8_80 g2 dX8_feed_128 ?_
        refine y_iconst C dX8_feed_131 kc_1 ?_
        refine y_iadd C dX8_feed_132 ?_
        obtain ⟨M11, eM11, h⟩ := ob h
        have eM11 := Option.some.inj eM11
        refine y_puti C fl_X8_80 rfl g2 rfl rfl dX8_feed_133 eM11 ?_
        obtain ⟨v12, ev12, h⟩ := ob h
        have ev12 := Option.some.inj ev12
        refine y_iinc C dX8_feed_136 (by decide) rfl (v := v12) (by subst ev12; rfl) (L' := [(7, .int v12), (0, .ref t), (1, .int x_1), (2, .int x_2), (3, .int x_3), (4, .int x_4), (5, .int x_5), (6, .int x_6)]) rfl ?_
        refine y_goto C dX8_feed_139 (tgt := 68) rfl ?_
        exact y_sel [0, 1, 2, 3, 4, 5, 6, 7] rfl (ih _ _ _  h hX)
      replace h := hj5
      refine y_if_ne C dX8_feed_84 (tgt := 91) rfl (fun c4 => ?_) (fun c4 => ?_)
      · have h := itF c4 h
        refine y_iload C dX8_feed_91 rfl ?_
        refine y_iconst C dX8_feed_93 kc_1 ?_
        refine y_icmp_ne C dX8_feed_94 (tgt := 101) rfl (fun c6 => ?_) (fun c6 => ?_)
        · have h := itF c6 h
          refine y_iload C dX8_feed_101 rfl ?_
          refine y_iconst C dX8_feed_103 kc_2 ?_
          refine y_icmp_ne C dX8_feed_104 (tgt := 112) rfl (fun c7 => ?_) (fun c7 => ?_)
          · have h := itF c7 h
            refine y_iload C dX8_feed_112 rfl ?_
            refine y_iconst C dX8_feed_114 kc_3 ?_
            refine y_icmp_ne C dX8_feed_115 (tgt := 123) rfl (fun c8 => ?_) (fun c8 => ?_)
            · have h := itF c8 h
              refine y_iload C dX8_feed_123 rfl ?_
              have e0 := Option.some.inj h
              subst e0
              exact y_sel [0, 1, 2, 3, 4, 5, 6, 7] rfl hJj5
            · have h := itT c8 h
              refine y_iload C dX8_feed_118 rfl ?_
              refine y_goto C dX8_feed_120 (tgt := 125) rfl ?_
              have e0 := Option.some.inj h
              subst e0
              exact y_sel [0, 1, 2, 3, 4, 5, 6, 7] rfl hJj5
          · have h := itT c7 h
            refine y_iload C dX8_feed_107 rfl ?_
            refine y_goto C dX8_feed_109 (tgt := 125) rfl ?_
            have e0 := Option.some.inj h
            subst e0
            exact y_sel [0, 1, 2, 3, 4, 5, 6, 7] rfl hJj5
        · have h := itT c6 h
          refine y_iload_n C dX8_feed_97 rfl ?_
          refine y_goto C dX8_feed_98 (tgt := 125) rfl ?_
          have e0 := Option.some.inj h
          subst e0
          exact y_sel [0, 1, 2, 3, 4, 5, 6, 7] rfl hJj5
      · have h := itT c4 h
        refine y_iload_n C dX8_feed_87 rfl ?_
        refine y_goto C dX8_feed_88 (tgt := 125) rfl ?_
        have e0 := Option.some.inj h
        subst e0
        exact y_sel [0, 1, 2, 3, 4, 5, 6, 7] rfl hJj5
set_option maxRecDepth 100000 in
def b_X8_feed (K : yK) (M : yM) (t : Nat) (x1 : Int32) (x2 : Int32) (x3 : Int32) (x4 : Int32) (x5 : Int32) (x6 : Int32) : Option (Int32 × yM) := (Option.bind (b_X8_in K M x1 ((1 : Int32)) ((5 : Int32))) fun r1 => (if r1 = true then (Option.bind (b_X8_isByte K M x2) fun r3 => (if r3 = true then (Option.bind (b_X8_isByte K M x3) fun r5 => (if r5 = true then (Option.bind (b_X8_isByte K M x4) fun r7 => (if r7 = true then (Option.bind (b_X8_isByte K M x5) fun r9 => (if r9 = true then (Option.bind (b_X8_isByte K M x6) fun r11 => (if r11 = true then (if gO K t 7 = true then (if ((M t 12) + x1) ≤ (160 : Int32) then (Option.bind (b_X8_feed_68 K t x1 x2 x3 x4 x5 x6 1000 M ((0 : Int32))) fun j15 => (some ((j15 t 12), j15))) else (some ((-4 : Int32), M))) else none) else (some ((-2 : Int32), M)))) else (some ((-2 : Int32), M)))) else (some ((-2 : Int32), M)))) else (some ((-2 : Int32), M)))) else (some ((-2 : Int32), M)))) else (some ((-2 : Int32), M))))
set_option maxHeartbeats 4000000 in
set_option maxRecDepth 100000 in
theorem m_X8_feed (K : yK) (M : yM) (t : Nat) (x1 : Int32) (x2 : Int32) (x3 : Int32) (x4 : Int32) (x5 : Int32) (x6 : Int32) : yMet yX8_feed cX8_feed 8 (Option.some Jvm.ClassFile.FieldType.int) rm_X8_feed K M [.ref t, .int x1, .int x2, .int x3, .int x4, .int x5, .int x6] (b_X8_feed K M t x1 x2 x3 x4 x5 x6) (yGi K) := by
  refine yM_intro (by decide) (Nat.le_of_ble_eq_true rfl) (fun X r h C E => ?_)
  replace C : yCx X cX8_feed RX8 "feed" rm_X8_feed 8 := C
  show Y X K M 0 0 0 [(0, .ref t), (1, .int x1), (2, .int x2), (3, .int x3), (4, .int x4), (5, .int x5), (6, .int x6)] []
  unfold b_X8_feed at h
  refine y_iload_n C dX8_feed_0 rfl ?_
  refine y_iconst C dX8_feed_1 kc_1 ?_
  refine y_iconst C dX8_feed_2 kc_5 ?_
  obtain ⟨r1, hr1, h⟩ := ob h
  refine y_cS C [.int x1, .int (1 : Int32), .int (5 : Int32)] (m_X8_in K M x1 ((1 : Int32)) ((5 : Int32))) hr1 cw_X8_90 rfl (by decide) ⟨rfl, rfl⟩ ⟨Nat.zero_le _, Nat.zero_le _⟩ (Nat.le_of_ble_eq_true rfl) rfl rfl rfl dX8_feed_3 ?_
  refine y_ifeqB C dX8_feed_6 (tgt := 47) rfl (fun c2 => ?_) (fun c2 => ?_)
  · have h := itFb c2 h
    refine y_bipush C dX8_feed_47 kb_m2 ?_
    have e0 := Option.some.inj h
    subst e0
    exact y_iret C E (Nat.zero_le _) (Nat.zero_le _) dX8_feed_49
  · have h := itT c2 h
    refine y_iload_n C dX8_feed_9 rfl ?_
    obtain ⟨r3, hr3, h⟩ := ob h
    refine y_cS C [.int x2] (m_X8_isByte K M x2) hr3 cw_X8_136 rfl (by decide) ⟨rfl, rfl⟩ ⟨Nat.zero_le _, Nat.zero_le _⟩ (Nat.le_of_ble_eq_true rfl) rfl rfl rfl dX8_feed_10 ?_
    refine y_ifeqB C dX8_feed_13 (tgt := 47) rfl (fun c4 => ?_) (fun c4 => ?_)
    · have h := itFb c4 h
      refine y_bipush C dX8_feed_47 kb_m2 ?_
      have e0 := Option.some.inj h
      subst e0
      exact y_iret C E (Nat.zero_le _) (Nat.zero_le _) dX8_feed_49
    · have h := itT c4 h
      refine y_iload_n C dX8_feed_16 rfl ?_
      obtain ⟨r5, hr5, h⟩ := ob h
      refine y_cS C [.int x3] (m_X8_isByte K M x3) hr5 cw_X8_136 rfl (by decide) ⟨rfl, rfl⟩ ⟨Nat.zero_le _, Nat.zero_le _⟩ (Nat.le_of_ble_eq_true rfl) rfl rfl rfl dX8_feed_17 ?_
      refine y_ifeqB C dX8_feed_20 (tgt := 47) rfl (fun c6 => ?_) (fun c6 => ?_)
      · have h := itFb c6 h
        refine y_bipush C dX8_feed_47 kb_m2 ?_
        have e0 := Option.some.inj h
        subst e0
        exact y_iret C E (Nat.zero_le _) (Nat.zero_le _) dX8_feed_49
      · have h := itT c6 h
        refine y_iload C dX8_feed_23 rfl ?_
        obtain ⟨r7, hr7, h⟩ := ob h
        refine y_cS C [.int x4] (m_X8_isByte K M x4) hr7 cw_X8_136 rfl (by decide) ⟨rfl, rfl⟩ ⟨Nat.zero_le _, Nat.zero_le _⟩ (Nat.le_of_ble_eq_true rfl) rfl rfl rfl dX8_feed_25 ?_
        refine y_ifeqB C dX8_feed_28 (tgt := 47) rfl (fun c8 => ?_) (fun c8 => ?_)
        · have h := itFb c8 h
          refine y_bipush C dX8_feed_47 kb_m2 ?_
          have e0 := Option.some.inj h
          subst e0
          exact y_iret C E (Nat.zero_le _) (Nat.zero_le _) dX8_feed_49
        · have h := itT c8 h
          refine y_iload C dX8_feed_31 rfl ?_
          obtain ⟨r9, hr9, h⟩ := ob h
          refine y_cS C [.int x5] (m_X8_isByte K M x5) hr9 cw_X8_136 rfl (by decide) ⟨rfl, rfl⟩ ⟨Nat.zero_le _, Nat.zero_le _⟩ (Nat.le_of_ble_eq_true rfl) rfl rfl rfl dX8_feed_33 ?_
          refine y_ifeqB C dX8_feed_36 (tgt := 47) rfl (fun c10 => ?_) (fun c10 => ?_)
          · have h := itFb c10 h
            refine y_bipush C dX8_feed_47 kb_m2 ?_
            have e0 := Option.some.inj h
            subst e0
            exact y_iret C E (Nat.zero_le _) (Nat.zero_le _) dX8_feed_49
          · have h := itT c10 h
            refine y_iload C dX8_feed_39 rfl ?_
            obtain ⟨r11, hr11, h⟩ := ob h
            refine y_cS C [.int x6] (m_X8_isByte K M x6) hr11 cw_X8_136 rfl (by decide) ⟨rfl, rfl⟩ ⟨Nat.zero_le _, Nat.zero_le _⟩ (Nat.le_of_ble_eq_true rfl) rfl rfl rfl dX8_feed_41 ?_
            refine y_ifneB C dX8_feed_44 (tgt := 50) rfl (fun c12 => ?_) (fun c12 => ?_)
            · have h := itT c12 h
              refine y_aload_n C dX8_feed_50 rfl ?_
              obtain ⟨g13, h⟩ := gd h
              refine y_geti C fl_X8_80 g13 dX8_feed_51 ?_
              refine y_iload_n C dX8_feed_54 rfl ?_
              refine y_iadd C dX8_feed_55 ?_
              refine y_sipush C dX8_feed_56 ks_160 ?_
              refine y_icmp_le C dX8_feed_59 (tgt := 65) rfl (fun c14 => ?_) (fun c14 => ?_)
              · have h := itT c14 h
                refine y_iconst C dX8_feed_65 kc_0 ?_
                refine y_istore C dX8_feed_66 (by decide) (L' := [(7, .int (0)), (0, .ref t), (1, .int x1), (2, .int x2), (3, .int x3), (4, .int x4), (5, .int x5), (6, .int x6)]) rfl ?_
                obtain ⟨j15, hj15, h⟩ := ob h
                refine y_sel [0, 1, 2, 3, 4, 5, 6, 7] rfl (l_X8_feed_68 C 1000 _ _ _ hj15 ?_)
                refine y_aload_n C dX8_feed_142 rfl ?_
                refine y_geti C fl_X8_80 g13 dX8_feed_143 ?_
                have e0 := Option.some.inj h
                subst e0
                exact y_iret C E (Nat.zero_le _) (Nat.zero_le _) dX8_feed_146
              · have h := itF c14 h
                refine y_bipush C dX8_feed_62 kb_m4 ?_
                have e0 := Option.some.inj h
                subst e0
                exact y_iret C E (Nat.zero_le _) (Nat.zero_le _) dX8_feed_64
            · have h := itFb c12 h
              refine y_bipush C dX8_feed_47 kb_m2 ?_
              have e0 := Option.some.inj h
              subst e0
              exact y_iret C E (Nat.zero_le _) (Nat.zero_le _) dX8_feed_49
def b_X8_film_42 (K : yK) (t : Nat) (x_1 : Int32) (x_2 : Int32) : Nat → yM → Int32 → Option yM
  | 0, _, _ => none
  | n + 1, M, u42_3 => (if (40 : Int32) ≤ u42_3 then (some M) else (if gO K t 7 = true then (Option.bind (b_X8_dayOf K M t) fun r3 => (Option.bind (K.2.2 t 26) fun q4 => (Option.bind (if x_2 ≤ u42_3 then (some ((0 : Int32), r3)) else (Option.bind (b_X8_holding K r3 t) fun r7 => (some (r7.1, r7.2)))) fun j6 => (if gA K q4 (((40 : Int32) * x_1) + u42_3) = true then (Option.bind (some (yS j6.2 q4 ((((40 : Int32) * x_1) + u42_3)).toNatClampNeg j6.1)) fun M9 => (Option.bind (some (u42_3 + (1 : Int32))) fun v10 => (b_X8_film_42 K t x_1 x_2 n M9 v10))) else none)))) else none))
set_option maxHeartbeats 4000000 in
set_option maxRecDepth 100000 in
theorem l_X8_film_42 {X : yX} {K : yK} {t : Nat} {x_1 : Int32} {x_2 : Int32} (C : yCx X cX8_film RX8 "film" rm_X8_film 4) : ∀ (n : Nat) (M : yM) (u42_3 : Int32) (x : yM), b_X8_film_42 K t x_1 x_2 n M u42_3 = some x → ∀ (hX : Y X K x 0 0 82 [(0, .ref t), (2, .int x_2)] []), Y X K M 0 0 42 [(0, .ref t), (1, .int x_1), (2, .int x_2), (3, .int u42_3)] [] := by
  intro n
  induction n with
  | zero =>
    intro M u42_3 x h
    exact nomatch (show (none : Option _) = some x from h)
  | succ n ih =>
    intro M u42_3 x h hX
    rw [b_X8_film_42] at h
    refine y_iload_n C dX8_film_42 rfl ?_
    refine y_bipush C dX8_film_43 kb_40 ?_
    refine y_icmp_ge C dX8_film_45 (tgt := 82) rfl (fun c1 => ?_) (fun c1 => ?_)
    · have h := itT c1 h
      have e0 := Option.some.inj h
      subst e0
      exact y_sel [0, 2] rfl hX
    · have h := itF c1 h
      refine y_aload_n C dX8_film_48 rfl ?_
      obtain ⟨g2, h⟩ := gd h
      obtain ⟨r3, hr3, h⟩ := ob h
      refine y_cV C [] (m_X8_dayOf K M t) hr3 g2 cw_X8_251 rfl (by decide) ⟨rfl, rfl⟩ ⟨Nat.zero_le _, Nat.zero_le _⟩ (Nat.le_of_ble_eq_true rfl) rfl rfl rfl dX8_film_49 ?_
      refine y_aload_n C dX8_film_52 rfl ?_
      obtain ⟨q4, hq4, h⟩ := ob h
      refine y_getr C fl_X8_50 g2 hq4 dX8_film_53 ?_
      refine y_bipush C dX8_film_56 kb_40 ?_
      refine y_iload_n C dX8_film_58 rfl ?_
      refine y_imul C dX8_film_59 ?_
      refine y_iload_n C dX8_film_60 rfl ?_
      refine y_iadd C dX8_film_61 ?_
      refine y_iload_n C dX8_film_62 rfl ?_
      refine y_iload_n C dX8_film_63 rfl ?_
      obtain ⟨j6, hj6, h⟩ := ob h
      have hJj6 : Y X K j6.2 0 0 75 [(0, .ref t), (1, .int x_1), (2, .int x_2), (3, .int u42_3)] [.int j6.1, .int (((40 : Int32) * x_1) + u42_3), .ref q4] := by
        obtain ⟨g8, h⟩ := gd h
        obtain ⟨M9, eM9, h⟩ := ob h
        have eM9 := Option.some.inj eM9
        refine y_iast C g8 dX8_film_75 eM9 ?_
        obtain ⟨v10, ev10, h⟩ := ob h
        have ev10 := Option.some.inj ev10
        refine y_iinc C dX8_film_76 (by decide) rfl (v := v10) (by subst ev10; rfl) (L' := [(3, .int v10), (0, .ref t), (1, .int x_1), (2, .int x_2)]) rfl ?_
        refine y_goto C dX8_film_79 (tgt := 42) rfl ?_
        exact y_sel [0, 1, 2, 3] rfl (ih _ _ _  h hX)
      replace h := hj6
      refine y_icmp_ge C dX8_film_64 (tgt := 74) rfl (fun c5 => ?_) (fun c5 => ?_)
      · have h := itT c5 h
        refine y_iconst C dX8_film_74 kc_0 ?_
        have e0 := Option.some.inj h
        subst e0
        exact y_sel [0, 1, 2, 3] rfl hJj6
      · have h := itF c5 h
        refine y_aload_n C dX8_film_67 rfl ?_
        obtain ⟨r7, hr7, h⟩ := ob h
        refine y_cV C [] (m_X8_holding K r3 t) hr7 g2 cw_X8_230 rfl (by decide) ⟨rfl, rfl⟩ ⟨Nat.zero_le _, Nat.zero_le _⟩ (Nat.le_of_ble_eq_true rfl) rfl rfl rfl dX8_film_68 ?_
        refine y_goto C dX8_film_71 (tgt := 75) rfl ?_
        have e0 := Option.some.inj h
        subst e0
        exact y_sel [0, 1, 2, 3] rfl hJj6
set_option maxRecDepth 100000 in
def b_X8_film (K : yK) (M : yM) (t : Nat) (x1 : Int32) (x2 : Int32) : Option (Int32 × yM) := (Option.bind (b_X8_in K M x1 ((0 : Int32)) ((3 : Int32))) fun r1 => (if r1 = true then (Option.bind (b_X8_in K M x2 ((0 : Int32)) ((40 : Int32))) fun r3 => (if r3 = true then (if gO K t 7 = true then (Option.bind (K.2.2 t 24) fun q6 => (if gA K q6 x1 = true then (Option.bind (some (yS M q6 (x1).toNatClampNeg (1 : Int32))) fun M8 => (Option.bind (K.2.2 t 25) fun q9 => (if gA K q9 x1 = true then (Option.bind (some (yS M8 q9 (x1).toNatClampNeg x2)) fun M11 => (Option.bind (b_X8_keeps K M11 t) fun r12 => (Option.bind (b_X8_film_42 K t x1 x2 1000 r12 ((0 : Int32))) fun j13 => (Option.bind (b_X8_laysBack K j13 t) fun r14 => (some (x2, r14)))))) else none))) else none)) else none) else (some ((-2 : Int32), M)))) else (some ((-2 : Int32), M))))
set_option maxHeartbeats 4000000 in
set_option maxRecDepth 100000 in
theorem m_X8_film (K : yK) (M : yM) (t : Nat) (x1 : Int32) (x2 : Int32) : yMet yX8_film cX8_film 4 (Option.some Jvm.ClassFile.FieldType.int) rm_X8_film K M [.ref t, .int x1, .int x2] (b_X8_film K M t x1 x2) (yGi K) := by
  refine yM_intro (by decide) (Nat.le_of_ble_eq_true rfl) (fun X r h C E => ?_)
  replace C : yCx X cX8_film RX8 "film" rm_X8_film 4 := C
  show Y X K M 0 0 0 [(0, .ref t), (1, .int x1), (2, .int x2)] []
  unfold b_X8_film at h
  refine y_iload_n C dX8_film_0 rfl ?_
  refine y_iconst C dX8_film_1 kc_0 ?_
  refine y_iconst C dX8_film_2 kc_3 ?_
  obtain ⟨r1, hr1, h⟩ := ob h
  refine y_cS C [.int x1, .int (0 : Int32), .int (3 : Int32)] (m_X8_in K M x1 ((0 : Int32)) ((3 : Int32))) hr1 cw_X8_90 rfl (by decide) ⟨rfl, rfl⟩ ⟨Nat.zero_le _, Nat.zero_le _⟩ (Nat.le_of_ble_eq_true rfl) rfl rfl rfl dX8_film_3 ?_
  refine y_ifeqB C dX8_film_6 (tgt := 19) rfl (fun c2 => ?_) (fun c2 => ?_)
  · have h := itFb c2 h
    refine y_bipush C dX8_film_19 kb_m2 ?_
    have e0 := Option.some.inj h
    subst e0
    exact y_iret C E (Nat.zero_le _) (Nat.zero_le _) dX8_film_21
  · have h := itT c2 h
    refine y_iload_n C dX8_film_9 rfl ?_
    refine y_iconst C dX8_film_10 kc_0 ?_
    refine y_bipush C dX8_film_11 kb_40 ?_
    obtain ⟨r3, hr3, h⟩ := ob h
    refine y_cS C [.int x2, .int (0 : Int32), .int (40 : Int32)] (m_X8_in K M x2 ((0 : Int32)) ((40 : Int32))) hr3 cw_X8_90 rfl (by decide) ⟨rfl, rfl⟩ ⟨Nat.zero_le _, Nat.zero_le _⟩ (Nat.le_of_ble_eq_true rfl) rfl rfl rfl dX8_film_13 ?_
    refine y_ifneB C dX8_film_16 (tgt := 22) rfl (fun c4 => ?_) (fun c4 => ?_)
    · have h := itT c4 h
      refine y_aload_n C dX8_film_22 rfl ?_
      obtain ⟨g5, h⟩ := gd h
      obtain ⟨q6, hq6, h⟩ := ob h
      refine y_getr C fl_X8_44 g5 hq6 dX8_film_23 ?_
      refine y_iload_n C dX8_film_26 rfl ?_
      refine y_iconst C dX8_film_27 kc_1 ?_
      obtain ⟨g7, h⟩ := gd h
      obtain ⟨M8, eM8, h⟩ := ob h
      have eM8 := Option.some.inj eM8
      refine y_iast C g7 dX8_film_28 eM8 ?_
      refine y_aload_n C dX8_film_29 rfl ?_
      obtain ⟨q9, hq9, h⟩ := ob h
      refine y_getr C fl_X8_47 g5 hq9 dX8_film_30 ?_
      refine y_iload_n C dX8_film_33 rfl ?_
      refine y_iload_n C dX8_film_34 rfl ?_
      obtain ⟨g10, h⟩ := gd h
      obtain ⟨M11, eM11, h⟩ := ob h
      have eM11 := Option.some.inj eM11
      refine y_iast C g10 dX8_film_35 eM11 ?_
      refine y_aload_n C dX8_film_36 rfl ?_
      obtain ⟨r12, hr12, h⟩ := ob h
      refine y_cV C [] (m_X8_keeps K M11 t) hr12 g5 cw_X8_275 rfl (by decide) ⟨rfl, rfl⟩ ⟨Nat.zero_le _, Nat.zero_le _⟩ (Nat.le_of_ble_eq_true rfl) rfl rfl rfl dX8_film_37 ?_
      refine y_iconst C dX8_film_40 kc_0 ?_
      refine y_istore_n C dX8_film_41 (by decide) (L' := [(3, .int (0)), (0, .ref t), (1, .int x1), (2, .int x2)]) rfl ?_
      obtain ⟨j13, hj13, h⟩ := ob h
      refine y_sel [0, 1, 2, 3] rfl (l_X8_film_42 C 1000 _ _ _ hj13 ?_)
      refine y_aload_n C dX8_film_82 rfl ?_
      obtain ⟨r14, hr14, h⟩ := ob h
      refine y_cV C [] (m_X8_laysBack K j13 t) hr14 g5 cw_X8_281 rfl (by decide) ⟨rfl, rfl⟩ ⟨Nat.zero_le _, Nat.zero_le _⟩ (Nat.le_of_ble_eq_true rfl) rfl rfl rfl dX8_film_83 ?_
      refine y_iload_n C dX8_film_86 rfl ?_
      have e0 := Option.some.inj h
      subst e0
      exact y_iret C E (Nat.zero_le _) (Nat.zero_le _) dX8_film_87
    · have h := itFb c4 h
      refine y_bipush C dX8_film_19 kb_m2 ?_
      have e0 := Option.some.inj h
      subst e0
      exact y_iret C E (Nat.zero_le _) (Nat.zero_le _) dX8_film_21
set_option maxRecDepth 100000 in
def b_X8_force (K : yK) (M : yM) (t : Nat) (x1 : Int32) : Option (Int32 × yM) := (if gO K t 7 = true then (Option.bind (b_X8_in K M x1 ((0 : Int32)) (((M t 15) - (1 : Int32)))) fun r2 => (if r2 = true then (Option.bind (some (M t 16)) fun v4 => (Option.bind (some (yS M t 16 x1)) fun M5 => (some (v4, M5)))) else (some ((-2 : Int32), M)))) else none)
set_option maxHeartbeats 4000000 in
set_option maxRecDepth 100000 in
theorem m_X8_force (K : yK) (M : yM) (t : Nat) (x1 : Int32) : yMet yX8_force cX8_force 3 (Option.some Jvm.ClassFile.FieldType.int) rm_X8_force K M [.ref t, .int x1] (b_X8_force K M t x1) (yGi K) := by
  refine yM_intro (by decide) (Nat.le_of_ble_eq_true rfl) (fun X r h C E => ?_)
  replace C : yCx X cX8_force RX8 "force" rm_X8_force 3 := C
  show Y X K M 0 0 0 [(0, .ref t), (1, .int x1)] []
  unfold b_X8_force at h
  refine y_iload_n C dX8_force_0 rfl ?_
  refine y_iconst C dX8_force_1 kc_0 ?_
  refine y_aload_n C dX8_force_2 rfl ?_
  obtain ⟨g1, h⟩ := gd h
  refine y_geti C fl_X8_113 g1 dX8_force_3 ?_
  refine y_iconst C dX8_force_6 kc_1 ?_
  refine y_isub C dX8_force_7 ?_
  obtain ⟨r2, hr2, h⟩ := ob h
  refine y_cS C [.int x1, .int (0 : Int32), .int ((M t 15) - (1 : Int32))] (m_X8_in K M x1 ((0 : Int32)) (((M t 15) - (1 : Int32)))) hr2 cw_X8_90 rfl (by decide) ⟨rfl, rfl⟩ ⟨Nat.zero_le _, Nat.zero_le _⟩ (Nat.le_of_ble_eq_true rfl) rfl rfl rfl dX8_force_8 ?_
  refine y_ifneB C dX8_force_11 (tgt := 17) rfl (fun c3 => ?_) (fun c3 => ?_)
  · have h := itT c3 h
    refine y_aload_n C dX8_force_17 rfl ?_
    refine y_geti C fl_X8_116 g1 dX8_force_18 ?_
    obtain ⟨v4, ev4, h⟩ := ob h
    have ev4 := Option.some.inj ev4
    refine y_istore_n C dX8_force_21 (by decide) (L' := [(2, .int v4), (0, .ref t), (1, .int x1)]) (by subst ev4; rfl) ?_
    refine y_aload_n C dX8_force_22 rfl ?_
    refine y_iload_n C dX8_force_23 rfl ?_
    obtain ⟨M5, eM5, h⟩ := ob h
    have eM5 := Option.some.inj eM5
    refine y_puti C fl_X8_116 rfl g1 rfl rfl dX8_force_24 eM5 ?_
    refine y_iload_n C dX8_force_27 rfl ?_
    have e0 := Option.some.inj h
    subst e0
    exact y_iret C E (Nat.zero_le _) (Nat.zero_le _) dX8_force_28
  · have h := itFb c3 h
    refine y_bipush C dX8_force_14 kb_m2 ?_
    have e0 := Option.some.inj h
    subst e0
    exact y_iret C E (Nat.zero_le _) (Nat.zero_le _) dX8_force_16
set_option maxRecDepth 100000 in
def b_X8_goesTo (K : yK) (M : yM) (t : Nat) (x1 : Int32) (x2 : Int32) (x3 : Int32) : Option (Int32 × yM) := (if gO K t 7 = true then (Option.bind (K.2.2 t 3) fun q2 => (if gA K q2 (((3 : Int32) * x1) + (1 : Int32)) = true then (Option.bind (some (M q2 ((((3 : Int32) * x1) + (1 : Int32))).toNatClampNeg)) fun v4 => (Option.bind (some (yS M q2 ((((3 : Int32) * x1) + (1 : Int32))).toNatClampNeg x2)) fun M5 => (Option.bind (b_X8_goes K M5 t x3) fun r6 => (Option.bind (some (yS r6.2 q2 ((((3 : Int32) * x1) + (1 : Int32))).toNatClampNeg v4)) fun M7 => (some (r6.1, M7)))))) else none)) else none)
set_option maxHeartbeats 4000000 in
set_option maxRecDepth 100000 in
theorem m_X8_goesTo (K : yK) (M : yM) (t : Nat) (x1 : Int32) (x2 : Int32) (x3 : Int32) : yMet yX8_goesTo cX8_goesTo 6 (Option.some Jvm.ClassFile.FieldType.int) rm_X8_goesTo K M [.ref t, .int x1, .int x2, .int x3] (b_X8_goesTo K M t x1 x2 x3) (yGi K) := by
  refine yM_intro (by decide) (Nat.le_of_ble_eq_true rfl) (fun X r h C E => ?_)
  replace C : yCx X cX8_goesTo RX8 "goesTo" rm_X8_goesTo 6 := C
  show Y X K M 0 0 0 [(0, .ref t), (1, .int x1), (2, .int x2), (3, .int x3)] []
  unfold b_X8_goesTo at h
  refine y_aload_n C dX8_goesTo_0 rfl ?_
  obtain ⟨g1, h⟩ := gd h
  obtain ⟨q2, hq2, h⟩ := ob h
  refine y_getr C fl_X8_16 g1 hq2 dX8_goesTo_1 ?_
  refine y_iconst C dX8_goesTo_4 kc_3 ?_
  refine y_iload_n C dX8_goesTo_5 rfl ?_
  refine y_imul C dX8_goesTo_6 ?_
  refine y_iconst C dX8_goesTo_7 kc_1 ?_
  refine y_iadd C dX8_goesTo_8 ?_
  obtain ⟨g3, h⟩ := gd h
  refine y_iald C g3 dX8_goesTo_9 ?_
  obtain ⟨v4, ev4, h⟩ := ob h
  have ev4 := Option.some.inj ev4
  refine y_istore C dX8_goesTo_10 (by decide) (L' := [(4, .int v4), (0, .ref t), (1, .int x1), (2, .int x2), (3, .int x3)]) (by subst ev4; rfl) ?_
  refine y_aload_n C dX8_goesTo_12 rfl ?_
  refine y_getr C fl_X8_16 g1 hq2 dX8_goesTo_13 ?_
  refine y_iconst C dX8_goesTo_16 kc_3 ?_
  refine y_iload_n C dX8_goesTo_17 rfl ?_
  refine y_imul C dX8_goesTo_18 ?_
  refine y_iconst C dX8_goesTo_19 kc_1 ?_
  refine y_iadd C dX8_goesTo_20 ?_
  refine y_iload_n C dX8_goesTo_21 rfl ?_
  obtain ⟨M5, eM5, h⟩ := ob h
  have eM5 := Option.some.inj eM5
  refine y_iast C g3 dX8_goesTo_22 eM5 ?_
  refine y_aload_n C dX8_goesTo_23 rfl ?_
  refine y_iload_n C dX8_goesTo_24 rfl ?_
  obtain ⟨r6, hr6, h⟩ := ob h
  refine y_cV C [.int x3] (m_X8_goes K M5 t x3) hr6 g1 cw_X8_284 rfl (by decide) ⟨rfl, rfl⟩ ⟨Nat.zero_le _, Nat.zero_le _⟩ (Nat.le_of_ble_eq_true rfl) rfl rfl rfl dX8_goesTo_25 ?_
  refine y_istore C dX8_goesTo_28 (by decide) (L' := [(5, .int r6.1), (4, .int v4), (0, .ref t), (1, .int x1), (2, .int x2), (3, .int x3)]) rfl ?_
  refine y_aload_n C dX8_goesTo_30 rfl ?_
  refine y_getr C fl_X8_16 g1 hq2 dX8_goesTo_31 ?_
  refine y_iconst C dX8_goesTo_34 kc_3 ?_
  refine y_iload_n C dX8_goesTo_35 rfl ?_
  refine y_imul C dX8_goesTo_36 ?_
  refine y_iconst C dX8_goesTo_37 kc_1 ?_
  refine y_iadd C dX8_goesTo_38 ?_
  refine y_iload C dX8_goesTo_39 rfl ?_
  obtain ⟨M7, eM7, h⟩ := ob h
  have eM7 := Option.some.inj eM7
  refine y_iast C g3 dX8_goesTo_41 eM7 ?_
  refine y_iload C dX8_goesTo_42 rfl ?_
  have e0 := Option.some.inj h
  subst e0
  exact y_iret C E (Nat.zero_le _) (Nat.zero_le _) dX8_goesTo_44
def b_X8_image_31 (K : yK) (t : Nat) : Nat → yM → Int32 → Option yM
  | 0, _, _ => none
  | n + 1, M, u31_1 => (if (36 : Int32) ≤ u31_1 then (some M) else (if gO K t 7 = true then (Option.bind (K.2.2 t 21) fun q3 => (Option.bind (K.2.2 t 3) fun q4 => (if gA K q4 u31_1 = true then (if gA K q3 u31_1 = true then (Option.bind (some (yS M q3 (u31_1).toNatClampNeg (M q4 (u31_1).toNatClampNeg))) fun M7 => (Option.bind (some (u31_1 + (1 : Int32))) fun v8 => (b_X8_image_31 K t n M7 v8))) else none) else none))) else none))
set_option maxHeartbeats 4000000 in
set_option maxRecDepth 100000 in
theorem l_X8_image_31 {X : yX} {K : yK} {t : Nat} (C : yCx X cX8_image RX8 "image" rm_X8_image 2) : ∀ (n : Nat) (M : yM) (u31_1 : Int32) (x : yM), b_X8_image_31 K t n M u31_1 = some x → ∀ (hX : Y X K x 0 0 55 [(0, .ref t)] []), Y X K M 0 0 31 [(0, .ref t), (1, .int u31_1)] [] := by
  intro n
  induction n with
  | zero =>
    intro M u31_1 x h
    exact nomatch (show (none : Option _) = some x from h)
  | succ n ih =>
    intro M u31_1 x h hX
    rw [b_X8_image_31] at h
    refine y_iload_n C dX8_image_31 rfl ?_
    refine y_bipush C dX8_image_32 kb_36 ?_
    refine y_icmp_ge C dX8_image_34 (tgt := 55) rfl (fun c1 => ?_) (fun c1 => ?_)
    · have h := itT c1 h
      have e0 := Option.some.inj h
      subst e0
      exact y_sel [0] rfl hX
    · have h := itF c1 h
      refine y_aload_n C dX8_image_37 rfl ?_
      obtain ⟨g2, h⟩ := gd h
      obtain ⟨q3, hq3, h⟩ := ob h
      refine y_getr C fl_X8_35 g2 hq3 dX8_image_38 ?_
      refine y_iload_n C dX8_image_41 rfl ?_
      refine y_aload_n C dX8_image_42 rfl ?_
      obtain ⟨q4, hq4, h⟩ := ob h
      refine y_getr C fl_X8_16 g2 hq4 dX8_image_43 ?_
      refine y_iload_n C dX8_image_46 rfl ?_
      obtain ⟨g5, h⟩ := gd h
      refine y_iald C g5 dX8_image_47 ?_
      obtain ⟨g6, h⟩ := gd h
      obtain ⟨M7, eM7, h⟩ := ob h
      have eM7 := Option.some.inj eM7
      refine y_iast C g6 dX8_image_48 eM7 ?_
      obtain ⟨v8, ev8, h⟩ := ob h
      have ev8 := Option.some.inj ev8
      refine y_iinc C dX8_image_49 (by decide) rfl (v := v8) (by subst ev8; rfl) (L' := [(1, .int v8), (0, .ref t)]) rfl ?_
      refine y_goto C dX8_image_52 (tgt := 31) rfl ?_
      exact y_sel [0, 1] rfl (ih _ _ _  h hX)
def b_X8_image_57 (K : yK) (t : Nat) : Nat → yM → Int32 → Option yM
  | 0, _, _ => none
  | n + 1, M, u57_1 => (if (6 : Int32) ≤ u57_1 then (some M) else (if gO K t 7 = true then (Option.bind (K.2.2 t 22) fun q3 => (Option.bind (K.2.2 t 5) fun q4 => (if gA K q4 u57_1 = true then (if gA K q3 u57_1 = true then (Option.bind (some (yS M q3 (u57_1).toNatClampNeg (M q4 (u57_1).toNatClampNeg))) fun M7 => (Option.bind (some (u57_1 + (1 : Int32))) fun v8 => (b_X8_image_57 K t n M7 v8))) else none) else none))) else none))
set_option maxHeartbeats 4000000 in
set_option maxRecDepth 100000 in
theorem l_X8_image_57 {X : yX} {K : yK} {t : Nat} (C : yCx X cX8_image RX8 "image" rm_X8_image 2) : ∀ (n : Nat) (M : yM) (u57_1 : Int32) (x : yM), b_X8_image_57 K t n M u57_1 = some x → ∀ (hX : Y X K x 0 0 81 [(0, .ref t)] []), Y X K M 0 0 57 [(0, .ref t), (1, .int u57_1)] [] := by
  intro n
  induction n with
  | zero =>
    intro M u57_1 x h
    exact nomatch (show (none : Option _) = some x from h)
  | succ n ih =>
    intro M u57_1 x h hX
    rw [b_X8_image_57] at h
    refine y_iload_n C dX8_image_57 rfl ?_
    refine y_bipush C dX8_image_58 kb_6 ?_
    refine y_icmp_ge C dX8_image_60 (tgt := 81) rfl (fun c1 => ?_) (fun c1 => ?_)
    · have h := itT c1 h
      have e0 := Option.some.inj h
      subst e0
      exact y_sel [0] rfl hX
    · have h := itF c1 h
      refine y_aload_n C dX8_image_63 rfl ?_
      obtain ⟨g2, h⟩ := gd h
      obtain ⟨q3, hq3, h⟩ := ob h
      refine y_getr C fl_X8_38 g2 hq3 dX8_image_64 ?_
      refine y_iload_n C dX8_image_67 rfl ?_
      refine y_aload_n C dX8_image_68 rfl ?_
      obtain ⟨q4, hq4, h⟩ := ob h
      refine y_getr C fl_X8_19 g2 hq4 dX8_image_69 ?_
      refine y_iload_n C dX8_image_72 rfl ?_
      obtain ⟨g5, h⟩ := gd h
      refine y_iald C g5 dX8_image_73 ?_
      obtain ⟨g6, h⟩ := gd h
      obtain ⟨M7, eM7, h⟩ := ob h
      have eM7 := Option.some.inj eM7
      refine y_iast C g6 dX8_image_74 eM7 ?_
      obtain ⟨v8, ev8, h⟩ := ob h
      have ev8 := Option.some.inj ev8
      refine y_iinc C dX8_image_75 (by decide) rfl (v := v8) (by subst ev8; rfl) (L' := [(1, .int v8), (0, .ref t)]) rfl ?_
      refine y_goto C dX8_image_78 (tgt := 57) rfl ?_
      exact y_sel [0, 1] rfl (ih _ _ _  h hX)
set_option maxRecDepth 100000 in
def b_X8_image (K : yK) (M : yM) (t : Nat) : Option (Int32 × yM) := (if gO K t 7 = true then (Option.bind (some (yS M t 17 (1 : Int32))) fun M2 => (Option.bind (some (yS M2 t 18 (M2 t 0))) fun M3 => (Option.bind (some (yS M3 t 19 (M3 t 4))) fun M4 => (Option.bind (some (yS M4 t 20 (M4 t 16))) fun M5 => (Option.bind (b_X8_image_31 K t 1000 M5 ((0 : Int32))) fun j6 => (Option.bind (b_X8_image_57 K t 1000 j6 ((0 : Int32))) fun j7 => (Option.bind (K.2.2 t 23) fun q8 => (if gA K q8 (0 : Int32) = true then (Option.bind (some (yS j7 q8 ((0 : Int32)).toNatClampNeg (j7 t 6))) fun M10 => (if gA K q8 (1 : Int32) = true then (Option.bind (some (yS M10 q8 ((1 : Int32)).toNatClampNeg (M10 t 7))) fun M12 => (if gA K q8 (2 : Int32) = true then (Option.bind (some (yS M12 q8 ((2 : Int32)).toNatClampNeg (M12 t 8))) fun M14 => (if gA K q8 (3 : Int32) = true then (Option.bind (some (yS M14 q8 ((3 : Int32)).toNatClampNeg (M14 t 9))) fun M16 => (if gA K q8 (4 : Int32) = true then (Option.bind (some (yS M16 q8 ((4 : Int32)).toNatClampNeg (M16 t 10))) fun M18 => (some ((M18 t 0), M18))) else none)) else none)) else none)) else none)) else none)))))))) else none)
set_option maxHeartbeats 4000000 in
set_option maxRecDepth 100000 in
theorem m_X8_image (K : yK) (M : yM) (t : Nat) : yMet yX8_image cX8_image 2 (Option.some Jvm.ClassFile.FieldType.int) rm_X8_image K M [.ref t] (b_X8_image K M t) (yGi K) := by
  refine yM_intro (by decide) (Nat.le_of_ble_eq_true rfl) (fun X r h C E => ?_)
  replace C : yCx X cX8_image RX8 "image" rm_X8_image 2 := C
  show Y X K M 0 0 0 [(0, .ref t)] []
  unfold b_X8_image at h
  refine y_aload_n C dX8_image_0 rfl ?_
  refine y_iconst C dX8_image_1 kc_1 ?_
  obtain ⟨g1, h⟩ := gd h
  obtain ⟨M2, eM2, h⟩ := ob h
  have eM2 := Option.some.inj eM2
  refine y_puti C fl_X8_321 rfl g1 rfl rfl dX8_image_2 eM2 ?_
  refine y_aload_n C dX8_image_5 rfl ?_
  refine y_aload_n C dX8_image_6 rfl ?_
  refine y_geti C fl_X8_87 g1 dX8_image_7 ?_
  obtain ⟨M3, eM3, h⟩ := ob h
  have eM3 := Option.some.inj eM3
  refine y_puti C fl_X8_325 rfl g1 rfl rfl dX8_image_10 eM3 ?_
  refine y_aload_n C dX8_image_13 rfl ?_
  refine y_aload_n C dX8_image_14 rfl ?_
  refine y_geti C fl_X8_94 g1 dX8_image_15 ?_
  obtain ⟨M4, eM4, h⟩ := ob h
  have eM4 := Option.some.inj eM4
  refine y_puti C fl_X8_328 rfl g1 rfl rfl dX8_image_18 eM4 ?_
  refine y_aload_n C dX8_image_21 rfl ?_
  refine y_aload_n C dX8_image_22 rfl ?_
  refine y_geti C fl_X8_116 g1 dX8_image_23 ?_
  obtain ⟨M5, eM5, h⟩ := ob h
  have eM5 := Option.some.inj eM5
  refine y_puti C fl_X8_331 rfl g1 rfl rfl dX8_image_26 eM5 ?_
  refine y_iconst C dX8_image_29 kc_0 ?_
  refine y_istore_n C dX8_image_30 (by decide) (L' := [(1, .int (0)), (0, .ref t)]) rfl ?_
  obtain ⟨j6, hj6, h⟩ := ob h
  refine y_sel [0, 1] rfl (l_X8_image_31 C 1000 _ _ _ hj6 ?_)
  refine y_iconst C dX8_image_55 kc_0 ?_
  refine y_istore_n C dX8_image_56 (by decide) (L' := [(1, .int (0)), (0, .ref t)]) rfl ?_
  obtain ⟨j7, hj7, h⟩ := ob h
  refine y_sel [0, 1] rfl (l_X8_image_57 C 1000 _ _ _ hj7 ?_)
  refine y_aload_n C dX8_image_81 rfl ?_
  obtain ⟨q8, hq8, h⟩ := ob h
  refine y_getr C fl_X8_41 g1 hq8 dX8_image_82 ?_
  refine y_iconst C dX8_image_85 kc_0 ?_
  refine y_aload_n C dX8_image_86 rfl ?_
  refine y_geti C fl_X8_104 g1 dX8_image_87 ?_
  obtain ⟨g9, h⟩ := gd h
  obtain ⟨M10, eM10, h⟩ := ob h
  have eM10 := Option.some.inj eM10
  refine y_iast C g9 dX8_image_90 eM10 ?_
  refine y_aload_n C dX8_image_91 rfl ?_
  refine y_getr C fl_X8_41 g1 hq8 dX8_image_92 ?_
  refine y_iconst C dX8_image_95 kc_1 ?_
  refine y_aload_n C dX8_image_96 rfl ?_
  refine y_geti C fl_X8_107 g1 dX8_image_97 ?_
  obtain ⟨g11, h⟩ := gd h
  obtain ⟨M12, eM12, h⟩ := ob h
  have eM12 := Option.some.inj eM12
  refine y_iast C g11 dX8_image_100 eM12 ?_
  refine y_aload_n C dX8_image_101 rfl ?_
  refine y_getr C fl_X8_41 g1 hq8 dX8_image_102 ?_
  refine y_iconst C dX8_image_105 kc_2 ?_
  refine y_aload_n C dX8_image_106 rfl ?_
  refine y_geti C fl_X8_22 g1 dX8_image_107 ?_
  obtain ⟨g13, h⟩ := gd h
  obtain ⟨M14, eM14, h⟩ := ob h
  have eM14 := Option.some.inj eM14
  refine y_iast C g13 dX8_image_110 eM14 ?_
  refine y_aload_n C dX8_image_111 rfl ?_
  refine y_getr C fl_X8_41 g1 hq8 dX8_image_112 ?_
  refine y_iconst C dX8_image_115 kc_3 ?_
  refine y_aload_n C dX8_image_116 rfl ?_
  refine y_geti C fl_X8_110 g1 dX8_image_117 ?_
  obtain ⟨g15, h⟩ := gd h
  obtain ⟨M16, eM16, h⟩ := ob h
  have eM16 := Option.some.inj eM16
  refine y_iast C g15 dX8_image_120 eM16 ?_
  refine y_aload_n C dX8_image_121 rfl ?_
  refine y_getr C fl_X8_41 g1 hq8 dX8_image_122 ?_
  refine y_iconst C dX8_image_125 kc_4 ?_
  refine y_aload_n C dX8_image_126 rfl ?_
  refine y_geti C fl_X8_215 g1 dX8_image_127 ?_
  obtain ⟨g17, h⟩ := gd h
  obtain ⟨M18, eM18, h⟩ := ob h
  have eM18 := Option.some.inj eM18
  refine y_iast C g17 dX8_image_130 eM18 ?_
  refine y_aload_n C dX8_image_131 rfl ?_
  refine y_geti C fl_X8_87 g1 dX8_image_132 ?_
  have e0 := Option.some.inj h
  subst e0
  exact y_iret C E (Nat.zero_le _) (Nat.zero_le _) dX8_image_135
def b_X8_text_26 (K : yK) (t : Nat) : Nat → yM → Bool → Int32 → Option (Bool × yM)
  | 0, _, _, _ => none
  | n + 1, M, u26_1, u26_2 => (if (3 : Int32) ≤ u26_2 then (some (u26_1, M)) else (if u26_1 = true then (if gO K t 7 = true then (Option.bind (b_X8_next K M t) fun r4 => (Option.bind (if (r4 t 30) = (3 : Int32) then (if (r4 t 31) = u26_2 then (some true) else (some false)) else (some false)) fun j6 => (Option.bind (K.2.2 t 14) fun q8 => (if gA K q8 (((4 : Int32) * (r4 t 15)) + u26_2) = true then (Option.bind (some (yS r4 q8 ((((4 : Int32) * (r4 t 15)) + u26_2)).toNatClampNeg (r4 t 36))) fun M10 => (Option.bind (if j6 = true then (Option.bind (b_X8_eRead K M10 t) fun r13 => (if r13.1 = true then (some (true, r13.2)) else (some (false, r13.2)))) else (some (false, M10))) fun j12 => (Option.bind (some (u26_2 + (1 : Int32))) fun v15 => (b_X8_text_26 K t n j12.2 j12.1 v15)))) else none)))) else none) else (some (u26_1, M))))
set_option maxHeartbeats 4000000 in
set_option maxRecDepth 100000 in
theorem l_X8_text_26 {X : yX} {K : yK} {t : Nat} (C : yCx X cX8_text RX8 "text" rm_X8_text 3) : ∀ (n : Nat) (M : yM) (u26_1 : Bool) (u26_2 : Int32) (x : (Bool × yM)), b_X8_text_26 K t n M u26_1 u26_2 = some x → ∀ (hX : Y X K x.2 0 0 101 [(0, .ref t), (1, .int (bI x.1))] []), Y X K M 0 0 26 [(0, .ref t), (1, .int (bI u26_1)), (2, .int u26_2)] [] := by
  intro n
  induction n with
  | zero =>
    intro M u26_1 u26_2 x h
    exact nomatch (show (none : Option _) = some x from h)
  | succ n ih =>
    intro M u26_1 u26_2 x h hX
    rw [b_X8_text_26] at h
    refine y_iload_n C dX8_text_26 rfl ?_
    refine y_iconst C dX8_text_27 kc_3 ?_
    refine y_icmp_ge C dX8_text_28 (tgt := 101) rfl (fun c1 => ?_) (fun c1 => ?_)
    · have h := itT c1 h
      have e0 := Option.some.inj h
      subst e0
      exact y_sel [0, 1] rfl hX
    · have h := itF c1 h
      refine y_iload_n C dX8_text_31 rfl ?_
      refine y_ifeqB C dX8_text_32 (tgt := 101) rfl (fun c2 => ?_) (fun c2 => ?_)
      · have h := itFb c2 h
        have e0 := Option.some.inj h
        subst e0
        exact y_sel [0, 1] rfl hX
      · have h := itT c2 h
        refine y_aload_n C dX8_text_35 rfl ?_
        obtain ⟨g3, h⟩ := gd h
        obtain ⟨r4, hr4, h⟩ := ob h
        refine y_cV C [] (m_X8_next K M t) hr4 g3 cw_X8_178 rfl (by decide) ⟨rfl, rfl⟩ ⟨Nat.zero_le _, Nat.zero_le _⟩ (Nat.le_of_ble_eq_true rfl) rfl rfl rfl dX8_text_36 ?_
        refine y_aload_n C dX8_text_39 rfl ?_
        refine y_geti C fl_X8_146 g3 dX8_text_40 ?_
        refine y_iconst C dX8_text_43 kc_3 ?_
        obtain ⟨j6, hj6, h⟩ := ob h
        have hJj6 : Y X K r4 0 0 60 [(0, .ref t), (2, .int u26_2)] [.int (bI j6)] := by
          refine y_istore_n C dX8_text_60 (by decide) (L' := [(1, .int (bI j6)), (0, .ref t), (2, .int u26_2)]) rfl ?_
          refine y_aload_n C dX8_text_61 rfl ?_
          obtain ⟨q8, hq8, h⟩ := ob h
          refine y_getr C fl_X8_32 g3 hq8 dX8_text_62 ?_
          refine y_iconst C dX8_text_65 kc_4 ?_
          refine y_aload_n C dX8_text_66 rfl ?_
          refine y_geti C fl_X8_113 g3 dX8_text_67 ?_
          refine y_imul C dX8_text_70 ?_
          refine y_iload_n C dX8_text_71 rfl ?_
          refine y_iadd C dX8_text_72 ?_
          refine y_aload_n C dX8_text_73 rfl ?_
          refine y_geti C fl_X8_156 g3 dX8_text_74 ?_
          obtain ⟨g9, h⟩ := gd h
          obtain ⟨M10, eM10, h⟩ := ob h
          have eM10 := Option.some.inj eM10
          refine y_iast C g9 dX8_text_77 eM10 ?_
          refine y_iload_n C dX8_text_78 rfl ?_
          obtain ⟨j12, hj12, h⟩ := ob h
          have hJj12 : Y X K j12.2 0 0 94 [(0, .ref t), (2, .int u26_2)] [.int (bI j12.1)] := by
            refine y_istore_n C dX8_text_94 (by decide) (L' := [(1, .int (bI j12.1)), (0, .ref t), (2, .int u26_2)]) rfl ?_
            obtain ⟨v15, ev15, h⟩ := ob h
            have ev15 := Option.some.inj ev15
            refine y_iinc C dX8_text_95 (by decide) rfl (v := v15) (by subst ev15; rfl) (L' := [(2, .int v15), (1, .int (bI j12.1)), (0, .ref t)]) rfl ?_
            refine y_goto C dX8_text_98 (tgt := 26) rfl ?_
            exact y_sel [0, 1, 2] rfl (ih _ _ _ _  h hX)
          replace h := hj12
          refine y_ifeqB C dX8_text_79 (tgt := 93) rfl (fun c11 => ?_) (fun c11 => ?_)
          · have h := itFb c11 h
            refine y_iconst C dX8_text_93 kc_0 ?_
            have e0 := Option.some.inj h
            subst e0
            exact y_sel [0, 2] rfl hJj12
          · have h := itT c11 h
            refine y_aload_n C dX8_text_82 rfl ?_
            obtain ⟨r13, hr13, h⟩ := ob h
            refine y_cV C [] (m_X8_eRead K M10 t) hr13 g3 cw_X8_191 rfl (by decide) ⟨rfl, rfl⟩ ⟨Nat.zero_le _, Nat.zero_le _⟩ (Nat.le_of_ble_eq_true rfl) rfl rfl rfl dX8_text_83 ?_
            refine y_ifeqB C dX8_text_86 (tgt := 93) rfl (fun c14 => ?_) (fun c14 => ?_)
            · have h := itFb c14 h
              refine y_iconst C dX8_text_93 kc_0 ?_
              have e0 := Option.some.inj h
              subst e0
              exact y_sel [0, 2] rfl hJj12
            · have h := itT c14 h
              refine y_iconst C dX8_text_89 kc_1 ?_
              refine y_goto C dX8_text_90 (tgt := 94) rfl ?_
              have e0 := Option.some.inj h
              subst e0
              exact y_sel [0, 2] rfl hJj12
        replace h := hj6
        refine y_icmp_ne C dX8_text_44 (tgt := 59) rfl (fun c5 => ?_) (fun c5 => ?_)
        · have h := itF c5 h
          refine y_iconst C dX8_text_59 kc_0 ?_
          have e0 := Option.some.inj h
          subst e0
          exact y_sel [0, 2] rfl hJj6
        · have h := itT c5 h
          refine y_aload_n C dX8_text_47 rfl ?_
          refine y_geti C fl_X8_149 g3 dX8_text_48 ?_
          refine y_iload_n C dX8_text_51 rfl ?_
          refine y_icmp_ne C dX8_text_52 (tgt := 59) rfl (fun c7 => ?_) (fun c7 => ?_)
          · have h := itF c7 h
            refine y_iconst C dX8_text_59 kc_0 ?_
            have e0 := Option.some.inj h
            subst e0
            exact y_sel [0, 2] rfl hJj6
          · have h := itT c7 h
            refine y_iconst C dX8_text_55 kc_1 ?_
            refine y_goto C dX8_text_56 (tgt := 60) rfl ?_
            have e0 := Option.some.inj h
            subst e0
            exact y_sel [0, 2] rfl hJj6
set_option maxRecDepth 100000 in
def b_X8_text (K : yK) (M : yM) (t : Nat) : Option (Int32 × yM) := (if gO K t 7 = true then (if (M t 15) = (6 : Int32) then (some ((-4 : Int32), M)) else (Option.bind (some (yS M t 28 (0 : Int32))) fun M3 => (Option.bind (some (yS M3 t 36 (0 : Int32))) fun M4 => (Option.bind (b_X8_text_26 K t 1000 M4 true ((0 : Int32))) fun j5 => (Option.bind (if j5.1 = true then (Option.bind (b_X8_next K j5.2 t) fun r8 => (Option.bind (if (r8 t 30) = 0 then (some true) else (some false)) fun j10 => (some (j10, r8)))) else (some (j5.1, j5.2))) fun j7 => (Option.bind (K.2.2 t 14) fun q11 => (if gA K q11 (((4 : Int32) * (j7.2 t 15)) + (3 : Int32)) = true then (Option.bind (some (yS j7.2 q11 ((((4 : Int32) * (j7.2 t 15)) + (3 : Int32))).toNatClampNeg (j7.2 t 36))) fun M13 => (Option.bind (some (yS M13 t 12 (0 : Int32))) fun M14 => (if j7.1 = true then (Option.bind (some (yS M14 t 15 ((M14 t 15) + (1 : Int32)))) fun M16 => (some (((M16 t 15) - (1 : Int32)), M16))) else (some (((-100 : Int32) - (M14 t 29)), M14))))) else none))))))) else none)
set_option maxHeartbeats 4000000 in
set_option maxRecDepth 100000 in
theorem m_X8_text (K : yK) (M : yM) (t : Nat) : yMet yX8_text cX8_text 3 (Option.some Jvm.ClassFile.FieldType.int) rm_X8_text K M [.ref t] (b_X8_text K M t) (yGi K) := by
  refine yM_intro (by decide) (Nat.le_of_ble_eq_true rfl) (fun X r h C E => ?_)
  replace C : yCx X cX8_text RX8 "text" rm_X8_text 3 := C
  show Y X K M 0 0 0 [(0, .ref t)] []
  unfold b_X8_text at h
  refine y_aload_n C dX8_text_0 rfl ?_
  obtain ⟨g1, h⟩ := gd h
  refine y_geti C fl_X8_113 g1 dX8_text_1 ?_
  refine y_bipush C dX8_text_4 kb_6 ?_
  refine y_icmp_ne C dX8_text_6 (tgt := 12) rfl (fun c2 => ?_) (fun c2 => ?_)
  · have h := itF c2 h
    refine y_aload_n C dX8_text_12 rfl ?_
    refine y_iconst C dX8_text_13 kc_0 ?_
    obtain ⟨M3, eM3, h⟩ := ob h
    have eM3 := Option.some.inj eM3
    refine y_puti C fl_X8_140 rfl g1 rfl rfl dX8_text_14 eM3 ?_
    refine y_aload_n C dX8_text_17 rfl ?_
    refine y_iconst C dX8_text_18 kc_0 ?_
    obtain ⟨M4, eM4, h⟩ := ob h
    have eM4 := Option.some.inj eM4
    refine y_puti C fl_X8_156 rfl g1 rfl rfl dX8_text_19 eM4 ?_
    refine y_iconst C dX8_text_22 kc_1 ?_
    refine y_istore_n C dX8_text_23 (by decide) (L' := [(1, .int (1)), (0, .ref t)]) rfl ?_
    refine y_iconst C dX8_text_24 kc_0 ?_
    refine y_istore_n C dX8_text_25 (by decide) (L' := [(2, .int (0)), (1, .int (1)), (0, .ref t)]) rfl ?_
    obtain ⟨j5, hj5, h⟩ := ob h
    refine y_sel [0, 1, 2] rfl (l_X8_text_26 C 1000 _ _ _ _ hj5 ?_)
    refine y_iload_n C dX8_text_101 rfl ?_
    obtain ⟨j7, hj7, h⟩ := ob h
    have hJj7 : Y X K j7.2 0 0 122 [(0, .ref t), (1, .int (bI j7.1))] [] := by
      refine y_aload_n C dX8_text_122 rfl ?_
      obtain ⟨q11, hq11, h⟩ := ob h
      refine y_getr C fl_X8_32 g1 hq11 dX8_text_123 ?_
      refine y_iconst C dX8_text_126 kc_4 ?_
      refine y_aload_n C dX8_text_127 rfl ?_
      refine y_geti C fl_X8_113 g1 dX8_text_128 ?_
      refine y_imul C dX8_text_131 ?_
      refine y_iconst C dX8_text_132 kc_3 ?_
      refine y_iadd C dX8_text_133 ?_
      refine y_aload_n C dX8_text_134 rfl ?_
      refine y_geti C fl_X8_156 g1 dX8_text_135 ?_
      obtain ⟨g12, h⟩ := gd h
      obtain ⟨M13, eM13, h⟩ := ob h
      have eM13 := Option.some.inj eM13
      refine y_iast C g12 dX8_text_138 eM13 ?_
      refine y_aload_n C dX8_text_139 rfl ?_
      refine y_iconst C dX8_text_140 kc_0 ?_
      obtain ⟨M14, eM14, h⟩ := ob h
      have eM14 := Option.some.inj eM14
      refine y_puti C fl_X8_80 rfl g1 rfl rfl dX8_text_141 eM14 ?_
      refine y_iload_n C dX8_text_144 rfl ?_
      refine y_ifneB C dX8_text_145 (tgt := 156) rfl (fun c15 => ?_) (fun c15 => ?_)
      · have h := itT c15 h
        refine y_aload_n C dX8_text_156 rfl ?_
        refine y_dup C dX8_text_157 rfl ?_
        refine y_geti C fl_X8_113 g1 dX8_text_158 ?_
        refine y_iconst C dX8_text_161 kc_1 ?_
        refine y_iadd C dX8_text_162 ?_
        obtain ⟨M16, eM16, h⟩ := ob h
        have eM16 := Option.some.inj eM16
        refine y_puti C fl_X8_113 rfl g1 rfl rfl dX8_text_163 eM16 ?_
        refine y_aload_n C dX8_text_166 rfl ?_
        refine y_geti C fl_X8_113 g1 dX8_text_167 ?_
        refine y_iconst C dX8_text_170 kc_1 ?_
        refine y_isub C dX8_text_171 ?_
        have e0 := Option.some.inj h
        subst e0
        exact y_iret C E (Nat.zero_le _) (Nat.zero_le _) dX8_text_172
      · have h := itFb c15 h
        refine y_bipush C dX8_text_148 kb_m100 ?_
        refine y_aload_n C dX8_text_150 rfl ?_
        refine y_geti C fl_X8_143 g1 dX8_text_151 ?_
        refine y_isub C dX8_text_154 ?_
        have e0 := Option.some.inj h
        subst e0
        exact y_iret C E (Nat.zero_le _) (Nat.zero_le _) dX8_text_155
    replace h := hj7
    refine y_ifeqB C dX8_text_102 (tgt := 122) rfl (fun c6 => ?_) (fun c6 => ?_)
    · have h := itFb c6 h
      have e0 := Option.some.inj h
      subst e0
      exact y_sel [0, 1] rfl hJj7
    · have h := itT c6 h
      refine y_aload_n C dX8_text_105 rfl ?_
      obtain ⟨r8, hr8, h⟩ := ob h
      refine y_cV C [] (m_X8_next K j5.2 t) hr8 g1 cw_X8_178 rfl (by decide) ⟨rfl, rfl⟩ ⟨Nat.zero_le _, Nat.zero_le _⟩ (Nat.le_of_ble_eq_true rfl) rfl rfl rfl dX8_text_106 ?_
      refine y_aload_n C dX8_text_109 rfl ?_
      refine y_geti C fl_X8_146 g1 dX8_text_110 ?_
      obtain ⟨j10, hj10, h⟩ := ob h
      have hJj10 : Y X K r8 0 0 121 [(0, .ref t)] [.int (bI j10)] := by
        refine y_istore_n C dX8_text_121 (by decide) (L' := [(1, .int (bI j10)), (0, .ref t)]) rfl ?_
        have e0 := Option.some.inj h
        subst e0
        exact y_sel [0, 1] rfl hJj7
      replace h := hj10
      refine y_if_ne C dX8_text_113 (tgt := 120) rfl (fun c9 => ?_) (fun c9 => ?_)
      · have h := itF c9 h
        refine y_iconst C dX8_text_120 kc_0 ?_
        have e0 := Option.some.inj h
        subst e0
        exact y_sel [0] rfl hJj10
      · have h := itT c9 h
        refine y_iconst C dX8_text_116 kc_1 ?_
        refine y_goto C dX8_text_117 (tgt := 121) rfl ?_
        have e0 := Option.some.inj h
        subst e0
        exact y_sel [0] rfl hJj10
  · have h := itT c2 h
    refine y_bipush C dX8_text_9 kb_m4 ?_
    have e0 := Option.some.inj h
    subst e0
    exact y_iret C E (Nat.zero_le _) (Nat.zero_le _) dX8_text_11
set_option maxRecDepth 100000 in
def b_X8_isDeed (K : yK) (M : yM) (t : Nat) (x1 : Int32) : Option Bool := (if gO K t 7 = true then (Option.bind (b_X8_in K M x1 ((0 : Int32)) (((M t 4) - (1 : Int32)))) fun r2 => (some r2)) else none)
set_option maxHeartbeats 4000000 in
set_option maxRecDepth 100000 in
theorem m_X8_isDeed (K : yK) (M : yM) (t : Nat) (x1 : Int32) : yMet yX8_isDeed cX8_isDeed 2 (Option.some Jvm.ClassFile.FieldType.boolean) rm_X8_isDeed K M [.ref t, .int x1] (b_X8_isDeed K M t x1) (yFb K M) := by
  refine yM_intro (by decide) (Nat.le_of_ble_eq_true rfl) (fun X r h C E => ?_)
  replace C : yCx X cX8_isDeed RX8 "isDeed" rm_X8_isDeed 2 := C
  show Y X K M 0 0 0 [(0, .ref t), (1, .int x1)] []
  unfold b_X8_isDeed at h
  refine y_iload_n C dX8_isDeed_0 rfl ?_
  refine y_iconst C dX8_isDeed_1 kc_0 ?_
  refine y_aload_n C dX8_isDeed_2 rfl ?_
  obtain ⟨g1, h⟩ := gd h
  refine y_geti C fl_X8_94 g1 dX8_isDeed_3 ?_
  refine y_iconst C dX8_isDeed_6 kc_1 ?_
  refine y_isub C dX8_isDeed_7 ?_
  obtain ⟨r2, hr2, h⟩ := ob h
  refine y_cS C [.int x1, .int (0 : Int32), .int ((M t 4) - (1 : Int32))] (m_X8_in K M x1 ((0 : Int32)) (((M t 4) - (1 : Int32)))) hr2 cw_X8_90 rfl (by decide) ⟨rfl, rfl⟩ ⟨Nat.zero_le _, Nat.zero_le _⟩ (Nat.le_of_ble_eq_true rfl) rfl rfl rfl dX8_isDeed_8 ?_
  have e0 := Option.some.inj h
  subst e0
  exact y_bret (b := r2) C E (Nat.zero_le _) (Nat.zero_le _) dX8_isDeed_11
set_option maxRecDepth 100000 in
def b_X8_isSo (K : yK) (M : yM) (t : Nat) (x1 : Int32) (x2 : Int32) : Option Bool := (if x1 = (0 : Int32) then (if gO K t 7 = true then (Option.bind (b_X8_pagesAll K M t) fun r5 => (Option.bind (b_X8_within K M ((r5 - (1 : Int32))) ((0 : Int32)) ((9999 : Int32))) fun r6 => (Option.bind (b_X8_in K M x2 ((0 : Int32)) r6) fun r7 => (some r7)))) else none) else (if x1 = (1 : Int32) then (Option.bind (b_X8_in K M x2 ((0 : Int32)) ((999 : Int32))) fun r8 => (some r8)) else (if x1 = (2 : Int32) then (if gO K t 7 = true then (Option.bind (b_X8_in K M x2 ((-1 : Int32)) (((M t 0) - (1 : Int32)))) fun r10 => (some r10)) else none) else (if gO K t 7 = true then (Option.bind (b_X8_all K M t) fun r12 => (Option.bind (b_X8_in K M x2 ((0 : Int32)) r12) fun r13 => (some r13))) else none))))
set_option maxHeartbeats 4000000 in
set_option maxRecDepth 100000 in
theorem m_X8_isSo (K : yK) (M : yM) (t : Nat) (x1 : Int32) (x2 : Int32) : yMet yX8_isSo cX8_isSo 3 (Option.some Jvm.ClassFile.FieldType.boolean) rm_X8_isSo K M [.ref t, .int x1, .int x2] (b_X8_isSo K M t x1 x2) (yFb K M) := by
  refine yM_intro (by decide) (Nat.le_of_ble_eq_true rfl) (fun X r h C E => ?_)
  replace C : yCx X cX8_isSo RX8 "isSo" rm_X8_isSo 3 := C
  show Y X K M 0 0 0 [(0, .ref t), (1, .int x1), (2, .int x2)] []
  unfold b_X8_isSo at h
  refine y_iload_n C dX8_isSo_0 rfl ?_
  rcases Classical.em (x1 = (0 : Int32)) with c1 | c1
  · have h := itT c1 h
    refine y_tabIn C dX8_isSo_1 (off := 27) (tgt := 28) (by rw [c1]; decide) (by rw [c1]; decide) (by rw [c1]; rfl) rfl ?_
    refine y_iload_n C dX8_isSo_28 rfl ?_
    refine y_iconst C dX8_isSo_29 kc_0 ?_
    refine y_aload_n C dX8_isSo_30 rfl ?_
    obtain ⟨g4, h⟩ := gd h
    obtain ⟨r5, hr5, h⟩ := ob h
    refine y_cV C [] (m_X8_pagesAll K M t) hr5 g4 cw_X8_119 rfl (by decide) ⟨rfl, rfl⟩ ⟨Nat.zero_le _, Nat.zero_le _⟩ (Nat.le_of_ble_eq_true rfl) rfl rfl rfl dX8_isSo_31 ?_
    refine y_iconst C dX8_isSo_34 kc_1 ?_
    refine y_isub C dX8_isSo_35 ?_
    refine y_iconst C dX8_isSo_36 kc_0 ?_
    refine y_sipush C dX8_isSo_37 ks_9999 ?_
    obtain ⟨r6, hr6, h⟩ := ob h
    refine y_cS C [.int (r5 - (1 : Int32)), .int (0 : Int32), .int (9999 : Int32)] (m_X8_within K M ((r5 - (1 : Int32))) ((0 : Int32)) ((9999 : Int32))) hr6 cw_X8_122 rfl (by decide) ⟨rfl, rfl⟩ ⟨Nat.zero_le _, Nat.zero_le _⟩ (Nat.le_of_ble_eq_true rfl) rfl rfl rfl dX8_isSo_40 ?_
    obtain ⟨r7, hr7, h⟩ := ob h
    refine y_cS C [.int x2, .int (0 : Int32), .int r6] (m_X8_in K M x2 ((0 : Int32)) r6) hr7 cw_X8_90 rfl (by decide) ⟨rfl, rfl⟩ ⟨Nat.zero_le _, Nat.zero_le _⟩ (Nat.le_of_ble_eq_true rfl) rfl rfl rfl dX8_isSo_43 ?_
    have e0 := Option.some.inj h
    subst e0
    exact y_bret (b := r7) C E (Nat.zero_le _) (Nat.zero_le _) dX8_isSo_46
  replace h := itF c1 h
  rcases Classical.em (x1 = (1 : Int32)) with c2 | c2
  · have h := itT c2 h
    refine y_tabIn C dX8_isSo_1 (off := 46) (tgt := 47) (by rw [c2]; decide) (by rw [c2]; decide) (by rw [c2]; rfl) rfl ?_
    refine y_iload_n C dX8_isSo_47 rfl ?_
    refine y_iconst C dX8_isSo_48 kc_0 ?_
    refine y_sipush C dX8_isSo_49 ks_999 ?_
    obtain ⟨r8, hr8, h⟩ := ob h
    refine y_cS C [.int x2, .int (0 : Int32), .int (999 : Int32)] (m_X8_in K M x2 ((0 : Int32)) ((999 : Int32))) hr8 cw_X8_90 rfl (by decide) ⟨rfl, rfl⟩ ⟨Nat.zero_le _, Nat.zero_le _⟩ (Nat.le_of_ble_eq_true rfl) rfl rfl rfl dX8_isSo_52 ?_
    have e0 := Option.some.inj h
    subst e0
    exact y_bret (b := r8) C E (Nat.zero_le _) (Nat.zero_le _) dX8_isSo_55
  replace h := itF c2 h
  rcases Classical.em (x1 = (2 : Int32)) with c3 | c3
  · have h := itT c3 h
    refine y_tabIn C dX8_isSo_1 (off := 55) (tgt := 56) (by rw [c3]; decide) (by rw [c3]; decide) (by rw [c3]; rfl) rfl ?_
    refine y_iload_n C dX8_isSo_56 rfl ?_
    refine y_iconst C dX8_isSo_57 kc_m1 ?_
    refine y_aload_n C dX8_isSo_58 rfl ?_
    obtain ⟨g9, h⟩ := gd h
    refine y_geti C fl_X8_87 g9 dX8_isSo_59 ?_
    refine y_iconst C dX8_isSo_62 kc_1 ?_
    refine y_isub C dX8_isSo_63 ?_
    obtain ⟨r10, hr10, h⟩ := ob h
    refine y_cS C [.int x2, .int (-1 : Int32), .int ((M t 0) - (1 : Int32))] (m_X8_in K M x2 ((-1 : Int32)) (((M t 0) - (1 : Int32)))) hr10 cw_X8_90 rfl (by decide) ⟨rfl, rfl⟩ ⟨Nat.zero_le _, Nat.zero_le _⟩ (Nat.le_of_ble_eq_true rfl) rfl rfl rfl dX8_isSo_64 ?_
    have e0 := Option.some.inj h
    subst e0
    exact y_bret (b := r10) C E (Nat.zero_le _) (Nat.zero_le _) dX8_isSo_67
  replace h := itF c3 h
  refine y_tabOut C dX8_isSo_1 (tgt := 68) (by have q0 : (x1).toInt ≠ 0 := yNe c1; have q1 : (x1).toInt ≠ 1 := yNe c2; have q2 : (x1).toInt ≠ 2 := yNe c3; omega) rfl ?_
  refine y_iload_n C dX8_isSo_68 rfl ?_
  refine y_iconst C dX8_isSo_69 kc_0 ?_
  refine y_aload_n C dX8_isSo_70 rfl ?_
  obtain ⟨g11, h⟩ := gd h
  obtain ⟨r12, hr12, h⟩ := ob h
  refine y_cV C [] (m_X8_all K M t) hr12 g11 cw_X8_126 rfl (by decide) ⟨rfl, rfl⟩ ⟨Nat.zero_le _, Nat.zero_le _⟩ (Nat.le_of_ble_eq_true rfl) rfl rfl rfl dX8_isSo_71 ?_
  obtain ⟨r13, hr13, h⟩ := ob h
  refine y_cS C [.int x2, .int (0 : Int32), .int r12] (m_X8_in K M x2 ((0 : Int32)) r12) hr13 cw_X8_90 rfl (by decide) ⟨rfl, rfl⟩ ⟨Nat.zero_le _, Nat.zero_le _⟩ (Nat.le_of_ble_eq_true rfl) rfl rfl rfl dX8_isSo_74 ?_
  have e0 := Option.some.inj h
  subst e0
  exact y_bret (b := r13) C E (Nat.zero_le _) (Nat.zero_le _) dX8_isSo_77
set_option maxRecDepth 100000 in
def b_X8_isUnder (K : yK) (M : yM) (x1 : Int32) (x2 : Int32) : Option Bool := (if x2 = 0 then (some true) else (if x1 = x2 then (some true) else (if x2 = (1 : Int32) then (if x1 = (3 : Int32) then (some true) else (if x2 = (2 : Int32) then (if x1 = (4 : Int32) then (some true) else (some false)) else (some false))) else (if x2 = (2 : Int32) then (if x1 = (4 : Int32) then (some true) else (some false)) else (some false)))))
set_option maxHeartbeats 4000000 in
set_option maxRecDepth 100000 in
theorem m_X8_isUnder (K : yK) (M : yM) (x1 : Int32) (x2 : Int32) : yMet yX8_isUnder cX8_isUnder 2 (Option.some Jvm.ClassFile.FieldType.boolean) rm_X8_isUnder K M [.int x1, .int x2] (b_X8_isUnder K M x1 x2) (yFb K M) := by
  refine yM_intro (by decide) (Nat.le_of_ble_eq_true rfl) (fun X r h C E => ?_)
  replace C : yCx X cX8_isUnder RX8 "isUnder" rm_X8_isUnder 2 := C
  show Y X K M 0 0 0 [(0, .int x1), (1, .int x2)] []
  unfold b_X8_isUnder at h
  refine y_iload_n C dX8_isUnder_0 rfl ?_
  refine y_if_eq C dX8_isUnder_1 (tgt := 29) rfl (fun c1 => ?_) (fun c1 => ?_)
  · have h := itT c1 h
    refine y_iconst C dX8_isUnder_29 kc_1 ?_
    refine y_goto C dX8_isUnder_30 (tgt := 34) rfl ?_
    have e0 := Option.some.inj h
    subst e0
    exact y_bret (b := true) C E (Nat.zero_le _) (Nat.zero_le _) dX8_isUnder_34
  · have h := itF c1 h
    refine y_iload_n C dX8_isUnder_4 rfl ?_
    refine y_iload_n C dX8_isUnder_5 rfl ?_
    refine y_icmp_eq C dX8_isUnder_6 (tgt := 29) rfl (fun c2 => ?_) (fun c2 => ?_)
    · have h := itT c2 h
      refine y_iconst C dX8_isUnder_29 kc_1 ?_
      refine y_goto C dX8_isUnder_30 (tgt := 34) rfl ?_
      have e0 := Option.some.inj h
      subst e0
      exact y_bret (b := true) C E (Nat.zero_le _) (Nat.zero_le _) dX8_isUnder_34
    · have h := itF c2 h
      refine y_iload_n C dX8_isUnder_9 rfl ?_
      refine y_iconst C dX8_isUnder_10 kc_1 ?_
      refine y_icmp_ne C dX8_isUnder_11 (tgt := 19) rfl (fun c3 => ?_) (fun c3 => ?_)
      · have h := itF c3 h
        refine y_iload_n C dX8_isUnder_19 rfl ?_
        refine y_iconst C dX8_isUnder_20 kc_2 ?_
        refine y_icmp_ne C dX8_isUnder_21 (tgt := 33) rfl (fun c4 => ?_) (fun c4 => ?_)
        · have h := itF c4 h
          refine y_iconst C dX8_isUnder_33 kc_0 ?_
          have e0 := Option.some.inj h
          subst e0
          exact y_bret (b := false) C E (Nat.zero_le _) (Nat.zero_le _) dX8_isUnder_34
        · have h := itT c4 h
          refine y_iload_n C dX8_isUnder_24 rfl ?_
          refine y_iconst C dX8_isUnder_25 kc_4 ?_
          refine y_icmp_ne C dX8_isUnder_26 (tgt := 33) rfl (fun c5 => ?_) (fun c5 => ?_)
          · have h := itF c5 h
            refine y_iconst C dX8_isUnder_33 kc_0 ?_
            have e0 := Option.some.inj h
            subst e0
            exact y_bret (b := false) C E (Nat.zero_le _) (Nat.zero_le _) dX8_isUnder_34
          · have h := itT c5 h
            refine y_iconst C dX8_isUnder_29 kc_1 ?_
            refine y_goto C dX8_isUnder_30 (tgt := 34) rfl ?_
            have e0 := Option.some.inj h
            subst e0
            exact y_bret (b := true) C E (Nat.zero_le _) (Nat.zero_le _) dX8_isUnder_34
      · have h := itT c3 h
        refine y_iload_n C dX8_isUnder_14 rfl ?_
        refine y_iconst C dX8_isUnder_15 kc_3 ?_
        refine y_icmp_eq C dX8_isUnder_16 (tgt := 29) rfl (fun c6 => ?_) (fun c6 => ?_)
        · have h := itT c6 h
          refine y_iconst C dX8_isUnder_29 kc_1 ?_
          refine y_goto C dX8_isUnder_30 (tgt := 34) rfl ?_
          have e0 := Option.some.inj h
          subst e0
          exact y_bret (b := true) C E (Nat.zero_le _) (Nat.zero_le _) dX8_isUnder_34
        · have h := itF c6 h
          refine y_iload_n C dX8_isUnder_19 rfl ?_
          refine y_iconst C dX8_isUnder_20 kc_2 ?_
          refine y_icmp_ne C dX8_isUnder_21 (tgt := 33) rfl (fun c7 => ?_) (fun c7 => ?_)
          · have h := itF c7 h
            refine y_iconst C dX8_isUnder_33 kc_0 ?_
            have e0 := Option.some.inj h
            subst e0
            exact y_bret (b := false) C E (Nat.zero_le _) (Nat.zero_le _) dX8_isUnder_34
          · have h := itT c7 h
            refine y_iload_n C dX8_isUnder_24 rfl ?_
            refine y_iconst C dX8_isUnder_25 kc_4 ?_
            refine y_icmp_ne C dX8_isUnder_26 (tgt := 33) rfl (fun c8 => ?_) (fun c8 => ?_)
            · have h := itF c8 h
              refine y_iconst C dX8_isUnder_33 kc_0 ?_
              have e0 := Option.some.inj h
              subst e0
              exact y_bret (b := false) C E (Nat.zero_le _) (Nat.zero_le _) dX8_isUnder_34
            · have h := itT c8 h
              refine y_iconst C dX8_isUnder_29 kc_1 ?_
              refine y_goto C dX8_isUnder_30 (tgt := 34) rfl ?_
              have e0 := Option.some.inj h
              subst e0
              exact y_bret (b := true) C E (Nat.zero_le _) (Nat.zero_le _) dX8_isUnder_34
set_option maxRecDepth 100000 in
def b_X8_judge (K : yK) (M : yM) (t : Nat) (x1 : Int32) : Option (Int32 × yM) := (if gO K t 7 = true then (Option.bind (b_X8_sheetWrong K M t x1) fun r2 => (if r2 = 0 then (Option.bind (b_X8_unlike K M t x1) fun r4 => (some (r4.1, r4.2))) else (some (r2, M)))) else none)
set_option maxHeartbeats 4000000 in
set_option maxRecDepth 100000 in
theorem m_X8_judge (K : yK) (M : yM) (t : Nat) (x1 : Int32) : yMet yX8_judge cX8_judge 3 (Option.some Jvm.ClassFile.FieldType.int) rm_X8_judge K M [.ref t, .int x1] (b_X8_judge K M t x1) (yGi K) := by
  refine yM_intro (by decide) (Nat.le_of_ble_eq_true rfl) (fun X r h C E => ?_)
  replace C : yCx X cX8_judge RX8 "judge" rm_X8_judge 3 := C
  show Y X K M 0 0 0 [(0, .ref t), (1, .int x1)] []
  unfold b_X8_judge at h
  refine y_aload_n C dX8_judge_0 rfl ?_
  refine y_iload_n C dX8_judge_1 rfl ?_
  obtain ⟨g1, h⟩ := gd h
  obtain ⟨r2, hr2, h⟩ := ob h
  refine y_cV C [.int x1] (m_X8_sheetWrong K M t x1) hr2 g1 cw_X8_299 rfl (by decide) ⟨rfl, rfl⟩ ⟨Nat.zero_le _, Nat.zero_le _⟩ (Nat.le_of_ble_eq_true rfl) rfl rfl rfl dX8_judge_2 ?_
  refine y_istore_n C dX8_judge_5 (by decide) (L' := [(2, .int r2), (0, .ref t), (1, .int x1)]) rfl ?_
  refine y_iload_n C dX8_judge_6 rfl ?_
  refine y_if_ne C dX8_judge_7 (tgt := 18) rfl (fun c3 => ?_) (fun c3 => ?_)
  · have h := itF c3 h
    refine y_iload_n C dX8_judge_18 rfl ?_
    have e0 := Option.some.inj h
    subst e0
    exact y_iret C E (Nat.zero_le _) (Nat.zero_le _) dX8_judge_19
  · have h := itT c3 h
    refine y_aload_n C dX8_judge_10 rfl ?_
    refine y_iload_n C dX8_judge_11 rfl ?_
    obtain ⟨r4, hr4, h⟩ := ob h
    refine y_cV C [.int x1] (m_X8_unlike K M t x1) hr4 g1 cw_X8_302 rfl (by decide) ⟨rfl, rfl⟩ ⟨Nat.zero_le _, Nat.zero_le _⟩ (Nat.le_of_ble_eq_true rfl) rfl rfl rfl dX8_judge_12 ?_
    refine y_goto C dX8_judge_15 (tgt := 19) rfl ?_
    have e0 := Option.some.inj h
    subst e0
    exact y_iret C E (Nat.zero_le _) (Nat.zero_le _) dX8_judge_19
def b_X8_kinds_72 (K : yK) (t : Nat) (x_1 : Int32) (x_2 : Int32) (x_3 : Int32) (x_5 : Int32) (x_6 : Int32) (x_7 : Int32) : Nat → yM → Int32 → Int32 → Option (Int32 × yM)
  | 0, _, _, _ => none
  | n + 1, M, u72_8, u72_9 => (Option.bind (if x_3 = 0 then (some (6 : Int32)) else (if x_3 = (1 : Int32) then (some (10 : Int32)) else (if gO K t 7 = true then (some ((M t 0) + (1 : Int32))) else none))) fun j2 => (if j2 ≤ u72_9 then (some (u72_8, M)) else (if gO K t 7 = true then (Option.bind (K.2.2 t 1) fun q7 => (Option.bind (if x_3 = 0 then (some u72_9) else (some x_5)) fun j9 => (if gA K q7 x_2 = true then (Option.bind (some (yS M q7 (x_2).toNatClampNeg j9)) fun M11 => (Option.bind (K.2.2 t 2) fun q12 => (Option.bind (if x_3 = (1 : Int32) then (some u72_9) else (some x_6)) fun j14 => (if gA K q12 x_2 = true then (Option.bind (some (yS M11 q12 (x_2).toNatClampNeg j14)) fun M16 => (Option.bind (K.2.2 t 3) fun q17 => (Option.bind (if x_3 = (2 : Int32) then (some (u72_9 - (1 : Int32))) else (some x_7)) fun j19 => (if gA K q17 (((3 : Int32) * x_2) + (1 : Int32)) = true then (Option.bind (some (yS M16 q17 ((((3 : Int32) * x_2) + (1 : Int32))).toNatClampNeg j19)) fun M21 => (Option.bind (b_X8_unlike K M21 t x_1) fun r22 => (Option.bind (if r22.1 = (-1 : Int32) then (some ((1 : Int32) <<< (u72_9 &&& 31))) else (some (0 : Int32))) fun j24 => (Option.bind (some (u72_8 ||| j24)) fun v25 => (Option.bind (some (u72_9 + (1 : Int32))) fun v26 => (b_X8_kinds_72 K t x_1 x_2 x_3 x_5 x_6 x_7 n r22.2 v25 v26)))))) else none)))) else none)))) else none))) else none)))
set_option maxHeartbeats 4000000 in
set_option maxRecDepth 100000 in
theorem l_X8_kinds_72 {X : yX} {K : yK} {t : Nat} {x_1 : Int32} {x_2 : Int32} {x_3 : Int32} {x_5 : Int32} {x_6 : Int32} {x_7 : Int32} (C : yCx X cX8_kinds RX8 "kinds" rm_X8_kinds 10) : ∀ (n : Nat) (M : yM) (u72_8 : Int32) (u72_9 : Int32) (x : (Int32 × yM)), b_X8_kinds_72 K t x_1 x_2 x_3 x_5 x_6 x_7 n M u72_8 u72_9 = some x → ∀ (hX : Y X K x.2 0 0 189 [(0, .ref t), (2, .int x_2), (5, .int x_5), (6, .int x_6), (7, .int x_7), (8, .int x.1)] []), Y X K M 0 0 72 [(0, .ref t), (1, .int x_1), (2, .int x_2), (3, .int x_3), (5, .int x_5), (6, .int x_6), (7, .int x_7), (8, .int u72_8), (9, .int u72_9)] [] := by
  intro n
  induction n with
  | zero =>
    intro M u72_8 u72_9 x h
    exact nomatch (show (none : Option _) = some x from h)
  | succ n ih =>
    intro M u72_8 u72_9 x h hX
    rw [b_X8_kinds_72] at h
    refine y_iload C dX8_kinds_72 rfl ?_
    refine y_iload_n C dX8_kinds_74 rfl ?_
    obtain ⟨j2, hj2, h⟩ := ob h
    have hJj2 : Y X K M 0 0 99 [(0, .ref t), (1, .int x_1), (2, .int x_2), (3, .int x_3), (5, .int x_5), (6, .int x_6), (7, .int x_7), (8, .int u72_8), (9, .int u72_9)] [.int j2, .int u72_9] := by
      refine y_icmp_ge C dX8_kinds_99 (tgt := 189) rfl (fun c5 => ?_) (fun c5 => ?_)
      · have h := itT c5 h
        have e0 := Option.some.inj h
        subst e0
        exact y_sel [0, 2, 5, 6, 7, 8] rfl hX
      · have h := itF c5 h
        refine y_aload_n C dX8_kinds_102 rfl ?_
        obtain ⟨g6, h⟩ := gd h
        obtain ⟨q7, hq7, h⟩ := ob h
        refine y_getr C fl_X8_7 g6 hq7 dX8_kinds_103 ?_
        refine y_iload_n C dX8_kinds_106 rfl ?_
        refine y_iload_n C dX8_kinds_107 rfl ?_
        obtain ⟨j9, hj9, h⟩ := ob h
        have hJj9 : Y X K M 0 0 118 [(0, .ref t), (1, .int x_1), (2, .int x_2), (3, .int x_3), (5, .int x_5), (6, .int x_6), (7, .int x_7), (8, .int u72_8), (9, .int u72_9)] [.int j9, .int x_2, .ref q7] := by
          obtain ⟨g10, h⟩ := gd h
          obtain ⟨M11, eM11, h⟩ := ob h
          have eM11 := Option.some.inj eM11
          refine y_iast C g10 dX8_kinds_118 eM11 ?_
          refine y_aload_n C dX8_kinds_119 rfl ?_
          obtain ⟨q12, hq12, h⟩ := ob h
          refine y_getr C fl_X8_13 g6 hq12 dX8_kinds_120 ?_
          refine y_iload_n C dX8_kinds_123 rfl ?_
          refine y_iload_n C dX8_kinds_124 rfl ?_
          refine y_iconst C dX8_kinds_125 kc_1 ?_
          obtain ⟨j14, hj14, h⟩ := ob h
          have hJj14 : Y X K M11 0 0 136 [(0, .ref t), (1, .int x_1), (2, .int x_2), (3, .int x_3), (5, .int x_5), (6, .int x_6), (7, .int x_7), (8, .int u72_8), (9, .int u72_9)] [.int j14, .int x_2, .ref q12] := by
            obtain ⟨g15, h⟩ := gd h
            obtain ⟨M16, eM16, h⟩ := ob h
            have eM16 := Option.some.inj eM16
            refine y_iast C g15 dX8_kinds_136 eM16 ?_
            refine y_aload_n C dX8_kinds_137 rfl ?_
            obtain ⟨q17, hq17, h⟩ := ob h
            refine y_getr C fl_X8_16 g6 hq17 dX8_kinds_138 ?_
            refine y_iconst C dX8_kinds_141 kc_3 ?_
            refine y_iload_n C dX8_kinds_142 rfl ?_
            refine y_imul C dX8_kinds_143 ?_
            refine y_iconst C dX8_kinds_144 kc_1 ?_
            refine y_iadd C dX8_kinds_145 ?_
            refine y_iload_n C dX8_kinds_146 rfl ?_
            refine y_iconst C dX8_kinds_147 kc_2 ?_
            obtain ⟨j19, hj19, h⟩ := ob h
            have hJj19 : Y X K M16 0 0 160 [(0, .ref t), (1, .int x_1), (2, .int x_2), (3, .int x_3), (5, .int x_5), (6, .int x_6), (7, .int x_7), (8, .int u72_8), (9, .int u72_9)] [.int j19, .int (((3 : Int32) * x_2) + (1 : Int32)), .ref q17] := by
              obtain ⟨g20, h⟩ := gd h
              obtain ⟨M21, eM21, h⟩ := ob h
              have eM21 := Option.some.inj eM21
              refine y_iast C g20 dX8_kinds_160 eM21 ?_
              refine y_iload C dX8_kinds_161 rfl ?_
              refine y_aload_n C dX8_kinds_163 rfl ?_
              refine y_iload_n C dX8_kinds_164 rfl ?_
              obtain ⟨r22, hr22, h⟩ := ob h
              refine y_cV C [.int x_1] (m_X8_unlike K M21 t x_1) hr22 g6 cw_X8_302 rfl (by decide) ⟨rfl, rfl⟩ ⟨Nat.zero_le _, Nat.zero_le _⟩ (Nat.le_of_ble_eq_true rfl) rfl rfl rfl dX8_kinds_165 ?_
              refine y_iconst C dX8_kinds_168 kc_m1 ?_
              obtain ⟨j24, hj24, h⟩ := ob h
              have hJj24 : Y X K r22.2 0 0 180 [(0, .ref t), (1, .int x_1), (2, .int x_2), (3, .int x_3), (5, .int x_5), (6, .int x_6), (7, .int x_7), (9, .int u72_9)] [.int j24, .int u72_8] := by
                refine y_ior C dX8_kinds_180 ?_
                obtain ⟨v25, ev25, h⟩ := ob h
                have ev25 := Option.some.inj ev25
                refine y_istore C dX8_kinds_181 (by decide) (L' := [(8, .int v25), (0, .ref t), (1, .int x_1), (2, .int x_2), (3, .int x_3), (5, .int x_5), (6, .int x_6), (7, .int x_7), (9, .int u72_9)]) (by subst ev25; rfl) ?_
                obtain ⟨v26, ev26, h⟩ := ob h
                have ev26 := Option.some.inj ev26
                refine y_iinc C dX8_kinds_183 (by decide) rfl (v := v26) (by subst ev26; rfl) (L' := [(9, .int v26), (8, .int v25), (0, .ref t), (1, .int x_1), (2, .int x_2), (3, .int x_3), (5, .int x_5), (6, .int x_6), (7, .int x_7)]) rfl ?_
                refine y_goto C dX8_kinds_186 (tgt := 72) rfl ?_
                exact y_sel [0, 1, 2, 3, 5, 6, 7, 8, 9] rfl (ih _ _ _ _  h hX)
              replace h := hj24
              refine y_icmp_ne C dX8_kinds_169 (tgt := 179) rfl (fun c23 => ?_) (fun c23 => ?_)
              · have h := itF c23 h
                refine y_iconst C dX8_kinds_179 kc_0 ?_
                have e0 := Option.some.inj h
                subst e0
                exact y_sel [0, 1, 2, 3, 5, 6, 7, 9] rfl hJj24
              · have h := itT c23 h
                refine y_iconst C dX8_kinds_172 kc_1 ?_
                refine y_iload C dX8_kinds_173 rfl ?_
                refine y_ishl C dX8_kinds_175 ?_
                refine y_goto C dX8_kinds_176 (tgt := 180) rfl ?_
                have e0 := Option.some.inj h
                subst e0
                exact y_sel [0, 1, 2, 3, 5, 6, 7, 9] rfl hJj24
            replace h := hj19
            refine y_icmp_ne C dX8_kinds_148 (tgt := 158) rfl (fun c18 => ?_) (fun c18 => ?_)
            · have h := itF c18 h
              refine y_iload C dX8_kinds_158 rfl ?_
              have e0 := Option.some.inj h
              subst e0
              exact y_sel [0, 1, 2, 3, 5, 6, 7, 8, 9] rfl hJj19
            · have h := itT c18 h
              refine y_iload C dX8_kinds_151 rfl ?_
              refine y_iconst C dX8_kinds_153 kc_1 ?_
              refine y_isub C dX8_kinds_154 ?_
              refine y_goto C dX8_kinds_155 (tgt := 160) rfl ?_
              have e0 := Option.some.inj h
              subst e0
              exact y_sel [0, 1, 2, 3, 5, 6, 7, 8, 9] rfl hJj19
          replace h := hj14
          refine y_icmp_ne C dX8_kinds_126 (tgt := 134) rfl (fun c13 => ?_) (fun c13 => ?_)
          · have h := itF c13 h
            refine y_iload C dX8_kinds_134 rfl ?_
            have e0 := Option.some.inj h
            subst e0
            exact y_sel [0, 1, 2, 3, 5, 6, 7, 8, 9] rfl hJj14
          · have h := itT c13 h
            refine y_iload C dX8_kinds_129 rfl ?_
            refine y_goto C dX8_kinds_131 (tgt := 136) rfl ?_
            have e0 := Option.some.inj h
            subst e0
            exact y_sel [0, 1, 2, 3, 5, 6, 7, 8, 9] rfl hJj14
        replace h := hj9
        refine y_if_ne C dX8_kinds_108 (tgt := 116) rfl (fun c8 => ?_) (fun c8 => ?_)
        · have h := itF c8 h
          refine y_iload C dX8_kinds_116 rfl ?_
          have e0 := Option.some.inj h
          subst e0
          exact y_sel [0, 1, 2, 3, 5, 6, 7, 8, 9] rfl hJj9
        · have h := itT c8 h
          refine y_iload C dX8_kinds_111 rfl ?_
          refine y_goto C dX8_kinds_113 (tgt := 118) rfl ?_
          have e0 := Option.some.inj h
          subst e0
          exact y_sel [0, 1, 2, 3, 5, 6, 7, 8, 9] rfl hJj9
    replace h := hj2
    refine y_if_ne C dX8_kinds_75 (tgt := 83) rfl (fun c1 => ?_) (fun c1 => ?_)
    · have h := itF c1 h
      refine y_iload_n C dX8_kinds_83 rfl ?_
      refine y_iconst C dX8_kinds_84 kc_1 ?_
      refine y_icmp_ne C dX8_kinds_85 (tgt := 93) rfl (fun c3 => ?_) (fun c3 => ?_)
      · have h := itF c3 h
        refine y_aload_n C dX8_kinds_93 rfl ?_
        obtain ⟨g4, h⟩ := gd h
        refine y_geti C fl_X8_87 g4 dX8_kinds_94 ?_
        refine y_iconst C dX8_kinds_97 kc_1 ?_
        refine y_iadd C dX8_kinds_98 ?_
        have e0 := Option.some.inj h
        subst e0
        exact y_sel [0, 1, 2, 3, 5, 6, 7, 8, 9] rfl hJj2
      · have h := itT c3 h
        refine y_bipush C dX8_kinds_88 kb_10 ?_
        refine y_goto C dX8_kinds_90 (tgt := 99) rfl ?_
        have e0 := Option.some.inj h
        subst e0
        exact y_sel [0, 1, 2, 3, 5, 6, 7, 8, 9] rfl hJj2
    · have h := itT c1 h
      refine y_bipush C dX8_kinds_78 kb_6 ?_
      refine y_goto C dX8_kinds_80 (tgt := 99) rfl ?_
      have e0 := Option.some.inj h
      subst e0
      exact y_sel [0, 1, 2, 3, 5, 6, 7, 8, 9] rfl hJj2
set_option maxRecDepth 100000 in
def b_X8_kinds (K : yK) (M : yM) (t : Nat) (x1 : Int32) (x2 : Int32) (x3 : Int32) : Option (Int32 × yM) := (if gO K t 7 = true then (Option.bind (b_X8_sheetWrong K M t x1) fun r2 => (if r2 = 0 then (Option.bind (b_X8_isEntry K M t x2) fun r4 => (if r4 = true then (Option.bind (b_X8_in K M x3 ((0 : Int32)) ((2 : Int32))) fun r6 => (if r6 = true then (Option.bind (K.2.2 t 1) fun q8 => (if gA K q8 x2 = true then (Option.bind (some (M q8 (x2).toNatClampNeg)) fun v10 => (Option.bind (K.2.2 t 2) fun q11 => (if gA K q11 x2 = true then (Option.bind (some (M q11 (x2).toNatClampNeg)) fun v13 => (Option.bind (K.2.2 t 3) fun q14 => (if gA K q14 (((3 : Int32) * x2) + (1 : Int32)) = true then (Option.bind (some (M q14 ((((3 : Int32) * x2) + (1 : Int32))).toNatClampNeg)) fun v16 => (Option.bind (b_X8_kinds_72 K t x1 x2 x3 v10 v13 v16 1000 M ((0 : Int32)) ((0 : Int32))) fun j17 => (Option.bind (some (yS j17.2 q8 (x2).toNatClampNeg v10)) fun M18 => (Option.bind (some (yS M18 q11 (x2).toNatClampNeg v13)) fun M19 => (Option.bind (some (yS M19 q14 ((((3 : Int32) * x2) + (1 : Int32))).toNatClampNeg v16)) fun M20 => (some (j17.1, M20))))))) else none))) else none))) else none)) else (some ((-7 : Int32), M)))) else (some ((-5 : Int32), M)))) else (some (r2, M)))) else none)
set_option maxHeartbeats 4000000 in
set_option maxRecDepth 100000 in
theorem m_X8_kinds (K : yK) (M : yM) (t : Nat) (x1 : Int32) (x2 : Int32) (x3 : Int32) : yMet yX8_kinds cX8_kinds 10 (Option.some Jvm.ClassFile.FieldType.int) rm_X8_kinds K M [.ref t, .int x1, .int x2, .int x3] (b_X8_kinds K M t x1 x2 x3) (yGi K) := by
  refine yM_intro (by decide) (Nat.le_of_ble_eq_true rfl) (fun X r h C E => ?_)
  replace C : yCx X cX8_kinds RX8 "kinds" rm_X8_kinds 10 := C
  show Y X K M 0 0 0 [(0, .ref t), (1, .int x1), (2, .int x2), (3, .int x3)] []
  unfold b_X8_kinds at h
  refine y_aload_n C dX8_kinds_0 rfl ?_
  refine y_iload_n C dX8_kinds_1 rfl ?_
  obtain ⟨g1, h⟩ := gd h
  obtain ⟨r2, hr2, h⟩ := ob h
  refine y_cV C [.int x1] (m_X8_sheetWrong K M t x1) hr2 g1 cw_X8_299 rfl (by decide) ⟨rfl, rfl⟩ ⟨Nat.zero_le _, Nat.zero_le _⟩ (Nat.le_of_ble_eq_true rfl) rfl rfl rfl dX8_kinds_2 ?_
  refine y_istore C dX8_kinds_5 (by decide) (L' := [(4, .int r2), (0, .ref t), (1, .int x1), (2, .int x2), (3, .int x3)]) rfl ?_
  refine y_iload C dX8_kinds_7 rfl ?_
  refine y_if_eq C dX8_kinds_9 (tgt := 15) rfl (fun c3 => ?_) (fun c3 => ?_)
  · have h := itT c3 h
    refine y_aload_n C dX8_kinds_15 rfl ?_
    refine y_iload_n C dX8_kinds_16 rfl ?_
    obtain ⟨r4, hr4, h⟩ := ob h
    refine y_cV C [.int x2] (m_X8_isEntry K M t x2) hr4 g1 cw_X8_201 rfl (by decide) ⟨rfl, rfl⟩ ⟨Nat.zero_le _, Nat.zero_le _⟩ (Nat.le_of_ble_eq_true rfl) rfl rfl rfl dX8_kinds_17 ?_
    refine y_ifneB C dX8_kinds_20 (tgt := 26) rfl (fun c5 => ?_) (fun c5 => ?_)
    · have h := itT c5 h
      refine y_iload_n C dX8_kinds_26 rfl ?_
      refine y_iconst C dX8_kinds_27 kc_0 ?_
      refine y_iconst C dX8_kinds_28 kc_2 ?_
      obtain ⟨r6, hr6, h⟩ := ob h
      refine y_cS C [.int x3, .int (0 : Int32), .int (2 : Int32)] (m_X8_in K M x3 ((0 : Int32)) ((2 : Int32))) hr6 cw_X8_90 rfl (by decide) ⟨rfl, rfl⟩ ⟨Nat.zero_le _, Nat.zero_le _⟩ (Nat.le_of_ble_eq_true rfl) rfl rfl rfl dX8_kinds_29 ?_
      refine y_ifneB C dX8_kinds_32 (tgt := 38) rfl (fun c7 => ?_) (fun c7 => ?_)
      · have h := itT c7 h
        refine y_aload_n C dX8_kinds_38 rfl ?_
        obtain ⟨q8, hq8, h⟩ := ob h
        refine y_getr C fl_X8_7 g1 hq8 dX8_kinds_39 ?_
        refine y_iload_n C dX8_kinds_42 rfl ?_
        obtain ⟨g9, h⟩ := gd h
        refine y_iald C g9 dX8_kinds_43 ?_
        obtain ⟨v10, ev10, h⟩ := ob h
        have ev10 := Option.some.inj ev10
        refine y_istore C dX8_kinds_44 (by decide) (L' := [(5, .int v10), (4, .int r2), (0, .ref t), (1, .int x1), (2, .int x2), (3, .int x3)]) (by subst ev10; rfl) ?_
        refine y_aload_n C dX8_kinds_46 rfl ?_
        obtain ⟨q11, hq11, h⟩ := ob h
        refine y_getr C fl_X8_13 g1 hq11 dX8_kinds_47 ?_
        refine y_iload_n C dX8_kinds_50 rfl ?_
        obtain ⟨g12, h⟩ := gd h
        refine y_iald C g12 dX8_kinds_51 ?_
        obtain ⟨v13, ev13, h⟩ := ob h
        have ev13 := Option.some.inj ev13
        refine y_istore C dX8_kinds_52 (by decide) (L' := [(6, .int v13), (5, .int v10), (4, .int r2), (0, .ref t), (1, .int x1), (2, .int x2), (3, .int x3)]) (by subst ev13; rfl) ?_
        refine y_aload_n C dX8_kinds_54 rfl ?_
        obtain ⟨q14, hq14, h⟩ := ob h
        refine y_getr C fl_X8_16 g1 hq14 dX8_kinds_55 ?_
        refine y_iconst C dX8_kinds_58 kc_3 ?_
        refine y_iload_n C dX8_kinds_59 rfl ?_
        refine y_imul C dX8_kinds_60 ?_
        refine y_iconst C dX8_kinds_61 kc_1 ?_
        refine y_iadd C dX8_kinds_62 ?_
        obtain ⟨g15, h⟩ := gd h
        refine y_iald C g15 dX8_kinds_63 ?_
        obtain ⟨v16, ev16, h⟩ := ob h
        have ev16 := Option.some.inj ev16
        refine y_istore C dX8_kinds_64 (by decide) (L' := [(7, .int v16), (6, .int v13), (5, .int v10), (4, .int r2), (0, .ref t), (1, .int x1), (2, .int x2), (3, .int x3)]) (by subst ev16; rfl) ?_
        refine y_iconst C dX8_kinds_66 kc_0 ?_
        refine y_istore C dX8_kinds_67 (by decide) (L' := [(8, .int (0)), (7, .int v16), (6, .int v13), (5, .int v10), (4, .int r2), (0, .ref t), (1, .int x1), (2, .int x2), (3, .int x3)]) rfl ?_
        refine y_iconst C dX8_kinds_69 kc_0 ?_
        refine y_istore C dX8_kinds_70 (by decide) (L' := [(9, .int (0)), (8, .int (0)), (7, .int v16), (6, .int v13), (5, .int v10), (4, .int r2), (0, .ref t), (1, .int x1), (2, .int x2), (3, .int x3)]) rfl ?_
        obtain ⟨j17, hj17, h⟩ := ob h
        refine y_sel [0, 1, 2, 3, 5, 6, 7, 8, 9] rfl (l_X8_kinds_72 C 1000 _ _ _ _ hj17 ?_)
        refine y_aload_n C dX8_kinds_189 rfl ?_
        refine y_getr C fl_X8_7 g1 hq8 dX8_kinds_190 ?_
        refine y_iload_n C dX8_kinds_193 rfl ?_
        refine y_iload C dX8_kinds_194 rfl ?_
        obtain ⟨M18, eM18, h⟩ := ob h
        have eM18 := Option.some.inj eM18
        refine y_iast C g9 dX8_kinds_196 eM18 ?_
        refine y_aload_n C dX8_kinds_197 rfl ?_
        refine y_getr C fl_X8_13 g1 hq11 dX8_kinds_198 ?_
        refine y_iload_n C dX8_kinds_201 rfl ?_
        refine y_iload C dX8_kinds_202 rfl ?_
        obtain ⟨M19, eM19, h⟩ := ob h
        have eM19 := Option.some.inj eM19
        refine y_iast C g12 dX8_kinds_204 eM19 ?_
        refine y_aload_n C dX8_kinds_205 rfl ?_
        refine y_getr C fl_X8_16 g1 hq14 dX8_kinds_206 ?_
        refine y_iconst C dX8_kinds_209 kc_3 ?_
        refine y_iload_n C dX8_kinds_210 rfl ?_
        refine y_imul C dX8_kinds_211 ?_
        refine y_iconst C dX8_kinds_212 kc_1 ?_
        refine y_iadd C dX8_kinds_213 ?_
        refine y_iload C dX8_kinds_214 rfl ?_
        obtain ⟨M20, eM20, h⟩ := ob h
        have eM20 := Option.some.inj eM20
        refine y_iast C g15 dX8_kinds_216 eM20 ?_
        refine y_iload C dX8_kinds_217 rfl ?_
        have e0 := Option.some.inj h
        subst e0
        exact y_iret C E (Nat.zero_le _) (Nat.zero_le _) dX8_kinds_219
      · have h := itFb c7 h
        refine y_bipush C dX8_kinds_35 kb_m7 ?_
        have e0 := Option.some.inj h
        subst e0
        exact y_iret C E (Nat.zero_le _) (Nat.zero_le _) dX8_kinds_37
    · have h := itFb c5 h
      refine y_bipush C dX8_kinds_23 kb_m5 ?_
      have e0 := Option.some.inj h
      subst e0
      exact y_iret C E (Nat.zero_le _) (Nat.zero_le _) dX8_kinds_25
  · have h := itF c3 h
    refine y_iload C dX8_kinds_12 rfl ?_
    have e0 := Option.some.inj h
    subst e0
    exact y_iret C E (Nat.zero_le _) (Nat.zero_le _) dX8_kinds_14
def b_X8_laws_23 (K : yK) (t : Nat) (x_1 : Int32) (x_3 : Int32) : Nat → yM → Int32 → Int32 → Option (Int32 × yM)
  | 0, _, _, _ => none
  | n + 1, M, u23_4, u23_5 => (if gO K t 7 = true then (if (M t 15) ≤ u23_5 then (some (u23_4, M)) else (Option.bind (some (yS M t 16 u23_5)) fun M3 => (Option.bind (b_X8_unlike K M3 t x_1) fun r4 => (Option.bind (if r4.1 = (-1 : Int32) then (some ((1 : Int32) <<< (u23_5 &&& 31))) else (some (0 : Int32))) fun j6 => (Option.bind (some (u23_4 ||| j6)) fun v7 => (Option.bind (some (u23_5 + (1 : Int32))) fun v8 => (b_X8_laws_23 K t x_1 x_3 n r4.2 v7 v8))))))) else none)
set_option maxHeartbeats 4000000 in
set_option maxRecDepth 100000 in
theorem l_X8_laws_23 {X : yX} {K : yK} {t : Nat} {x_1 : Int32} {x_3 : Int32} (C : yCx X cX8_laws RX8 "laws" rm_X8_laws 6) : ∀ (n : Nat) (M : yM) (u23_4 : Int32) (u23_5 : Int32) (x : (Int32 × yM)), b_X8_laws_23 K t x_1 x_3 n M u23_4 u23_5 = some x → ∀ (hX : Y X K x.2 0 0 66 [(0, .ref t), (3, .int x_3), (4, .int x.1)] []), Y X K M 0 0 23 [(0, .ref t), (1, .int x_1), (3, .int x_3), (4, .int u23_4), (5, .int u23_5)] [] := by
  intro n
  induction n with
  | zero =>
    intro M u23_4 u23_5 x h
    exact nomatch (show (none : Option _) = some x from h)
  | succ n ih =>
    intro M u23_4 u23_5 x h hX
    rw [b_X8_laws_23] at h
    refine y_iload C dX8_laws_23 rfl ?_
    refine y_aload_n C dX8_laws_25 rfl ?_
    obtain ⟨g1, h⟩ := gd h
    refine y_geti C fl_X8_113 g1 dX8_laws_26 ?_
    refine y_icmp_ge C dX8_laws_29 (tgt := 66) rfl (fun c2 => ?_) (fun c2 => ?_)
    · have h := itT c2 h
      have e0 := Option.some.inj h
      subst e0
      exact y_sel [0, 3, 4] rfl hX
    · have h := itF c2 h
      refine y_aload_n C dX8_laws_32 rfl ?_
      refine y_iload C dX8_laws_33 rfl ?_
      obtain ⟨M3, eM3, h⟩ := ob h
      have eM3 := Option.some.inj eM3
      refine y_puti C fl_X8_116 rfl g1 rfl rfl dX8_laws_35 eM3 ?_
      refine y_iload C dX8_laws_38 rfl ?_
      refine y_aload_n C dX8_laws_40 rfl ?_
      refine y_iload_n C dX8_laws_41 rfl ?_
      obtain ⟨r4, hr4, h⟩ := ob h
      refine y_cV C [.int x_1] (m_X8_unlike K M3 t x_1) hr4 g1 cw_X8_302 rfl (by decide) ⟨rfl, rfl⟩ ⟨Nat.zero_le _, Nat.zero_le _⟩ (Nat.le_of_ble_eq_true rfl) rfl rfl rfl dX8_laws_42 ?_
      refine y_iconst C dX8_laws_45 kc_m1 ?_
      obtain ⟨j6, hj6, h⟩ := ob h
      have hJj6 : Y X K r4.2 0 0 57 [(0, .ref t), (1, .int x_1), (3, .int x_3), (5, .int u23_5)] [.int j6, .int u23_4] := by
        refine y_ior C dX8_laws_57 ?_
        obtain ⟨v7, ev7, h⟩ := ob h
        have ev7 := Option.some.inj ev7
        refine y_istore C dX8_laws_58 (by decide) (L' := [(4, .int v7), (0, .ref t), (1, .int x_1), (3, .int x_3), (5, .int u23_5)]) (by subst ev7; rfl) ?_
        obtain ⟨v8, ev8, h⟩ := ob h
        have ev8 := Option.some.inj ev8
        refine y_iinc C dX8_laws_60 (by decide) rfl (v := v8) (by subst ev8; rfl) (L' := [(5, .int v8), (4, .int v7), (0, .ref t), (1, .int x_1), (3, .int x_3)]) rfl ?_
        refine y_goto C dX8_laws_63 (tgt := 23) rfl ?_
        exact y_sel [0, 1, 3, 4, 5] rfl (ih _ _ _ _  h hX)
      replace h := hj6
      refine y_icmp_ne C dX8_laws_46 (tgt := 56) rfl (fun c5 => ?_) (fun c5 => ?_)
      · have h := itF c5 h
        refine y_iconst C dX8_laws_56 kc_0 ?_
        have e0 := Option.some.inj h
        subst e0
        exact y_sel [0, 1, 3, 5] rfl hJj6
      · have h := itT c5 h
        refine y_iconst C dX8_laws_49 kc_1 ?_
        refine y_iload C dX8_laws_50 rfl ?_
        refine y_ishl C dX8_laws_52 ?_
        refine y_goto C dX8_laws_53 (tgt := 57) rfl ?_
        have e0 := Option.some.inj h
        subst e0
        exact y_sel [0, 1, 3, 5] rfl hJj6
set_option maxRecDepth 100000 in
def b_X8_laws (K : yK) (M : yM) (t : Nat) (x1 : Int32) : Option (Int32 × yM) := (if gO K t 7 = true then (Option.bind (b_X8_sheetWrong K M t x1) fun r2 => (if r2 = 0 then (Option.bind (some (M t 16)) fun v4 => (Option.bind (b_X8_laws_23 K t x1 v4 1000 M ((0 : Int32)) ((0 : Int32))) fun j5 => (Option.bind (some (yS j5.2 t 16 v4)) fun M6 => (some (j5.1, M6))))) else (some (r2, M)))) else none)
set_option maxHeartbeats 4000000 in
set_option maxRecDepth 100000 in
theorem m_X8_laws (K : yK) (M : yM) (t : Nat) (x1 : Int32) : yMet yX8_laws cX8_laws 6 (Option.some Jvm.ClassFile.FieldType.int) rm_X8_laws K M [.ref t, .int x1] (b_X8_laws K M t x1) (yGi K) := by
  refine yM_intro (by decide) (Nat.le_of_ble_eq_true rfl) (fun X r h C E => ?_)
  replace C : yCx X cX8_laws RX8 "laws" rm_X8_laws 6 := C
  show Y X K M 0 0 0 [(0, .ref t), (1, .int x1)] []
  unfold b_X8_laws at h
  refine y_aload_n C dX8_laws_0 rfl ?_
  refine y_iload_n C dX8_laws_1 rfl ?_
  obtain ⟨g1, h⟩ := gd h
  obtain ⟨r2, hr2, h⟩ := ob h
  refine y_cV C [.int x1] (m_X8_sheetWrong K M t x1) hr2 g1 cw_X8_299 rfl (by decide) ⟨rfl, rfl⟩ ⟨Nat.zero_le _, Nat.zero_le _⟩ (Nat.le_of_ble_eq_true rfl) rfl rfl rfl dX8_laws_2 ?_
  refine y_istore_n C dX8_laws_5 (by decide) (L' := [(2, .int r2), (0, .ref t), (1, .int x1)]) rfl ?_
  refine y_iload_n C dX8_laws_6 rfl ?_
  refine y_if_eq C dX8_laws_7 (tgt := 12) rfl (fun c3 => ?_) (fun c3 => ?_)
  · have h := itT c3 h
    refine y_aload_n C dX8_laws_12 rfl ?_
    refine y_geti C fl_X8_116 g1 dX8_laws_13 ?_
    obtain ⟨v4, ev4, h⟩ := ob h
    have ev4 := Option.some.inj ev4
    refine y_istore_n C dX8_laws_16 (by decide) (L' := [(3, .int v4), (2, .int r2), (0, .ref t), (1, .int x1)]) (by subst ev4; rfl) ?_
    refine y_iconst C dX8_laws_17 kc_0 ?_
    refine y_istore C dX8_laws_18 (by decide) (L' := [(4, .int (0)), (3, .int v4), (2, .int r2), (0, .ref t), (1, .int x1)]) rfl ?_
    refine y_iconst C dX8_laws_20 kc_0 ?_
    refine y_istore C dX8_laws_21 (by decide) (L' := [(5, .int (0)), (4, .int (0)), (3, .int v4), (2, .int r2), (0, .ref t), (1, .int x1)]) rfl ?_
    obtain ⟨j5, hj5, h⟩ := ob h
    refine y_sel [0, 1, 3, 4, 5] rfl (l_X8_laws_23 C 1000 _ _ _ _ hj5 ?_)
    refine y_aload_n C dX8_laws_66 rfl ?_
    refine y_iload_n C dX8_laws_67 rfl ?_
    obtain ⟨M6, eM6, h⟩ := ob h
    have eM6 := Option.some.inj eM6
    refine y_puti C fl_X8_116 rfl g1 rfl rfl dX8_laws_68 eM6 ?_
    refine y_iload C dX8_laws_71 rfl ?_
    have e0 := Option.some.inj h
    subst e0
    exact y_iret C E (Nat.zero_le _) (Nat.zero_le _) dX8_laws_73
  · have h := itF c3 h
    refine y_iload_n C dX8_laws_10 rfl ?_
    have e0 := Option.some.inj h
    subst e0
    exact y_iret C E (Nat.zero_le _) (Nat.zero_le _) dX8_laws_11
set_option maxRecDepth 100000 in
def b_X8_live (K : yK) (M : yM) (t : Nat) : Option (Int32 × yM) := (if gO K t 7 = true then (if (M t 7) = (999 : Int32) then (some ((-4 : Int32), M)) else (Option.bind (b_X8_dayOf K M t) fun r3 => (some ((r3 t 10), r3)))) else none)
set_option maxHeartbeats 4000000 in
set_option maxRecDepth 100000 in
theorem m_X8_live (K : yK) (M : yM) (t : Nat) : yMet yX8_live cX8_live 1 (Option.some Jvm.ClassFile.FieldType.int) rm_X8_live K M [.ref t] (b_X8_live K M t) (yGi K) := by
  refine yM_intro (by decide) (Nat.le_of_ble_eq_true rfl) (fun X r h C E => ?_)
  replace C : yCx X cX8_live RX8 "live" rm_X8_live 1 := C
  show Y X K M 0 0 0 [(0, .ref t)] []
  unfold b_X8_live at h
  refine y_aload_n C dX8_live_0 rfl ?_
  obtain ⟨g1, h⟩ := gd h
  refine y_geti C fl_X8_107 g1 dX8_live_1 ?_
  refine y_sipush C dX8_live_4 ks_999 ?_
  refine y_icmp_ne C dX8_live_7 (tgt := 13) rfl (fun c2 => ?_) (fun c2 => ?_)
  · have h := itF c2 h
    refine y_aload_n C dX8_live_13 rfl ?_
    obtain ⟨r3, hr3, h⟩ := ob h
    refine y_cV C [] (m_X8_dayOf K M t) hr3 g1 cw_X8_251 rfl (by decide) ⟨rfl, rfl⟩ ⟨Nat.zero_le _, Nat.zero_le _⟩ (Nat.le_of_ble_eq_true rfl) rfl rfl rfl dX8_live_14 ?_
    refine y_aload_n C dX8_live_17 rfl ?_
    refine y_geti C fl_X8_215 g1 dX8_live_18 ?_
    have e0 := Option.some.inj h
    subst e0
    exact y_iret C E (Nat.zero_le _) (Nat.zero_le _) dX8_live_21
  · have h := itT c2 h
    refine y_bipush C dX8_live_10 kb_m4 ?_
    have e0 := Option.some.inj h
    subst e0
    exact y_iret C E (Nat.zero_le _) (Nat.zero_le _) dX8_live_12
def b_X8_lobby_34 (K : yK) (t : Nat) (x_1 : Int32) (x_2 : Int32) : Nat → yM → Int32 → Int32 → Int32 → Option (Int32 × Int32 × yM)
  | 0, _, _, _, _ => none
  | n + 1, M, u34_3, u34_4, u34_5 => (if gO K t 7 = true then (if (M t 0) ≤ u34_5 then (some (u34_3, u34_4, M)) else (Option.bind (b_X8_goesFrom K M t ((M t 6)) u34_5 x_1) fun r3 => (Option.bind (if r3.1 ≤ u34_4 then (some u34_3) else (some u34_5)) fun j5 => (Option.bind (if r3.1 ≤ u34_4 then (some u34_4) else (some r3.1)) fun j7 => (Option.bind (some (u34_5 + (1 : Int32))) fun v8 => (b_X8_lobby_34 K t x_1 x_2 n r3.2 j5 j7 v8)))))) else none)
set_option maxHeartbeats 4000000 in
set_option maxRecDepth 100000 in
theorem l_X8_lobby_34 {X : yX} {K : yK} {t : Nat} {x_1 : Int32} {x_2 : Int32} (C : yCx X cX8_lobby RX8 "lobby" rm_X8_lobby 7) : ∀ (n : Nat) (M : yM) (u34_3 : Int32) (u34_4 : Int32) (u34_5 : Int32) (x : (Int32 × Int32 × yM)), b_X8_lobby_34 K t x_1 x_2 n M u34_3 u34_4 u34_5 = some x → ∀ (hX : Y X K x.2.2 0 0 92 [(2, .int x_2), (3, .int x.1), (4, .int x.2.1)] []), Y X K M 0 0 34 [(0, .ref t), (1, .int x_1), (2, .int x_2), (3, .int u34_3), (4, .int u34_4), (5, .int u34_5)] [] := by
  intro n
  induction n with
  | zero =>
    intro M u34_3 u34_4 u34_5 x h
    exact nomatch (show (none : Option _) = some x from h)
  | succ n ih =>
    intro M u34_3 u34_4 u34_5 x h hX
    rw [b_X8_lobby_34] at h
    refine y_iload C dX8_lobby_34 rfl ?_
    refine y_aload_n C dX8_lobby_36 rfl ?_
    obtain ⟨g1, h⟩ := gd h
    refine y_geti C fl_X8_87 g1 dX8_lobby_37 ?_
    refine y_icmp_ge C dX8_lobby_40 (tgt := 92) rfl (fun c2 => ?_) (fun c2 => ?_)
    · have h := itT c2 h
      have e0 := Option.some.inj h
      subst e0
      exact y_sel [2, 3, 4] rfl hX
    · have h := itF c2 h
      refine y_aload_n C dX8_lobby_43 rfl ?_
      refine y_aload_n C dX8_lobby_44 rfl ?_
      refine y_geti C fl_X8_104 g1 dX8_lobby_45 ?_
      refine y_iload C dX8_lobby_48 rfl ?_
      refine y_iload_n C dX8_lobby_50 rfl ?_
      obtain ⟨r3, hr3, h⟩ := ob h
      refine y_cV C [.int (M t 6), .int u34_5, .int x_1] (m_X8_goesFrom K M t ((M t 6)) u34_5 x_1) hr3 g1 cw_X8_290 rfl (by decide) ⟨rfl, rfl⟩ ⟨Nat.zero_le _, Nat.zero_le _⟩ (Nat.le_of_ble_eq_true rfl) rfl rfl rfl dX8_lobby_51 ?_
      refine y_istore C dX8_lobby_54 (by decide) (L' := [(6, .int r3.1), (0, .ref t), (1, .int x_1), (2, .int x_2), (3, .int u34_3), (4, .int u34_4), (5, .int u34_5)]) rfl ?_
      refine y_iload C dX8_lobby_56 rfl ?_
      refine y_iload C dX8_lobby_58 rfl ?_
      obtain ⟨j5, hj5, h⟩ := ob h
      have hJj5 : Y X K r3.2 0 0 69 [(6, .int r3.1), (0, .ref t), (1, .int x_1), (2, .int x_2), (4, .int u34_4), (5, .int u34_5)] [.int j5] := by
        refine y_istore_n C dX8_lobby_69 (by decide) (L' := [(3, .int j5), (6, .int r3.1), (0, .ref t), (1, .int x_1), (2, .int x_2), (4, .int u34_4), (5, .int u34_5)]) rfl ?_
        refine y_iload C dX8_lobby_70 rfl ?_
        refine y_iload C dX8_lobby_72 rfl ?_
        obtain ⟨j7, hj7, h⟩ := ob h
        have hJj7 : Y X K r3.2 0 0 84 [(3, .int j5), (0, .ref t), (1, .int x_1), (2, .int x_2), (5, .int u34_5)] [.int j7] := by
          refine y_istore C dX8_lobby_84 (by decide) (L' := [(4, .int j7), (3, .int j5), (0, .ref t), (1, .int x_1), (2, .int x_2), (5, .int u34_5)]) rfl ?_
          obtain ⟨v8, ev8, h⟩ := ob h
          have ev8 := Option.some.inj ev8
          refine y_iinc C dX8_lobby_86 (by decide) rfl (v := v8) (by subst ev8; rfl) (L' := [(5, .int v8), (4, .int j7), (3, .int j5), (0, .ref t), (1, .int x_1), (2, .int x_2)]) rfl ?_
          refine y_goto C dX8_lobby_89 (tgt := 34) rfl ?_
          exact y_sel [0, 1, 2, 3, 4, 5] rfl (ih _ _ _ _ _  h hX)
        replace h := hj7
        refine y_icmp_le C dX8_lobby_74 (tgt := 82) rfl (fun c6 => ?_) (fun c6 => ?_)
        · have h := itT c6 h
          refine y_iload C dX8_lobby_82 rfl ?_
          have e0 := Option.some.inj h
          subst e0
          exact y_sel [3, 0, 1, 2, 5] rfl hJj7
        · have h := itF c6 h
          refine y_iload C dX8_lobby_77 rfl ?_
          refine y_goto C dX8_lobby_79 (tgt := 84) rfl ?_
          have e0 := Option.some.inj h
          subst e0
          exact y_sel [3, 0, 1, 2, 5] rfl hJj7
      replace h := hj5
      refine y_icmp_le C dX8_lobby_60 (tgt := 68) rfl (fun c4 => ?_) (fun c4 => ?_)
      · have h := itT c4 h
        refine y_iload_n C dX8_lobby_68 rfl ?_
        have e0 := Option.some.inj h
        subst e0
        exact y_sel [6, 0, 1, 2, 4, 5] rfl hJj5
      · have h := itF c4 h
        refine y_iload C dX8_lobby_63 rfl ?_
        refine y_goto C dX8_lobby_65 (tgt := 69) rfl ?_
        have e0 := Option.some.inj h
        subst e0
        exact y_sel [6, 0, 1, 2, 4, 5] rfl hJj5
set_option maxRecDepth 100000 in
def b_X8_lobby (K : yK) (M : yM) (t : Nat) (x1 : Int32) (x2 : Int32) : Option (Int32 × yM) := (Option.bind (b_X8_in K M x1 ((0 : Int32)) ((60 : Int32))) fun r1 => (if r1 = true then (Option.bind (b_X8_in K M x2 ((0 : Int32)) ((1 : Int32))) fun r3 => (if r3 = true then (if gO K t 7 = true then (Option.bind (b_X8_goes K M t x1) fun r6 => (Option.bind (b_X8_lobby_34 K t x1 x2 1000 r6.2 ((-1 : Int32)) r6.1 ((0 : Int32))) fun j7 => (if x2 = 0 then (some (j7.1, j7.2.2)) else (some (j7.2.1, j7.2.2))))) else none) else (some ((-2 : Int32), M)))) else (some ((-2 : Int32), M))))
set_option maxHeartbeats 4000000 in
set_option maxRecDepth 100000 in
theorem m_X8_lobby (K : yK) (M : yM) (t : Nat) (x1 : Int32) (x2 : Int32) : yMet yX8_lobby cX8_lobby 7 (Option.some Jvm.ClassFile.FieldType.int) rm_X8_lobby K M [.ref t, .int x1, .int x2] (b_X8_lobby K M t x1 x2) (yGi K) := by
  refine yM_intro (by decide) (Nat.le_of_ble_eq_true rfl) (fun X r h C E => ?_)
  replace C : yCx X cX8_lobby RX8 "lobby" rm_X8_lobby 7 := C
  show Y X K M 0 0 0 [(0, .ref t), (1, .int x1), (2, .int x2)] []
  unfold b_X8_lobby at h
  refine y_iload_n C dX8_lobby_0 rfl ?_
  refine y_iconst C dX8_lobby_1 kc_0 ?_
  refine y_bipush C dX8_lobby_2 kb_60 ?_
  obtain ⟨r1, hr1, h⟩ := ob h
  refine y_cS C [.int x1, .int (0 : Int32), .int (60 : Int32)] (m_X8_in K M x1 ((0 : Int32)) ((60 : Int32))) hr1 cw_X8_90 rfl (by decide) ⟨rfl, rfl⟩ ⟨Nat.zero_le _, Nat.zero_le _⟩ (Nat.le_of_ble_eq_true rfl) rfl rfl rfl dX8_lobby_4 ?_
  refine y_ifeqB C dX8_lobby_7 (tgt := 19) rfl (fun c2 => ?_) (fun c2 => ?_)
  · have h := itFb c2 h
    refine y_bipush C dX8_lobby_19 kb_m2 ?_
    have e0 := Option.some.inj h
    subst e0
    exact y_iret C E (Nat.zero_le _) (Nat.zero_le _) dX8_lobby_21
  · have h := itT c2 h
    refine y_iload_n C dX8_lobby_10 rfl ?_
    refine y_iconst C dX8_lobby_11 kc_0 ?_
    refine y_iconst C dX8_lobby_12 kc_1 ?_
    obtain ⟨r3, hr3, h⟩ := ob h
    refine y_cS C [.int x2, .int (0 : Int32), .int (1 : Int32)] (m_X8_in K M x2 ((0 : Int32)) ((1 : Int32))) hr3 cw_X8_90 rfl (by decide) ⟨rfl, rfl⟩ ⟨Nat.zero_le _, Nat.zero_le _⟩ (Nat.le_of_ble_eq_true rfl) rfl rfl rfl dX8_lobby_13 ?_
    refine y_ifneB C dX8_lobby_16 (tgt := 22) rfl (fun c4 => ?_) (fun c4 => ?_)
    · have h := itT c4 h
      refine y_iconst C dX8_lobby_22 kc_m1 ?_
      refine y_istore_n C dX8_lobby_23 (by decide) (L' := [(3, .int (-1)), (0, .ref t), (1, .int x1), (2, .int x2)]) rfl ?_
      refine y_aload_n C dX8_lobby_24 rfl ?_
      refine y_iload_n C dX8_lobby_25 rfl ?_
      obtain ⟨g5, h⟩ := gd h
      obtain ⟨r6, hr6, h⟩ := ob h
      refine y_cV C [.int x1] (m_X8_goes K M t x1) hr6 g5 cw_X8_284 rfl (by decide) ⟨rfl, rfl⟩ ⟨Nat.zero_le _, Nat.zero_le _⟩ (Nat.le_of_ble_eq_true rfl) rfl rfl rfl dX8_lobby_26 ?_
      refine y_istore C dX8_lobby_29 (by decide) (L' := [(4, .int r6.1), (3, .int (-1)), (0, .ref t), (1, .int x1), (2, .int x2)]) rfl ?_
      refine y_iconst C dX8_lobby_31 kc_0 ?_
      refine y_istore C dX8_lobby_32 (by decide) (L' := [(5, .int (0)), (4, .int r6.1), (3, .int (-1)), (0, .ref t), (1, .int x1), (2, .int x2)]) rfl ?_
      obtain ⟨j7, hj7, h⟩ := ob h
      refine y_sel [0, 1, 2, 3, 4, 5] rfl (l_X8_lobby_34 C 1000 _ _ _ _ _ hj7 ?_)
      refine y_iload_n C dX8_lobby_92 rfl ?_
      refine y_if_ne C dX8_lobby_93 (tgt := 100) rfl (fun c8 => ?_) (fun c8 => ?_)
      · have h := itF c8 h
        refine y_iload C dX8_lobby_100 rfl ?_
        have e0 := Option.some.inj h
        subst e0
        exact y_iret C E (Nat.zero_le _) (Nat.zero_le _) dX8_lobby_102
      · have h := itT c8 h
        refine y_iload_n C dX8_lobby_96 rfl ?_
        refine y_goto C dX8_lobby_97 (tgt := 102) rfl ?_
        have e0 := Option.some.inj h
        subst e0
        exact y_iret C E (Nat.zero_le _) (Nat.zero_le _) dX8_lobby_102
    · have h := itFb c4 h
      refine y_bipush C dX8_lobby_19 kb_m2 ?_
      have e0 := Option.some.inj h
      subst e0
      exact y_iret C E (Nat.zero_le _) (Nat.zero_le _) dX8_lobby_21
def b_X8_longest_19 (K : yK) (M : yM) (t : Nat) (x_1 : Int32) : Nat → Int32 → Int32 → Int32 → Option (Int32 × Int32)
  | 0, _, _, _ => none
  | n + 1, u19_2, u19_3, u19_4 => (if gO K t 7 = true then (if (M t 0) ≤ u19_4 then (some (u19_2, u19_3)) else (Option.bind (b_X8_chainOf K M t u19_4) fun r3 => (Option.bind (b_X8_ones K M r3) fun r4 => (Option.bind (if r4 ≤ u19_3 then (some u19_2) else (some u19_4)) fun j6 => (Option.bind (if r4 ≤ u19_3 then (some u19_3) else (some r4)) fun j8 => (Option.bind (some (u19_4 + (1 : Int32))) fun v9 => (b_X8_longest_19 K M t x_1 n j6 j8 v9))))))) else none)
set_option maxHeartbeats 4000000 in
set_option maxRecDepth 100000 in
theorem l_X8_longest_19 {X : yX} {K : yK} {M : yM} {t : Nat} {x_1 : Int32} (C : yCx X cX8_longest RX8 "longest" rm_X8_longest 6) : ∀ (n : Nat) (u19_2 : Int32) (u19_3 : Int32) (u19_4 : Int32) (x : (Int32 × Int32)), b_X8_longest_19 K M t x_1 n u19_2 u19_3 u19_4 = some x → ∀ (hX : Y X K M 0 0 71 [(1, .int x_1), (2, .int x.1), (3, .int x.2)] []), Y X K M 0 0 19 [(0, .ref t), (1, .int x_1), (2, .int u19_2), (3, .int u19_3), (4, .int u19_4)] [] := by
  intro n
  induction n with
  | zero =>
    intro u19_2 u19_3 u19_4 x h
    exact nomatch (show (none : Option _) = some x from h)
  | succ n ih =>
    intro u19_2 u19_3 u19_4 x h hX
    rw [b_X8_longest_19] at h
    refine y_iload C dX8_longest_19 rfl ?_
    refine y_aload_n C dX8_longest_21 rfl ?_
    obtain ⟨g1, h⟩ := gd h
    refine y_geti C fl_X8_87 g1 dX8_longest_22 ?_
    refine y_icmp_ge C dX8_longest_25 (tgt := 71) rfl (fun c2 => ?_) (fun c2 => ?_)
    · have h := itT c2 h
      have e0 := Option.some.inj h
      subst e0
      exact y_sel [1, 2, 3] rfl hX
    · have h := itF c2 h
      refine y_aload_n C dX8_longest_28 rfl ?_
      refine y_iload C dX8_longest_29 rfl ?_
      obtain ⟨r3, hr3, h⟩ := ob h
      refine y_cV C [.int u19_4] (m_X8_chainOf K M t u19_4) hr3 g1 cw_X8_227 rfl (by decide) ⟨rfl, rfl⟩ ⟨Nat.zero_le _, Nat.zero_le _⟩ (Nat.le_of_ble_eq_true rfl) rfl rfl rfl dX8_longest_31 ?_
      obtain ⟨r4, hr4, h⟩ := ob h
      refine y_cS C [.int r3] (m_X8_ones K M r3) hr4 cw_X8_218 rfl (by decide) ⟨rfl, rfl⟩ ⟨Nat.zero_le _, Nat.zero_le _⟩ (Nat.le_of_ble_eq_true rfl) rfl rfl rfl dX8_longest_34 ?_
      refine y_istore C dX8_longest_37 (by decide) (L' := [(5, .int r4), (0, .ref t), (1, .int x_1), (2, .int u19_2), (3, .int u19_3), (4, .int u19_4)]) rfl ?_
      refine y_iload C dX8_longest_39 rfl ?_
      refine y_iload_n C dX8_longest_41 rfl ?_
      obtain ⟨j6, hj6, h⟩ := ob h
      have hJj6 : Y X K M 0 0 51 [(5, .int r4), (0, .ref t), (1, .int x_1), (3, .int u19_3), (4, .int u19_4)] [.int j6] := by
        refine y_istore_n C dX8_longest_51 (by decide) (L' := [(2, .int j6), (5, .int r4), (0, .ref t), (1, .int x_1), (3, .int u19_3), (4, .int u19_4)]) rfl ?_
        refine y_iload C dX8_longest_52 rfl ?_
        refine y_iload_n C dX8_longest_54 rfl ?_
        obtain ⟨j8, hj8, h⟩ := ob h
        have hJj8 : Y X K M 0 0 64 [(2, .int j6), (0, .ref t), (1, .int x_1), (4, .int u19_4)] [.int j8] := by
          refine y_istore_n C dX8_longest_64 (by decide) (L' := [(3, .int j8), (2, .int j6), (0, .ref t), (1, .int x_1), (4, .int u19_4)]) rfl ?_
          obtain ⟨v9, ev9, h⟩ := ob h
          have ev9 := Option.some.inj ev9
          refine y_iinc C dX8_longest_65 (by decide) rfl (v := v9) (by subst ev9; rfl) (L' := [(4, .int v9), (3, .int j8), (2, .int j6), (0, .ref t), (1, .int x_1)]) rfl ?_
          refine y_goto C dX8_longest_68 (tgt := 19) rfl ?_
          exact y_sel [0, 1, 2, 3, 4] rfl (ih _ _ _ _  h hX)
        replace h := hj8
        refine y_icmp_le C dX8_longest_55 (tgt := 63) rfl (fun c7 => ?_) (fun c7 => ?_)
        · have h := itT c7 h
          refine y_iload_n C dX8_longest_63 rfl ?_
          have e0 := Option.some.inj h
          subst e0
          exact y_sel [2, 0, 1, 4] rfl hJj8
        · have h := itF c7 h
          refine y_iload C dX8_longest_58 rfl ?_
          refine y_goto C dX8_longest_60 (tgt := 64) rfl ?_
          have e0 := Option.some.inj h
          subst e0
          exact y_sel [2, 0, 1, 4] rfl hJj8
      replace h := hj6
      refine y_icmp_le C dX8_longest_42 (tgt := 50) rfl (fun c5 => ?_) (fun c5 => ?_)
      · have h := itT c5 h
        refine y_iload_n C dX8_longest_50 rfl ?_
        have e0 := Option.some.inj h
        subst e0
        exact y_sel [5, 0, 1, 3, 4] rfl hJj6
      · have h := itF c5 h
        refine y_iload C dX8_longest_45 rfl ?_
        refine y_goto C dX8_longest_47 (tgt := 51) rfl ?_
        have e0 := Option.some.inj h
        subst e0
        exact y_sel [5, 0, 1, 3, 4] rfl hJj6
set_option maxRecDepth 100000 in
def b_X8_longest (K : yK) (M : yM) (t : Nat) (x1 : Int32) : Option Int32 := (Option.bind (b_X8_in K M x1 ((0 : Int32)) ((1 : Int32))) fun r1 => (if r1 = true then (Option.bind (b_X8_longest_19 K M t x1 1000 ((-1 : Int32)) ((-1 : Int32)) ((0 : Int32))) fun j3 => (if x1 = 0 then (some j3.1) else (some j3.2))) else (some (-2 : Int32))))
set_option maxHeartbeats 4000000 in
set_option maxRecDepth 100000 in
theorem m_X8_longest (K : yK) (M : yM) (t : Nat) (x1 : Int32) : yMet yX8_longest cX8_longest 6 (Option.some Jvm.ClassFile.FieldType.int) rm_X8_longest K M [.ref t, .int x1] (b_X8_longest K M t x1) (yFi K M) := by
  refine yM_intro (by decide) (Nat.le_of_ble_eq_true rfl) (fun X r h C E => ?_)
  replace C : yCx X cX8_longest RX8 "longest" rm_X8_longest 6 := C
  show Y X K M 0 0 0 [(0, .ref t), (1, .int x1)] []
  unfold b_X8_longest at h
  refine y_iload_n C dX8_longest_0 rfl ?_
  refine y_iconst C dX8_longest_1 kc_0 ?_
  refine y_iconst C dX8_longest_2 kc_1 ?_
  obtain ⟨r1, hr1, h⟩ := ob h
  refine y_cS C [.int x1, .int (0 : Int32), .int (1 : Int32)] (m_X8_in K M x1 ((0 : Int32)) ((1 : Int32))) hr1 cw_X8_90 rfl (by decide) ⟨rfl, rfl⟩ ⟨Nat.zero_le _, Nat.zero_le _⟩ (Nat.le_of_ble_eq_true rfl) rfl rfl rfl dX8_longest_3 ?_
  refine y_ifneB C dX8_longest_6 (tgt := 12) rfl (fun c2 => ?_) (fun c2 => ?_)
  · have h := itT c2 h
    refine y_iconst C dX8_longest_12 kc_m1 ?_
    refine y_istore_n C dX8_longest_13 (by decide) (L' := [(2, .int (-1)), (0, .ref t), (1, .int x1)]) rfl ?_
    refine y_iconst C dX8_longest_14 kc_m1 ?_
    refine y_istore_n C dX8_longest_15 (by decide) (L' := [(3, .int (-1)), (2, .int (-1)), (0, .ref t), (1, .int x1)]) rfl ?_
    refine y_iconst C dX8_longest_16 kc_0 ?_
    refine y_istore C dX8_longest_17 (by decide) (L' := [(4, .int (0)), (3, .int (-1)), (2, .int (-1)), (0, .ref t), (1, .int x1)]) rfl ?_
    obtain ⟨j3, hj3, h⟩ := ob h
    refine y_sel [0, 1, 2, 3, 4] rfl (l_X8_longest_19 C 1000 _ _ _ _ hj3 ?_)
    refine y_iload_n C dX8_longest_71 rfl ?_
    refine y_if_ne C dX8_longest_72 (tgt := 79) rfl (fun c4 => ?_) (fun c4 => ?_)
    · have h := itF c4 h
      refine y_iload_n C dX8_longest_79 rfl ?_
      have e0 := Option.some.inj h
      subst e0
      exact y_iret C E (Nat.zero_le _) (Nat.zero_le _) dX8_longest_80
    · have h := itT c4 h
      refine y_iload_n C dX8_longest_75 rfl ?_
      refine y_goto C dX8_longest_76 (tgt := 80) rfl ?_
      have e0 := Option.some.inj h
      subst e0
      exact y_iret C E (Nat.zero_le _) (Nat.zero_le _) dX8_longest_80
  · have h := itFb c2 h
    refine y_bipush C dX8_longest_9 kb_m2 ?_
    have e0 := Option.some.inj h
    subst e0
    exact y_iret C E (Nat.zero_le _) (Nat.zero_le _) dX8_longest_11
def b_X8_lowest_16 (K : yK) (M : yM) (w_0 : Int64) (w_2 : Int64) (x_4 : Int32) : Nat → Int64 → Int64 → Option Int64
  | 0, _, _ => none
  | n + 1, u16_5, u16_7 => (if (lg_cmp u16_7 (0 : Int64)) = 0 then (some u16_5) else (if ¬ u16_7 = 0 then (Option.bind (some (u16_5 - u16_5 / u16_7 * u16_7)) fun v3 => (b_X8_lowest_16 K M w_0 w_2 x_4 n u16_7 v3)) else none))
set_option maxHeartbeats 4000000 in
set_option maxRecDepth 100000 in
theorem l_X8_lowest_16 {X : yX} {K : yK} {M : yM} {w_0 : Int64} {w_2 : Int64} {x_4 : Int32} (C : yCx X cX8_lowest RX8 "lowest" rm_X8_lowest 11) : ∀ (n : Nat) (u16_5 : Int64) (u16_7 : Int64) (x : Int64), b_X8_lowest_16 K M w_0 w_2 x_4 n u16_5 u16_7 = some x → ∀ (hX : Y X K M 0 0 41 [(0, .long w_0), (2, .long w_2), (4, .int x_4), (5, .long x)] []), Y X K M 0 0 16 [(0, .long w_0), (2, .long w_2), (4, .int x_4), (5, .long u16_5), (7, .long u16_7)] [] := by
  intro n
  induction n with
  | zero =>
    intro u16_5 u16_7 x h
    exact nomatch (show (none : Option _) = some x from h)
  | succ n ih =>
    intro u16_5 u16_7 x h hX
    rw [b_X8_lowest_16] at h
    refine y_lload C dX8_lowest_16 rfl ?_
    refine y_lconst C dX8_lowest_18 rfl ?_
    refine y_lcmp C dX8_lowest_19 ?_
    refine y_if_eq C dX8_lowest_20 (tgt := 41) rfl (fun c1 => ?_) (fun c1 => ?_)
    · have h := itT c1 h
      have e0 := Option.some.inj h
      subst e0
      exact y_sel [0, 2, 4, 5] rfl hX
    · have h := itF c1 h
      refine y_lload C dX8_lowest_23 rfl ?_
      refine y_lload C dX8_lowest_25 rfl ?_
      obtain ⟨g2, h⟩ := gp h
      refine y_lrem C dX8_lowest_27 g2 ?_
      obtain ⟨v3, ev3, h⟩ := ob h
      have ev3 := Option.some.inj ev3
      refine y_lstore C dX8_lowest_28 (by decide) (L' := [(9, .long v3), (0, .long w_0), (2, .long w_2), (4, .int x_4), (5, .long u16_5), (7, .long u16_7)]) (by subst ev3; rfl) ?_
      refine y_lload C dX8_lowest_30 rfl ?_
      refine y_lstore C dX8_lowest_32 (by decide) (L' := [(5, .long u16_7), (9, .long v3), (0, .long w_0), (2, .long w_2), (4, .int x_4), (7, .long u16_7)]) rfl ?_
      refine y_lload C dX8_lowest_34 rfl ?_
      refine y_lstore C dX8_lowest_36 (by decide) (L' := [(7, .long v3), (5, .long u16_7), (9, .long v3), (0, .long w_0), (2, .long w_2), (4, .int x_4)]) rfl ?_
      refine y_goto C dX8_lowest_38 (tgt := 16) rfl ?_
      exact y_sel [0, 2, 4, 5, 7] rfl (ih _ _ _  h hX)
set_option maxRecDepth 100000 in
def b_X8_lowest (K : yK) (M : yM) (w1 : Int64) (w2 : Int64) (x3 : Int32) : Option Int64 := (if (lg_cmp w1 (0 : Int64)) = 0 then (some (x3).toInt64) else (Option.bind (b_X8_lowest_16 K M w1 w2 x3 1000 w1 w2) fun j2 => (if x3 = 0 then (if ¬ j2 = 0 then (some (w1 / j2)) else none) else (if ¬ j2 = 0 then (some (w2 / j2)) else none))))
set_option maxHeartbeats 4000000 in
set_option maxRecDepth 100000 in
theorem m_X8_lowest (K : yK) (M : yM) (w1 : Int64) (w2 : Int64) (x3 : Int32) : yMet yX8_lowest cX8_lowest 11 (Option.some Jvm.ClassFile.FieldType.long) rm_X8_lowest K M [.long w1, .long w2, .int x3] (b_X8_lowest K M w1 w2 x3) (yFl K M) := by
  refine yM_intro (by decide) (Nat.le_of_ble_eq_true rfl) (fun X r h C E => ?_)
  replace C : yCx X cX8_lowest RX8 "lowest" rm_X8_lowest 11 := C
  show Y X K M 0 0 0 [(0, .long w1), (2, .long w2), (4, .int x3)] []
  unfold b_X8_lowest at h
  refine y_lload_n C dX8_lowest_0 rfl ?_
  refine y_lconst C dX8_lowest_1 rfl ?_
  refine y_lcmp C dX8_lowest_2 ?_
  refine y_if_ne C dX8_lowest_3 (tgt := 10) rfl (fun c1 => ?_) (fun c1 => ?_)
  · have h := itF c1 h
    refine y_lload_n C dX8_lowest_10 rfl ?_
    refine y_lstore C dX8_lowest_11 (by decide) (L' := [(5, .long w1), (0, .long w1), (2, .long w2), (4, .int x3)]) rfl ?_
    refine y_lload_n C dX8_lowest_13 rfl ?_
    refine y_lstore C dX8_lowest_14 (by decide) (L' := [(7, .long w2), (5, .long w1), (0, .long w1), (2, .long w2), (4, .int x3)]) rfl ?_
    obtain ⟨j2, hj2, h⟩ := ob h
    refine y_sel [0, 2, 4, 5, 7] rfl (l_X8_lowest_16 C 1000 _ _ _ hj2 ?_)
    refine y_iload C dX8_lowest_41 rfl ?_
    refine y_if_ne C dX8_lowest_43 (tgt := 50) rfl (fun c3 => ?_) (fun c3 => ?_)
    · have h := itF c3 h
      refine y_lload_n C dX8_lowest_50 rfl ?_
      refine y_lload C dX8_lowest_51 rfl ?_
      obtain ⟨g4, h⟩ := gp h
      refine y_ldiv C dX8_lowest_53 g4 ?_
      have e0 := Option.some.inj h
      subst e0
      exact y_lret C E (Nat.zero_le _) (Nat.zero_le _) dX8_lowest_54
    · have h := itT c3 h
      refine y_lload_n C dX8_lowest_46 rfl ?_
      refine y_goto C dX8_lowest_47 (tgt := 51) rfl ?_
      refine y_lload C dX8_lowest_51 rfl ?_
      obtain ⟨g5, h⟩ := gp h
      refine y_ldiv C dX8_lowest_53 g5 ?_
      have e0 := Option.some.inj h
      subst e0
      exact y_lret C E (Nat.zero_le _) (Nat.zero_le _) dX8_lowest_54
  · have h := itT c1 h
    refine y_iload C dX8_lowest_6 rfl ?_
    refine y_i2l C dX8_lowest_8 rfl ?_
    have e0 := Option.some.inj h
    subst e0
    exact y_lret C E (Nat.zero_le _) (Nat.zero_le _) dX8_lowest_9
set_option maxRecDepth 100000 in
def b_X8_needs (K : yK) (M : yM) (t : Nat) (x1 : Int32) : Option Int32 := (if gO K t 7 = true then (Option.bind (b_X8_isDeed K M t x1) fun r2 => (if r2 = true then (Option.bind (K.2.2 t 5) fun q4 => (if gA K q4 x1 = true then (some (M q4 (x1).toNatClampNeg)) else none)) else (some (-5 : Int32)))) else none)
set_option maxHeartbeats 4000000 in
set_option maxRecDepth 100000 in
theorem m_X8_needs (K : yK) (M : yM) (t : Nat) (x1 : Int32) : yMet yX8_needs cX8_needs 2 (Option.some Jvm.ClassFile.FieldType.int) rm_X8_needs K M [.ref t, .int x1] (b_X8_needs K M t x1) (yFi K M) := by
  refine yM_intro (by decide) (Nat.le_of_ble_eq_true rfl) (fun X r h C E => ?_)
  replace C : yCx X cX8_needs RX8 "needs" rm_X8_needs 2 := C
  show Y X K M 0 0 0 [(0, .ref t), (1, .int x1)] []
  unfold b_X8_needs at h
  refine y_aload_n C dX8_needs_0 rfl ?_
  refine y_iload_n C dX8_needs_1 rfl ?_
  obtain ⟨g1, h⟩ := gd h
  obtain ⟨r2, hr2, h⟩ := ob h
  refine y_cV C [.int x1] (m_X8_isDeed K M t x1) hr2 g1 cw_X8_233 rfl (by decide) ⟨rfl, rfl⟩ ⟨Nat.zero_le _, Nat.zero_le _⟩ (Nat.le_of_ble_eq_true rfl) rfl rfl rfl dX8_needs_2 ?_
  refine y_ifeqB C dX8_needs_5 (tgt := 17) rfl (fun c3 => ?_) (fun c3 => ?_)
  · have h := itFb c3 h
    refine y_bipush C dX8_needs_17 kb_m5 ?_
    have e0 := Option.some.inj h
    subst e0
    exact y_iret C E (Nat.zero_le _) (Nat.zero_le _) dX8_needs_19
  · have h := itT c3 h
    refine y_aload_n C dX8_needs_8 rfl ?_
    obtain ⟨q4, hq4, h⟩ := ob h
    refine y_getr C fl_X8_19 g1 hq4 dX8_needs_9 ?_
    refine y_iload_n C dX8_needs_12 rfl ?_
    obtain ⟨g5, h⟩ := gd h
    refine y_iald C g5 dX8_needs_13 ?_
    refine y_goto C dX8_needs_14 (tgt := 19) rfl ?_
    have e0 := Option.some.inj h
    subst e0
    exact y_iret C E (Nat.zero_le _) (Nat.zero_le _) dX8_needs_19
set_option maxRecDepth 100000 in
def b_X8_now (K : yK) (M : yM) (t : Nat) (x1 : Int32) : Option (Int32 × yM) := (if x1 = (0 : Int32) then (if gO K t 7 = true then (Option.bind (b_X8_holding K M t) fun r5 => (some (r5.1, r5.2))) else none) else (if x1 = (1 : Int32) then (if gO K t 7 = true then (some ((M t 10), M)) else none) else (if x1 = (2 : Int32) then (if gO K t 7 = true then (Option.bind (b_X8_byThemselves K M t) fun r8 => (some (r8.1, r8.2))) else none) else (some ((-2 : Int32), M)))))
set_option maxHeartbeats 4000000 in
set_option maxRecDepth 100000 in
theorem m_X8_now (K : yK) (M : yM) (t : Nat) (x1 : Int32) : yMet yX8_now cX8_now 2 (Option.some Jvm.ClassFile.FieldType.int) rm_X8_now K M [.ref t, .int x1] (b_X8_now K M t x1) (yGi K) := by
  refine yM_intro (by decide) (Nat.le_of_ble_eq_true rfl) (fun X r h C E => ?_)
  replace C : yCx X cX8_now RX8 "now" rm_X8_now 2 := C
  show Y X K M 0 0 0 [(0, .ref t), (1, .int x1)] []
  unfold b_X8_now at h
  refine y_iload_n C dX8_now_0 rfl ?_
  rcases Classical.em (x1 = (0 : Int32)) with c1 | c1
  · have h := itT c1 h
    refine y_tabIn C dX8_now_1 (off := 27) (tgt := 28) (by rw [c1]; decide) (by rw [c1]; decide) (by rw [c1]; rfl) rfl ?_
    refine y_aload_n C dX8_now_28 rfl ?_
    obtain ⟨g4, h⟩ := gd h
    obtain ⟨r5, hr5, h⟩ := ob h
    refine y_cV C [] (m_X8_holding K M t) hr5 g4 cw_X8_230 rfl (by decide) ⟨rfl, rfl⟩ ⟨Nat.zero_le _, Nat.zero_le _⟩ (Nat.le_of_ble_eq_true rfl) rfl rfl rfl dX8_now_29 ?_
    have e0 := Option.some.inj h
    subst e0
    exact y_iret C E (Nat.zero_le _) (Nat.zero_le _) dX8_now_32
  replace h := itF c1 h
  rcases Classical.em (x1 = (1 : Int32)) with c2 | c2
  · have h := itT c2 h
    refine y_tabIn C dX8_now_1 (off := 32) (tgt := 33) (by rw [c2]; decide) (by rw [c2]; decide) (by rw [c2]; rfl) rfl ?_
    refine y_aload_n C dX8_now_33 rfl ?_
    obtain ⟨g6, h⟩ := gd h
    refine y_geti C fl_X8_215 g6 dX8_now_34 ?_
    have e0 := Option.some.inj h
    subst e0
    exact y_iret C E (Nat.zero_le _) (Nat.zero_le _) dX8_now_37
  replace h := itF c2 h
  rcases Classical.em (x1 = (2 : Int32)) with c3 | c3
  · have h := itT c3 h
    refine y_tabIn C dX8_now_1 (off := 37) (tgt := 38) (by rw [c3]; decide) (by rw [c3]; decide) (by rw [c3]; rfl) rfl ?_
    refine y_aload_n C dX8_now_38 rfl ?_
    obtain ⟨g7, h⟩ := gd h
    obtain ⟨r8, hr8, h⟩ := ob h
    refine y_cV C [] (m_X8_byThemselves K M t) hr8 g7 cw_X8_224 rfl (by decide) ⟨rfl, rfl⟩ ⟨Nat.zero_le _, Nat.zero_le _⟩ (Nat.le_of_ble_eq_true rfl) rfl rfl rfl dX8_now_39 ?_
    have e0 := Option.some.inj h
    subst e0
    exact y_iret C E (Nat.zero_le _) (Nat.zero_le _) dX8_now_42
  replace h := itF c3 h
  refine y_tabOut C dX8_now_1 (tgt := 43) (by have q0 : (x1).toInt ≠ 0 := yNe c1; have q1 : (x1).toInt ≠ 1 := yNe c2; have q2 : (x1).toInt ≠ 2 := yNe c3; omega) rfl ?_
  refine y_bipush C dX8_now_43 kb_m2 ?_
  have e0 := Option.some.inj h
  subst e0
  exact y_iret C E (Nat.zero_le _) (Nat.zero_le _) dX8_now_45
def b_X8_odds_86 (K : yK) (t : Nat) (x_1 : Int32) (x_2 : Int32) (x_3 : Int32) (x_4 : Int32) (x_5 : Int32) : Nat → yM → Int64 → Int32 → Option (Int64 × yM)
  | 0, _, _, _ => none
  | n + 1, M, u86_7, u86_9 => (if (x_2 - x_2 / (100 : Int32) * (100 : Int32)) ≤ u86_9 then (some (u86_7, M)) else (if gO K t 7 = true then (Option.bind (b_X8_goesByLots K M t ((x_1 + u86_9)) ((x_2 / (100 : Int32))) x_4) fun r3 => (Option.bind (some (u86_7 + ((((r3.2 t 44) >>> (x_3 &&& 31)) &&& (1 : Int32))).toInt64)) fun v4 => (Option.bind (some (u86_9 + (1 : Int32))) fun v5 => (b_X8_odds_86 K t x_1 x_2 x_3 x_4 x_5 n r3.2 v4 v5)))) else none))
set_option maxHeartbeats 4000000 in
set_option maxRecDepth 100000 in
theorem l_X8_odds_86 {X : yX} {K : yK} {t : Nat} {x_1 : Int32} {x_2 : Int32} {x_3 : Int32} {x_4 : Int32} {x_5 : Int32} (C : yCx X cX8_odds RX8 "odds" rm_X8_odds 10) : ∀ (n : Nat) (M : yM) (u86_7 : Int64) (u86_9 : Int32) (x : (Int64 × yM)), b_X8_odds_86 K t x_1 x_2 x_3 x_4 x_5 n M u86_7 u86_9 = some x → ∀ (hX : Y X K x.2 0 0 130 [(2, .int x_2), (5, .int x_5), (7, .long x.1)] []), Y X K M 0 0 86 [(0, .ref t), (1, .int x_1), (2, .int x_2), (3, .int x_3), (4, .int x_4), (5, .int x_5), (7, .long u86_7), (9, .int u86_9)] [] := by
  intro n
  induction n with
  | zero =>
    intro M u86_7 u86_9 x h
    exact nomatch (show (none : Option _) = some x from h)
  | succ n ih =>
    intro M u86_7 u86_9 x h hX
    rw [b_X8_odds_86] at h
    refine y_iload C dX8_odds_86 rfl ?_
    refine y_iload_n C dX8_odds_88 rfl ?_
    refine y_bipush C dX8_odds_89 kb_100 ?_
    refine y_irem C dX8_odds_91 (by decide) ?_
    refine y_icmp_ge C dX8_odds_92 (tgt := 130) rfl (fun c1 => ?_) (fun c1 => ?_)
    · have h := itT c1 h
      have e0 := Option.some.inj h
      subst e0
      exact y_sel [2, 5, 7] rfl hX
    · have h := itF c1 h
      refine y_aload_n C dX8_odds_95 rfl ?_
      refine y_iload_n C dX8_odds_96 rfl ?_
      refine y_iload C dX8_odds_97 rfl ?_
      refine y_iadd C dX8_odds_99 ?_
      refine y_iload_n C dX8_odds_100 rfl ?_
      refine y_bipush C dX8_odds_101 kb_100 ?_
      refine y_idiv C dX8_odds_103 (by decide) ?_
      refine y_iload C dX8_odds_104 rfl ?_
      obtain ⟨g2, h⟩ := gd h
      obtain ⟨r3, hr3, h⟩ := ob h
      refine y_cV C [.int (x_1 + u86_9), .int (x_2 / (100 : Int32)), .int x_4] (m_X8_goesByLots K M t ((x_1 + u86_9)) ((x_2 / (100 : Int32))) x_4) hr3 g2 cw_X8_312 rfl (by decide) ⟨rfl, rfl⟩ ⟨Nat.zero_le _, Nat.zero_le _⟩ (Nat.le_of_ble_eq_true rfl) rfl rfl rfl dX8_odds_106 ?_
      refine y_pop C dX8_odds_109 rfl ?_
      refine y_lload C dX8_odds_110 rfl ?_
      refine y_aload_n C dX8_odds_112 rfl ?_
      refine y_geti C fl_X8_260 g2 dX8_odds_113 ?_
      refine y_iload_n C dX8_odds_116 rfl ?_
      refine y_ishr C dX8_odds_117 ?_
      refine y_iconst C dX8_odds_118 kc_1 ?_
      refine y_iand C dX8_odds_119 ?_
      refine y_i2l C dX8_odds_120 rfl ?_
      refine y_ladd C dX8_odds_121 ?_
      obtain ⟨v4, ev4, h⟩ := ob h
      have ev4 := Option.some.inj ev4
      refine y_lstore C dX8_odds_122 (by decide) (L' := [(7, .long v4), (0, .ref t), (1, .int x_1), (2, .int x_2), (3, .int x_3), (4, .int x_4), (5, .int x_5), (9, .int u86_9)]) (by subst ev4; rfl) ?_
      obtain ⟨v5, ev5, h⟩ := ob h
      have ev5 := Option.some.inj ev5
      refine y_iinc C dX8_odds_124 (by decide) rfl (v := v5) (by subst ev5; rfl) (L' := [(9, .int v5), (7, .long v4), (0, .ref t), (1, .int x_1), (2, .int x_2), (3, .int x_3), (4, .int x_4), (5, .int x_5)]) rfl ?_
      refine y_goto C dX8_odds_127 (tgt := 86) rfl ?_
      exact y_sel [0, 1, 2, 3, 4, 5, 7, 9] rfl (ih _ _ _ _  h hX)
set_option maxRecDepth 100000 in
def b_X8_odds (K : yK) (M : yM) (t : Nat) (x1 : Int32) (x2 : Int32) (x3 : Int32) (x4 : Int32) (x5 : Int32) : Option (Int64 × yM) := (Option.bind (b_X8_in K M x1 ((0 : Int32)) ((99999 : Int32))) fun r1 => (Option.bind (if r1 = true then (Option.bind (b_X8_in K M x2 ((0 : Int32)) ((6030 : Int32))) fun r4 => (if r4 = true then (Option.bind (b_X8_in K M ((x2 - x2 / (100 : Int32) * (100 : Int32))) ((1 : Int32)) ((30 : Int32))) fun r6 => (if r6 = true then (if gO K t 7 = true then (Option.bind (b_X8_isEntry K M t x3) fun r9 => (if r9 = true then (Option.bind (b_X8_in K M x4 ((0 : Int32)) ((100 : Int32))) fun r11 => (if r11 = true then (Option.bind (b_X8_in K M x5 ((0 : Int32)) ((1 : Int32))) fun r13 => (if r13 = true then (some true) else (some false))) else (some false))) else (some false))) else none) else (some false))) else (some false))) else (some false)) fun j3 => (if j3 = true then (Option.bind (some (0 : Int64)) fun v16 => (Option.bind (b_X8_odds_86 K t x1 x2 x3 x4 x5 1000 M v16 ((0 : Int32))) fun j17 => (Option.bind (b_X8_lowest K j17.2 j17.1 (((x2 - x2 / (100 : Int32) * (100 : Int32))).toInt64) x5) fun r18 => (some (r18, j17.2))))) else (some ((-4611686018427387904 : Int64), M)))))
set_option maxHeartbeats 4000000 in
set_option maxRecDepth 100000 in
theorem m_X8_odds (K : yK) (M : yM) (t : Nat) (x1 : Int32) (x2 : Int32) (x3 : Int32) (x4 : Int32) (x5 : Int32) : yMet yX8_odds cX8_odds 10 (Option.some Jvm.ClassFile.FieldType.long) rm_X8_odds K M [.ref t, .int x1, .int x2, .int x3, .int x4, .int x5] (b_X8_odds K M t x1 x2 x3 x4 x5) (yGl K) := by
  refine yM_intro (by decide) (Nat.le_of_ble_eq_true rfl) (fun X r h C E => ?_)
  replace C : yCx X cX8_odds RX8 "odds" rm_X8_odds 10 := C
  show Y X K M 0 0 0 [(0, .ref t), (1, .int x1), (2, .int x2), (3, .int x3), (4, .int x4), (5, .int x5)] []
  unfold b_X8_odds at h
  refine y_iload_n C dX8_odds_0 rfl ?_
  refine y_iconst C dX8_odds_1 kc_0 ?_
  refine y_ldcw C wd_1273 dX8_odds_2 ?_
  obtain ⟨r1, hr1, h⟩ := ob h
  refine y_cS C [.int x1, .int (0 : Int32), .int (99999 : Int32)] (m_X8_in K M x1 ((0 : Int32)) ((99999 : Int32))) hr1 cw_X8_90 rfl (by decide) ⟨rfl, rfl⟩ ⟨Nat.zero_le _, Nat.zero_le _⟩ (Nat.le_of_ble_eq_true rfl) rfl rfl rfl dX8_odds_5 ?_
  obtain ⟨j3, hj3, h⟩ := ob h
  have hJj3 : Y X K M 0 0 69 [(0, .ref t), (1, .int x1), (2, .int x2), (3, .int x3), (4, .int x4), (5, .int x5)] [.int (bI j3)] := by
    refine y_istore C dX8_odds_69 (by decide) (L' := [(6, .int (bI j3)), (0, .ref t), (1, .int x1), (2, .int x2), (3, .int x3), (4, .int x4), (5, .int x5)]) rfl ?_
    refine y_iload C dX8_odds_71 rfl ?_
    refine y_ifneB C dX8_odds_73 (tgt := 80) rfl (fun c15 => ?_) (fun c15 => ?_)
    · have h := itT c15 h
      refine y_lconst C dX8_odds_80 rfl ?_
      obtain ⟨v16, ev16, h⟩ := ob h
      have ev16 := Option.some.inj ev16
      refine y_lstore C dX8_odds_81 (by decide) (L' := [(7, .long v16), (6, .int (bI j3)), (0, .ref t), (1, .int x1), (2, .int x2), (3, .int x3), (4, .int x4), (5, .int x5)]) (by subst ev16; rfl) ?_
      refine y_iconst C dX8_odds_83 kc_0 ?_
      refine y_istore C dX8_odds_84 (by decide) (L' := [(9, .int (0)), (7, .long v16), (6, .int (bI j3)), (0, .ref t), (1, .int x1), (2, .int x2), (3, .int x3), (4, .int x4), (5, .int x5)]) rfl ?_
      obtain ⟨j17, hj17, h⟩ := ob h
      refine y_sel [0, 1, 2, 3, 4, 5, 7, 9] rfl (l_X8_odds_86 C 1000 _ _ _ _ hj17 ?_)
      refine y_lload C dX8_odds_130 rfl ?_
      refine y_iload_n C dX8_odds_132 rfl ?_
      refine y_bipush C dX8_odds_133 kb_100 ?_
      refine y_irem C dX8_odds_135 (by decide) ?_
      refine y_i2l C dX8_odds_136 rfl ?_
      refine y_iload C dX8_odds_137 rfl ?_
      obtain ⟨r18, hr18, h⟩ := ob h
      refine y_cS C [.long j17.1, .long ((x2 - x2 / (100 : Int32) * (100 : Int32))).toInt64, .int x5] (m_X8_lowest K j17.2 j17.1 (((x2 - x2 / (100 : Int32) * (100 : Int32))).toInt64) x5) hr18 cw_X8_317 rfl (by decide) ⟨rfl, rfl⟩ ⟨Nat.zero_le _, Nat.zero_le _⟩ (Nat.le_of_ble_eq_true rfl) rfl rfl rfl dX8_odds_139 ?_
      have e0 := Option.some.inj h
      subst e0
      exact y_lret C E (Nat.zero_le _) (Nat.zero_le _) dX8_odds_142
    · have h := itFb c15 h
      refine y_ldc2 C wd_1285 dX8_odds_76 ?_
      have e0 := Option.some.inj h
      subst e0
      exact y_lret C E (Nat.zero_le _) (Nat.zero_le _) dX8_odds_79
  replace h := hj3
  refine y_ifeqB C dX8_odds_8 (tgt := 68) rfl (fun c2 => ?_) (fun c2 => ?_)
  · have h := itFb c2 h
    refine y_iconst C dX8_odds_68 kc_0 ?_
    have e0 := Option.some.inj h
    subst e0
    exact y_sel [0, 1, 2, 3, 4, 5] rfl hJj3
  · have h := itT c2 h
    refine y_iload_n C dX8_odds_11 rfl ?_
    refine y_iconst C dX8_odds_12 kc_0 ?_
    refine y_sipush C dX8_odds_13 ks_6030 ?_
    obtain ⟨r4, hr4, h⟩ := ob h
    refine y_cS C [.int x2, .int (0 : Int32), .int (6030 : Int32)] (m_X8_in K M x2 ((0 : Int32)) ((6030 : Int32))) hr4 cw_X8_90 rfl (by decide) ⟨rfl, rfl⟩ ⟨Nat.zero_le _, Nat.zero_le _⟩ (Nat.le_of_ble_eq_true rfl) rfl rfl rfl dX8_odds_16 ?_
    refine y_ifeqB C dX8_odds_19 (tgt := 68) rfl (fun c5 => ?_) (fun c5 => ?_)
    · have h := itFb c5 h
      refine y_iconst C dX8_odds_68 kc_0 ?_
      have e0 := Option.some.inj h
      subst e0
      exact y_sel [0, 1, 2, 3, 4, 5] rfl hJj3
    · have h := itT c5 h
      refine y_iload_n C dX8_odds_22 rfl ?_
      refine y_bipush C dX8_odds_23 kb_100 ?_
      refine y_irem C dX8_odds_25 (by decide) ?_
      refine y_iconst C dX8_odds_26 kc_1 ?_
      refine y_bipush C dX8_odds_27 kb_30 ?_
      obtain ⟨r6, hr6, h⟩ := ob h
      refine y_cS C [.int (x2 - x2 / (100 : Int32) * (100 : Int32)), .int (1 : Int32), .int (30 : Int32)] (m_X8_in K M ((x2 - x2 / (100 : Int32) * (100 : Int32))) ((1 : Int32)) ((30 : Int32))) hr6 cw_X8_90 rfl (by decide) ⟨rfl, rfl⟩ ⟨Nat.zero_le _, Nat.zero_le _⟩ (Nat.le_of_ble_eq_true rfl) rfl rfl rfl dX8_odds_29 ?_
      refine y_ifeqB C dX8_odds_32 (tgt := 68) rfl (fun c7 => ?_) (fun c7 => ?_)
      · have h := itFb c7 h
        refine y_iconst C dX8_odds_68 kc_0 ?_
        have e0 := Option.some.inj h
        subst e0
        exact y_sel [0, 1, 2, 3, 4, 5] rfl hJj3
      · have h := itT c7 h
        refine y_aload_n C dX8_odds_35 rfl ?_
        refine y_iload_n C dX8_odds_36 rfl ?_
        obtain ⟨g8, h⟩ := gd h
        obtain ⟨r9, hr9, h⟩ := ob h
        refine y_cV C [.int x3] (m_X8_isEntry K M t x3) hr9 g8 cw_X8_201 rfl (by decide) ⟨rfl, rfl⟩ ⟨Nat.zero_le _, Nat.zero_le _⟩ (Nat.le_of_ble_eq_true rfl) rfl rfl rfl dX8_odds_37 ?_
        refine y_ifeqB C dX8_odds_40 (tgt := 68) rfl (fun c10 => ?_) (fun c10 => ?_)
        · have h := itFb c10 h
          refine y_iconst C dX8_odds_68 kc_0 ?_
          have e0 := Option.some.inj h
          subst e0
          exact y_sel [0, 1, 2, 3, 4, 5] rfl hJj3
        · have h := itT c10 h
          refine y_iload C dX8_odds_43 rfl ?_
          refine y_iconst C dX8_odds_45 kc_0 ?_
          refine y_bipush C dX8_odds_46 kb_100 ?_
          obtain ⟨r11, hr11, h⟩ := ob h
          refine y_cS C [.int x4, .int (0 : Int32), .int (100 : Int32)] (m_X8_in K M x4 ((0 : Int32)) ((100 : Int32))) hr11 cw_X8_90 rfl (by decide) ⟨rfl, rfl⟩ ⟨Nat.zero_le _, Nat.zero_le _⟩ (Nat.le_of_ble_eq_true rfl) rfl rfl rfl dX8_odds_48 ?_
          refine y_ifeqB C dX8_odds_51 (tgt := 68) rfl (fun c12 => ?_) (fun c12 => ?_)
          · have h := itFb c12 h
            refine y_iconst C dX8_odds_68 kc_0 ?_
            have e0 := Option.some.inj h
            subst e0
            exact y_sel [0, 1, 2, 3, 4, 5] rfl hJj3
          · have h := itT c12 h
            refine y_iload C dX8_odds_54 rfl ?_
            refine y_iconst C dX8_odds_56 kc_0 ?_
            refine y_iconst C dX8_odds_57 kc_1 ?_
            obtain ⟨r13, hr13, h⟩ := ob h
            refine y_cS C [.int x5, .int (0 : Int32), .int (1 : Int32)] (m_X8_in K M x5 ((0 : Int32)) ((1 : Int32))) hr13 cw_X8_90 rfl (by decide) ⟨rfl, rfl⟩ ⟨Nat.zero_le _, Nat.zero_le _⟩ (Nat.le_of_ble_eq_true rfl) rfl rfl rfl dX8_odds_58 ?_
            refine y_ifeqB C dX8_odds_61 (tgt := 68) rfl (fun c14 => ?_) (fun c14 => ?_)
            · have h := itFb c14 h
              refine y_iconst C dX8_odds_68 kc_0 ?_
              have e0 := Option.some.inj h
              subst e0
              exact y_sel [0, 1, 2, 3, 4, 5] rfl hJj3
            · have h := itT c14 h
              refine y_iconst C dX8_odds_64 kc_1 ?_
              refine y_goto C dX8_odds_65 (tgt := 69) rfl ?_
              have e0 := Option.some.inj h
              subst e0
              exact y_sel [0, 1, 2, 3, 4, 5] rfl hJj3
set_option maxRecDepth 100000 in
def b_X8_put (K : yK) (M : yM) (t : Nat) (x1 : Int32) (x2 : Int32) (x3 : Int32) : Option (Int32 × yM) := (if gO K t 7 = true then (Option.bind (b_X8_isEntry K M t x1) fun r2 => (if r2 = true then (Option.bind (b_X8_in K M x2 ((0 : Int32)) ((1 : Int32))) fun r4 => (if r4 = true then (Option.bind (if x2 = 0 then (some (1 : Int32)) else (some (-1 : Int32))) fun j7 => (Option.bind (if x2 = 0 then (some (60 : Int32)) else (some (11 : Int32))) fun j9 => (Option.bind (b_X8_in K M x3 j7 j9) fun r10 => (if r10 = true then (Option.bind (K.2.2 t 3) fun q12 => (if gA K q12 (((3 : Int32) * x1) + x2) = true then (Option.bind (some (M q12 ((((3 : Int32) * x1) + x2)).toNatClampNeg)) fun v14 => (Option.bind (some (yS M q12 ((((3 : Int32) * x1) + x2)).toNatClampNeg x3)) fun M15 => (some (v14, M15)))) else none)) else (some ((-7 : Int32), M)))))) else (some ((-7 : Int32), M)))) else (some ((-5 : Int32), M)))) else none)
set_option maxHeartbeats 4000000 in
set_option maxRecDepth 100000 in
theorem m_X8_put (K : yK) (M : yM) (t : Nat) (x1 : Int32) (x2 : Int32) (x3 : Int32) : yMet yX8_put cX8_put 5 (Option.some Jvm.ClassFile.FieldType.int) rm_X8_put K M [.ref t, .int x1, .int x2, .int x3] (b_X8_put K M t x1 x2 x3) (yGi K) := by
  refine yM_intro (by decide) (Nat.le_of_ble_eq_true rfl) (fun X r h C E => ?_)
  replace C : yCx X cX8_put RX8 "put" rm_X8_put 5 := C
  show Y X K M 0 0 0 [(0, .ref t), (1, .int x1), (2, .int x2), (3, .int x3)] []
  unfold b_X8_put at h
  refine y_aload_n C dX8_put_0 rfl ?_
  refine y_iload_n C dX8_put_1 rfl ?_
  obtain ⟨g1, h⟩ := gd h
  obtain ⟨r2, hr2, h⟩ := ob h
  refine y_cV C [.int x1] (m_X8_isEntry K M t x1) hr2 g1 cw_X8_201 rfl (by decide) ⟨rfl, rfl⟩ ⟨Nat.zero_le _, Nat.zero_le _⟩ (Nat.le_of_ble_eq_true rfl) rfl rfl rfl dX8_put_2 ?_
  refine y_ifneB C dX8_put_5 (tgt := 11) rfl (fun c3 => ?_) (fun c3 => ?_)
  · have h := itT c3 h
    refine y_iload_n C dX8_put_11 rfl ?_
    refine y_iconst C dX8_put_12 kc_0 ?_
    refine y_iconst C dX8_put_13 kc_1 ?_
    obtain ⟨r4, hr4, h⟩ := ob h
    refine y_cS C [.int x2, .int (0 : Int32), .int (1 : Int32)] (m_X8_in K M x2 ((0 : Int32)) ((1 : Int32))) hr4 cw_X8_90 rfl (by decide) ⟨rfl, rfl⟩ ⟨Nat.zero_le _, Nat.zero_le _⟩ (Nat.le_of_ble_eq_true rfl) rfl rfl rfl dX8_put_14 ?_
    refine y_ifeqB C dX8_put_17 (tgt := 47) rfl (fun c5 => ?_) (fun c5 => ?_)
    · have h := itFb c5 h
      refine y_bipush C dX8_put_47 kb_m7 ?_
      have e0 := Option.some.inj h
      subst e0
      exact y_iret C E (Nat.zero_le _) (Nat.zero_le _) dX8_put_49
    · have h := itT c5 h
      refine y_iload_n C dX8_put_20 rfl ?_
      refine y_iload_n C dX8_put_21 rfl ?_
      obtain ⟨j7, hj7, h⟩ := ob h
      have hJj7 : Y X K M 0 0 30 [(0, .ref t), (1, .int x1), (2, .int x2), (3, .int x3)] [.int j7, .int x3] := by
        refine y_iload_n C dX8_put_30 rfl ?_
        obtain ⟨j9, hj9, h⟩ := ob h
        have hJj9 : Y X K M 0 0 41 [(0, .ref t), (1, .int x1), (2, .int x2), (3, .int x3)] [.int j9, .int j7, .int x3] := by
          obtain ⟨r10, hr10, h⟩ := ob h
          refine y_cS C [.int x3, .int j7, .int j9] (m_X8_in K M x3 j7 j9) hr10 cw_X8_90 rfl (by decide) ⟨rfl, rfl⟩ ⟨Nat.zero_le _, Nat.zero_le _⟩ (Nat.le_of_ble_eq_true rfl) rfl rfl rfl dX8_put_41 ?_
          refine y_ifneB C dX8_put_44 (tgt := 50) rfl (fun c11 => ?_) (fun c11 => ?_)
          · have h := itT c11 h
            refine y_aload_n C dX8_put_50 rfl ?_
            obtain ⟨q12, hq12, h⟩ := ob h
            refine y_getr C fl_X8_16 g1 hq12 dX8_put_51 ?_
            refine y_iconst C dX8_put_54 kc_3 ?_
            refine y_iload_n C dX8_put_55 rfl ?_
            refine y_imul C dX8_put_56 ?_
            refine y_iload_n C dX8_put_57 rfl ?_
            refine y_iadd C dX8_put_58 ?_
            obtain ⟨g13, h⟩ := gd h
            refine y_iald C g13 dX8_put_59 ?_
            obtain ⟨v14, ev14, h⟩ := ob h
            have ev14 := Option.some.inj ev14
            refine y_istore C dX8_put_60 (by decide) (L' := [(4, .int v14), (0, .ref t), (1, .int x1), (2, .int x2), (3, .int x3)]) (by subst ev14; rfl) ?_
            refine y_aload_n C dX8_put_62 rfl ?_
            refine y_getr C fl_X8_16 g1 hq12 dX8_put_63 ?_
            refine y_iconst C dX8_put_66 kc_3 ?_
            refine y_iload_n C dX8_put_67 rfl ?_
            refine y_imul C dX8_put_68 ?_
            refine y_iload_n C dX8_put_69 rfl ?_
            refine y_iadd C dX8_put_70 ?_
            refine y_iload_n C dX8_put_71 rfl ?_
            obtain ⟨M15, eM15, h⟩ := ob h
            have eM15 := Option.some.inj eM15
            refine y_iast C g13 dX8_put_72 eM15 ?_
            refine y_iload C dX8_put_73 rfl ?_
            have e0 := Option.some.inj h
            subst e0
            exact y_iret C E (Nat.zero_le _) (Nat.zero_le _) dX8_put_75
          · have h := itFb c11 h
            refine y_bipush C dX8_put_47 kb_m7 ?_
            have e0 := Option.some.inj h
            subst e0
            exact y_iret C E (Nat.zero_le _) (Nat.zero_le _) dX8_put_49
        replace h := hj9
        refine y_if_ne C dX8_put_31 (tgt := 39) rfl (fun c8 => ?_) (fun c8 => ?_)
        · have h := itF c8 h
          refine y_bipush C dX8_put_39 kb_11 ?_
          have e0 := Option.some.inj h
          subst e0
          exact y_sel [0, 1, 2, 3] rfl hJj9
        · have h := itT c8 h
          refine y_bipush C dX8_put_34 kb_60 ?_
          refine y_goto C dX8_put_36 (tgt := 41) rfl ?_
          have e0 := Option.some.inj h
          subst e0
          exact y_sel [0, 1, 2, 3] rfl hJj9
      replace h := hj7
      refine y_if_ne C dX8_put_22 (tgt := 29) rfl (fun c6 => ?_) (fun c6 => ?_)
      · have h := itF c6 h
        refine y_iconst C dX8_put_29 kc_m1 ?_
        have e0 := Option.some.inj h
        subst e0
        exact y_sel [0, 1, 2, 3] rfl hJj7
      · have h := itT c6 h
        refine y_iconst C dX8_put_25 kc_1 ?_
        refine y_goto C dX8_put_26 (tgt := 30) rfl ?_
        have e0 := Option.some.inj h
        subst e0
        exact y_sel [0, 1, 2, 3] rfl hJj7
  · have h := itFb c3 h
    refine y_bipush C dX8_put_8 kb_m5 ?_
    have e0 := Option.some.inj h
    subst e0
    exact y_iret C E (Nat.zero_le _) (Nat.zero_le _) dX8_put_10
def b_X8_rings_4 (K : yK) (M : yM) (t : Nat) : Nat → Int32 → Int32 → Option Int32
  | 0, _, _ => none
  | n + 1, u4_1, u4_2 => (if gO K t 7 = true then (if (M t 0) ≤ u4_2 then (some u4_1) else (Option.bind (b_X8_comesToItself K M t u4_2) fun r3 => (Option.bind (if r3 = true then (some ((1 : Int32) <<< (u4_2 &&& 31))) else (some (0 : Int32))) fun j5 => (Option.bind (some (u4_1 ||| j5)) fun v6 => (Option.bind (some (u4_2 + (1 : Int32))) fun v7 => (b_X8_rings_4 K M t n v6 v7)))))) else none)
set_option maxHeartbeats 4000000 in
set_option maxRecDepth 100000 in
theorem l_X8_rings_4 {X : yX} {K : yK} {M : yM} {t : Nat} (C : yCx X cX8_rings RX8 "rings" rm_X8_rings 3) : ∀ (n : Nat) (u4_1 : Int32) (u4_2 : Int32) (x : Int32), b_X8_rings_4 K M t n u4_1 u4_2 = some x → ∀ (hX : Y X K M 0 0 36 [(1, .int x)] []), Y X K M 0 0 4 [(0, .ref t), (1, .int u4_1), (2, .int u4_2)] [] := by
  intro n
  induction n with
  | zero =>
    intro u4_1 u4_2 x h
    exact nomatch (show (none : Option _) = some x from h)
  | succ n ih =>
    intro u4_1 u4_2 x h hX
    rw [b_X8_rings_4] at h
    refine y_iload_n C dX8_rings_4 rfl ?_
    refine y_aload_n C dX8_rings_5 rfl ?_
    obtain ⟨g1, h⟩ := gd h
    refine y_geti C fl_X8_87 g1 dX8_rings_6 ?_
    refine y_icmp_ge C dX8_rings_9 (tgt := 36) rfl (fun c2 => ?_) (fun c2 => ?_)
    · have h := itT c2 h
      have e0 := Option.some.inj h
      subst e0
      exact y_sel [1] rfl hX
    · have h := itF c2 h
      refine y_iload_n C dX8_rings_12 rfl ?_
      refine y_aload_n C dX8_rings_13 rfl ?_
      refine y_iload_n C dX8_rings_14 rfl ?_
      obtain ⟨r3, hr3, h⟩ := ob h
      refine y_cV C [.int u4_2] (m_X8_comesToItself K M t u4_2) hr3 g1 cw_X8_296 rfl (by decide) ⟨rfl, rfl⟩ ⟨Nat.zero_le _, Nat.zero_le _⟩ (Nat.le_of_ble_eq_true rfl) rfl rfl rfl dX8_rings_15 ?_
      obtain ⟨j5, hj5, h⟩ := ob h
      have hJj5 : Y X K M 0 0 28 [(0, .ref t), (2, .int u4_2)] [.int j5, .int u4_1] := by
        refine y_ior C dX8_rings_28 ?_
        obtain ⟨v6, ev6, h⟩ := ob h
        have ev6 := Option.some.inj ev6
        refine y_istore_n C dX8_rings_29 (by decide) (L' := [(1, .int v6), (0, .ref t), (2, .int u4_2)]) (by subst ev6; rfl) ?_
        obtain ⟨v7, ev7, h⟩ := ob h
        have ev7 := Option.some.inj ev7
        refine y_iinc C dX8_rings_30 (by decide) rfl (v := v7) (by subst ev7; rfl) (L' := [(2, .int v7), (1, .int v6), (0, .ref t)]) rfl ?_
        refine y_goto C dX8_rings_33 (tgt := 4) rfl ?_
        exact y_sel [0, 1, 2] rfl (ih _ _ _  h hX)
      replace h := hj5
      refine y_ifeqB C dX8_rings_18 (tgt := 27) rfl (fun c4 => ?_) (fun c4 => ?_)
      · have h := itFb c4 h
        refine y_iconst C dX8_rings_27 kc_0 ?_
        have e0 := Option.some.inj h
        subst e0
        exact y_sel [0, 2] rfl hJj5
      · have h := itT c4 h
        refine y_iconst C dX8_rings_21 kc_1 ?_
        refine y_iload_n C dX8_rings_22 rfl ?_
        refine y_ishl C dX8_rings_23 ?_
        refine y_goto C dX8_rings_24 (tgt := 28) rfl ?_
        have e0 := Option.some.inj h
        subst e0
        exact y_sel [0, 2] rfl hJj5
set_option maxRecDepth 100000 in
def b_X8_rings (K : yK) (M : yM) (t : Nat) : Option Int32 := (Option.bind (b_X8_rings_4 K M t 1000 ((0 : Int32)) ((0 : Int32))) fun j1 => (some j1))
set_option maxHeartbeats 4000000 in
set_option maxRecDepth 100000 in
theorem m_X8_rings (K : yK) (M : yM) (t : Nat) : yMet yX8_rings cX8_rings 3 (Option.some Jvm.ClassFile.FieldType.int) rm_X8_rings K M [.ref t] (b_X8_rings K M t) (yFi K M) := by
  refine yM_intro (by decide) (Nat.le_of_ble_eq_true rfl) (fun X r h C E => ?_)
  replace C : yCx X cX8_rings RX8 "rings" rm_X8_rings 3 := C
  show Y X K M 0 0 0 [(0, .ref t)] []
  unfold b_X8_rings at h
  refine y_iconst C dX8_rings_0 kc_0 ?_
  refine y_istore_n C dX8_rings_1 (by decide) (L' := [(1, .int (0)), (0, .ref t)]) rfl ?_
  refine y_iconst C dX8_rings_2 kc_0 ?_
  refine y_istore_n C dX8_rings_3 (by decide) (L' := [(2, .int (0)), (1, .int (0)), (0, .ref t)]) rfl ?_
  obtain ⟨j1, hj1, h⟩ := ob h
  refine y_sel [0, 1, 2] rfl (l_X8_rings_4 C 1000 _ _ _ hj1 ?_)
  refine y_iload_n C dX8_rings_36 rfl ?_
  have e0 := Option.some.inj h
  subst e0
  exact y_iret C E (Nat.zero_le _) (Nat.zero_le _) dX8_rings_37
def b_X8_road_46 (K : yK) (t : Nat) (x_1 : Int32) (x_2 : Int32) (x_3 : Int32) : Nat → yM → Int32 → Int32 → Int32 → Option (Int32 × Int32 × yM)
  | 0, _, _, _, _ => none
  | n + 1, M, u46_4, u46_5, u46_6 => (if gO K t 7 = true then (if (M t 0) ≤ u46_6 then (some (u46_4, u46_5, M)) else (Option.bind (b_X8_goesTo K M t x_1 u46_6 x_2) fun r3 => (Option.bind (if r3.1 ≤ u46_5 then (some u46_4) else (if u46_6 = (-1 : Int32) then (some (-2 : Int32)) else (some u46_6))) fun j5 => (Option.bind (if r3.1 ≤ u46_5 then (some u46_5) else (some r3.1)) fun j8 => (Option.bind (some (u46_6 + (1 : Int32))) fun v9 => (b_X8_road_46 K t x_1 x_2 x_3 n r3.2 j5 j8 v9)))))) else none)
set_option maxHeartbeats 4000000 in
set_option maxRecDepth 100000 in
theorem l_X8_road_46 {X : yX} {K : yK} {t : Nat} {x_1 : Int32} {x_2 : Int32} {x_3 : Int32} (C : yCx X cX8_road RX8 "road" rm_X8_road 8) : ∀ (n : Nat) (M : yM) (u46_4 : Int32) (u46_5 : Int32) (u46_6 : Int32) (x : (Int32 × Int32 × yM)), b_X8_road_46 K t x_1 x_2 x_3 n M u46_4 u46_5 u46_6 = some x → ∀ (hX : Y X K x.2.2 0 0 114 [(3, .int x_3), (4, .int x.1), (5, .int x.2.1)] []), Y X K M 0 0 46 [(0, .ref t), (1, .int x_1), (2, .int x_2), (3, .int x_3), (4, .int u46_4), (5, .int u46_5), (6, .int u46_6)] [] := by
  intro n
  induction n with
  | zero =>
    intro M u46_4 u46_5 u46_6 x h
    exact nomatch (show (none : Option _) = some x from h)
  | succ n ih =>
    intro M u46_4 u46_5 u46_6 x h hX
    rw [b_X8_road_46] at h
    refine y_iload C dX8_road_46 rfl ?_
    refine y_aload_n C dX8_road_48 rfl ?_
    obtain ⟨g1, h⟩ := gd h
    refine y_geti C fl_X8_87 g1 dX8_road_49 ?_
    refine y_icmp_ge C dX8_road_52 (tgt := 114) rfl (fun c2 => ?_) (fun c2 => ?_)
    · have h := itT c2 h
      have e0 := Option.some.inj h
      subst e0
      exact y_sel [3, 4, 5] rfl hX
    · have h := itF c2 h
      refine y_aload_n C dX8_road_55 rfl ?_
      refine y_iload_n C dX8_road_56 rfl ?_
      refine y_iload C dX8_road_57 rfl ?_
      refine y_iload_n C dX8_road_59 rfl ?_
      obtain ⟨r3, hr3, h⟩ := ob h
      refine y_cV C [.int x_1, .int u46_6, .int x_2] (m_X8_goesTo K M t x_1 u46_6 x_2) hr3 g1 cw_X8_293 rfl (by decide) ⟨rfl, rfl⟩ ⟨Nat.zero_le _, Nat.zero_le _⟩ (Nat.le_of_ble_eq_true rfl) rfl rfl rfl dX8_road_60 ?_
      refine y_istore C dX8_road_63 (by decide) (L' := [(7, .int r3.1), (0, .ref t), (1, .int x_1), (2, .int x_2), (3, .int x_3), (4, .int u46_4), (5, .int u46_5), (6, .int u46_6)]) rfl ?_
      refine y_iload C dX8_road_65 rfl ?_
      refine y_iload C dX8_road_67 rfl ?_
      obtain ⟨j5, hj5, h⟩ := ob h
      have hJj5 : Y X K r3.2 0 0 90 [(7, .int r3.1), (0, .ref t), (1, .int x_1), (2, .int x_2), (3, .int x_3), (5, .int u46_5), (6, .int u46_6)] [.int j5] := by
        refine y_istore C dX8_road_90 (by decide) (L' := [(4, .int j5), (7, .int r3.1), (0, .ref t), (1, .int x_1), (2, .int x_2), (3, .int x_3), (5, .int u46_5), (6, .int u46_6)]) rfl ?_
        refine y_iload C dX8_road_92 rfl ?_
        refine y_iload C dX8_road_94 rfl ?_
        obtain ⟨j8, hj8, h⟩ := ob h
        have hJj8 : Y X K r3.2 0 0 106 [(4, .int j5), (0, .ref t), (1, .int x_1), (2, .int x_2), (3, .int x_3), (6, .int u46_6)] [.int j8] := by
          refine y_istore C dX8_road_106 (by decide) (L' := [(5, .int j8), (4, .int j5), (0, .ref t), (1, .int x_1), (2, .int x_2), (3, .int x_3), (6, .int u46_6)]) rfl ?_
          obtain ⟨v9, ev9, h⟩ := ob h
          have ev9 := Option.some.inj ev9
          refine y_iinc C dX8_road_108 (by decide) rfl (v := v9) (by subst ev9; rfl) (L' := [(6, .int v9), (5, .int j8), (4, .int j5), (0, .ref t), (1, .int x_1), (2, .int x_2), (3, .int x_3)]) rfl ?_
          refine y_goto C dX8_road_111 (tgt := 46) rfl ?_
          exact y_sel [0, 1, 2, 3, 4, 5, 6] rfl (ih _ _ _ _ _  h hX)
        replace h := hj8
        refine y_icmp_le C dX8_road_96 (tgt := 104) rfl (fun c7 => ?_) (fun c7 => ?_)
        · have h := itT c7 h
          refine y_iload C dX8_road_104 rfl ?_
          have e0 := Option.some.inj h
          subst e0
          exact y_sel [4, 0, 1, 2, 3, 6] rfl hJj8
        · have h := itF c7 h
          refine y_iload C dX8_road_99 rfl ?_
          refine y_goto C dX8_road_101 (tgt := 106) rfl ?_
          have e0 := Option.some.inj h
          subst e0
          exact y_sel [4, 0, 1, 2, 3, 6] rfl hJj8
      replace h := hj5
      refine y_icmp_le C dX8_road_69 (tgt := 88) rfl (fun c4 => ?_) (fun c4 => ?_)
      · have h := itT c4 h
        refine y_iload C dX8_road_88 rfl ?_
        have e0 := Option.some.inj h
        subst e0
        exact y_sel [7, 0, 1, 2, 3, 5, 6] rfl hJj5
      · have h := itF c4 h
        refine y_iload C dX8_road_72 rfl ?_
        refine y_iconst C dX8_road_74 kc_m1 ?_
        refine y_icmp_ne C dX8_road_75 (tgt := 83) rfl (fun c6 => ?_) (fun c6 => ?_)
        · have h := itF c6 h
          refine y_iload C dX8_road_83 rfl ?_
          refine y_goto C dX8_road_85 (tgt := 90) rfl ?_
          have e0 := Option.some.inj h
          subst e0
          exact y_sel [7, 0, 1, 2, 3, 5, 6] rfl hJj5
        · have h := itT c6 h
          refine y_bipush C dX8_road_78 kb_m2 ?_
          refine y_goto C dX8_road_80 (tgt := 90) rfl ?_
          have e0 := Option.some.inj h
          subst e0
          exact y_sel [7, 0, 1, 2, 3, 5, 6] rfl hJj5
set_option maxRecDepth 100000 in
def b_X8_road (K : yK) (M : yM) (t : Nat) (x1 : Int32) (x2 : Int32) (x3 : Int32) : Option (Int32 × yM) := (if gO K t 7 = true then (Option.bind (b_X8_isEntry K M t x1) fun r2 => (if r2 = true then (Option.bind (b_X8_in K M x2 ((0 : Int32)) ((60 : Int32))) fun r4 => (if r4 = true then (Option.bind (b_X8_in K M x3 ((0 : Int32)) ((1 : Int32))) fun r6 => (if r6 = true then (Option.bind (b_X8_goes K M t x2) fun r8 => (Option.bind (b_X8_road_46 K t x1 x2 x3 1000 r8.2 ((-1 : Int32)) r8.1 ((-1 : Int32))) fun j9 => (if x3 = 0 then (some (j9.1, j9.2.2)) else (some (j9.2.1, j9.2.2))))) else (some ((-7 : Int32), M)))) else (some ((-7 : Int32), M)))) else (some ((-5 : Int32), M)))) else none)
set_option maxHeartbeats 4000000 in
set_option maxRecDepth 100000 in
theorem m_X8_road (K : yK) (M : yM) (t : Nat) (x1 : Int32) (x2 : Int32) (x3 : Int32) : yMet yX8_road cX8_road 8 (Option.some Jvm.ClassFile.FieldType.int) rm_X8_road K M [.ref t, .int x1, .int x2, .int x3] (b_X8_road K M t x1 x2 x3) (yGi K) := by
  refine yM_intro (by decide) (Nat.le_of_ble_eq_true rfl) (fun X r h C E => ?_)
  replace C : yCx X cX8_road RX8 "road" rm_X8_road 8 := C
  show Y X K M 0 0 0 [(0, .ref t), (1, .int x1), (2, .int x2), (3, .int x3)] []
  unfold b_X8_road at h
  refine y_aload_n C dX8_road_0 rfl ?_
  refine y_iload_n C dX8_road_1 rfl ?_
  obtain ⟨g1, h⟩ := gd h
  obtain ⟨r2, hr2, h⟩ := ob h
  refine y_cV C [.int x1] (m_X8_isEntry K M t x1) hr2 g1 cw_X8_201 rfl (by decide) ⟨rfl, rfl⟩ ⟨Nat.zero_le _, Nat.zero_le _⟩ (Nat.le_of_ble_eq_true rfl) rfl rfl rfl dX8_road_2 ?_
  refine y_ifneB C dX8_road_5 (tgt := 11) rfl (fun c3 => ?_) (fun c3 => ?_)
  · have h := itT c3 h
    refine y_iload_n C dX8_road_11 rfl ?_
    refine y_iconst C dX8_road_12 kc_0 ?_
    refine y_bipush C dX8_road_13 kb_60 ?_
    obtain ⟨r4, hr4, h⟩ := ob h
    refine y_cS C [.int x2, .int (0 : Int32), .int (60 : Int32)] (m_X8_in K M x2 ((0 : Int32)) ((60 : Int32))) hr4 cw_X8_90 rfl (by decide) ⟨rfl, rfl⟩ ⟨Nat.zero_le _, Nat.zero_le _⟩ (Nat.le_of_ble_eq_true rfl) rfl rfl rfl dX8_road_15 ?_
    refine y_ifeqB C dX8_road_18 (tgt := 30) rfl (fun c5 => ?_) (fun c5 => ?_)
    · have h := itFb c5 h
      refine y_bipush C dX8_road_30 kb_m7 ?_
      have e0 := Option.some.inj h
      subst e0
      exact y_iret C E (Nat.zero_le _) (Nat.zero_le _) dX8_road_32
    · have h := itT c5 h
      refine y_iload_n C dX8_road_21 rfl ?_
      refine y_iconst C dX8_road_22 kc_0 ?_
      refine y_iconst C dX8_road_23 kc_1 ?_
      obtain ⟨r6, hr6, h⟩ := ob h
      refine y_cS C [.int x3, .int (0 : Int32), .int (1 : Int32)] (m_X8_in K M x3 ((0 : Int32)) ((1 : Int32))) hr6 cw_X8_90 rfl (by decide) ⟨rfl, rfl⟩ ⟨Nat.zero_le _, Nat.zero_le _⟩ (Nat.le_of_ble_eq_true rfl) rfl rfl rfl dX8_road_24 ?_
      refine y_ifneB C dX8_road_27 (tgt := 33) rfl (fun c7 => ?_) (fun c7 => ?_)
      · have h := itT c7 h
        refine y_iconst C dX8_road_33 kc_m1 ?_
        refine y_istore C dX8_road_34 (by decide) (L' := [(4, .int (-1)), (0, .ref t), (1, .int x1), (2, .int x2), (3, .int x3)]) rfl ?_
        refine y_aload_n C dX8_road_36 rfl ?_
        refine y_iload_n C dX8_road_37 rfl ?_
        obtain ⟨r8, hr8, h⟩ := ob h
        refine y_cV C [.int x2] (m_X8_goes K M t x2) hr8 g1 cw_X8_284 rfl (by decide) ⟨rfl, rfl⟩ ⟨Nat.zero_le _, Nat.zero_le _⟩ (Nat.le_of_ble_eq_true rfl) rfl rfl rfl dX8_road_38 ?_
        refine y_istore C dX8_road_41 (by decide) (L' := [(5, .int r8.1), (4, .int (-1)), (0, .ref t), (1, .int x1), (2, .int x2), (3, .int x3)]) rfl ?_
        refine y_iconst C dX8_road_43 kc_m1 ?_
        refine y_istore C dX8_road_44 (by decide) (L' := [(6, .int (-1)), (5, .int r8.1), (4, .int (-1)), (0, .ref t), (1, .int x1), (2, .int x2), (3, .int x3)]) rfl ?_
        obtain ⟨j9, hj9, h⟩ := ob h
        refine y_sel [0, 1, 2, 3, 4, 5, 6] rfl (l_X8_road_46 C 1000 _ _ _ _ _ hj9 ?_)
        refine y_iload_n C dX8_road_114 rfl ?_
        refine y_if_ne C dX8_road_115 (tgt := 123) rfl (fun c10 => ?_) (fun c10 => ?_)
        · have h := itF c10 h
          refine y_iload C dX8_road_123 rfl ?_
          have e0 := Option.some.inj h
          subst e0
          exact y_iret C E (Nat.zero_le _) (Nat.zero_le _) dX8_road_125
        · have h := itT c10 h
          refine y_iload C dX8_road_118 rfl ?_
          refine y_goto C dX8_road_120 (tgt := 125) rfl ?_
          have e0 := Option.some.inj h
          subst e0
          exact y_iret C E (Nat.zero_le _) (Nat.zero_le _) dX8_road_125
      · have h := itFb c7 h
        refine y_bipush C dX8_road_30 kb_m7 ?_
        have e0 := Option.some.inj h
        subst e0
        exact y_iret C E (Nat.zero_le _) (Nat.zero_le _) dX8_road_32
  · have h := itFb c3 h
    refine y_bipush C dX8_road_8 kb_m5 ?_
    have e0 := Option.some.inj h
    subst e0
    exact y_iret C E (Nat.zero_le _) (Nat.zero_le _) dX8_road_10
set_option maxRecDepth 100000 in
def b_X8_run (K : yK) (M : yM) (t : Nat) (x1 : Int32) (x2 : Int32) : Option (Int32 × yM) := (Option.bind (b_X8_in K M x1 ((0 : Int32)) ((60 : Int32))) fun r1 => (if r1 = true then (Option.bind (b_X8_in K M x2 ((0 : Int32)) ((4 : Int32))) fun r3 => (if r3 = true then (if gO K t 7 = true then (Option.bind (b_X8_goes K M t x1) fun r6 => (Option.bind (b_X8_toldRun K r6.2 t x2) fun r7 => (some (r7, r6.2)))) else none) else (some ((-2 : Int32), M)))) else (some ((-2 : Int32), M))))
set_option maxHeartbeats 4000000 in
set_option maxRecDepth 100000 in
theorem m_X8_run (K : yK) (M : yM) (t : Nat) (x1 : Int32) (x2 : Int32) : yMet yX8_run cX8_run 3 (Option.some Jvm.ClassFile.FieldType.int) rm_X8_run K M [.ref t, .int x1, .int x2] (b_X8_run K M t x1 x2) (yGi K) := by
  refine yM_intro (by decide) (Nat.le_of_ble_eq_true rfl) (fun X r h C E => ?_)
  replace C : yCx X cX8_run RX8 "run" rm_X8_run 3 := C
  show Y X K M 0 0 0 [(0, .ref t), (1, .int x1), (2, .int x2)] []
  unfold b_X8_run at h
  refine y_iload_n C dX8_run_0 rfl ?_
  refine y_iconst C dX8_run_1 kc_0 ?_
  refine y_bipush C dX8_run_2 kb_60 ?_
  obtain ⟨r1, hr1, h⟩ := ob h
  refine y_cS C [.int x1, .int (0 : Int32), .int (60 : Int32)] (m_X8_in K M x1 ((0 : Int32)) ((60 : Int32))) hr1 cw_X8_90 rfl (by decide) ⟨rfl, rfl⟩ ⟨Nat.zero_le _, Nat.zero_le _⟩ (Nat.le_of_ble_eq_true rfl) rfl rfl rfl dX8_run_4 ?_
  refine y_ifeqB C dX8_run_7 (tgt := 19) rfl (fun c2 => ?_) (fun c2 => ?_)
  · have h := itFb c2 h
    refine y_bipush C dX8_run_19 kb_m2 ?_
    have e0 := Option.some.inj h
    subst e0
    exact y_iret C E (Nat.zero_le _) (Nat.zero_le _) dX8_run_21
  · have h := itT c2 h
    refine y_iload_n C dX8_run_10 rfl ?_
    refine y_iconst C dX8_run_11 kc_0 ?_
    refine y_iconst C dX8_run_12 kc_4 ?_
    obtain ⟨r3, hr3, h⟩ := ob h
    refine y_cS C [.int x2, .int (0 : Int32), .int (4 : Int32)] (m_X8_in K M x2 ((0 : Int32)) ((4 : Int32))) hr3 cw_X8_90 rfl (by decide) ⟨rfl, rfl⟩ ⟨Nat.zero_le _, Nat.zero_le _⟩ (Nat.le_of_ble_eq_true rfl) rfl rfl rfl dX8_run_13 ?_
    refine y_ifneB C dX8_run_16 (tgt := 22) rfl (fun c4 => ?_) (fun c4 => ?_)
    · have h := itT c4 h
      refine y_aload_n C dX8_run_22 rfl ?_
      refine y_iload_n C dX8_run_23 rfl ?_
      obtain ⟨g5, h⟩ := gd h
      obtain ⟨r6, hr6, h⟩ := ob h
      refine y_cV C [.int x1] (m_X8_goes K M t x1) hr6 g5 cw_X8_284 rfl (by decide) ⟨rfl, rfl⟩ ⟨Nat.zero_le _, Nat.zero_le _⟩ (Nat.le_of_ble_eq_true rfl) rfl rfl rfl dX8_run_24 ?_
      refine y_pop C dX8_run_27 rfl ?_
      refine y_aload_n C dX8_run_28 rfl ?_
      refine y_iload_n C dX8_run_29 rfl ?_
      obtain ⟨r7, hr7, h⟩ := ob h
      refine y_cV C [.int x2] (m_X8_toldRun K r6.2 t x2) hr7 g5 cw_X8_287 rfl (by decide) ⟨rfl, rfl⟩ ⟨Nat.zero_le _, Nat.zero_le _⟩ (Nat.le_of_ble_eq_true rfl) rfl rfl rfl dX8_run_30 ?_
      have e0 := Option.some.inj h
      subst e0
      exact y_iret C E (Nat.zero_le _) (Nat.zero_le _) dX8_run_33
    · have h := itFb c4 h
      refine y_bipush C dX8_run_19 kb_m2 ?_
      have e0 := Option.some.inj h
      subst e0
      exact y_iret C E (Nat.zero_le _) (Nat.zero_le _) dX8_run_21
set_option maxRecDepth 100000 in
def b_X8_set (K : yK) (M : yM) (t : Nat) (x1 : Int32) (x2 : Int32) : Option (Int32 × yM) := (Option.bind (b_X8_in K M x1 ((0 : Int32)) ((3 : Int32))) fun r1 => (if r1 = true then (if gO K t 7 = true then (Option.bind (b_X8_isSo K M t x1 x2) fun r4 => (if r4 = true then (Option.bind (b_X8_count K M t ((x1 + (2 : Int32)))) fun r6 => (Option.bind (if x1 = 0 then (some x2) else (some (M t 6))) fun j8 => (Option.bind (some (yS M t 6 j8)) fun M9 => (Option.bind (if x1 = (1 : Int32) then (some x2) else (some (M9 t 7))) fun j11 => (Option.bind (some (yS M9 t 7 j11)) fun M12 => (Option.bind (if x1 = (2 : Int32) then (some x2) else (some (M12 t 8))) fun j14 => (Option.bind (some (yS M12 t 8 j14)) fun M15 => (Option.bind (if x1 = (3 : Int32) then (some x2) else (some (M15 t 9))) fun j17 => (Option.bind (some (yS M15 t 9 j17)) fun M18 => (some (r6, M18))))))))))) else (some ((-7 : Int32), M)))) else none) else (some ((-5 : Int32), M))))
set_option maxHeartbeats 4000000 in
set_option maxRecDepth 100000 in
theorem m_X8_set (K : yK) (M : yM) (t : Nat) (x1 : Int32) (x2 : Int32) : yMet yX8_set cX8_set 4 (Option.some Jvm.ClassFile.FieldType.int) rm_X8_set K M [.ref t, .int x1, .int x2] (b_X8_set K M t x1 x2) (yGi K) := by
  refine yM_intro (by decide) (Nat.le_of_ble_eq_true rfl) (fun X r h C E => ?_)
  replace C : yCx X cX8_set RX8 "set" rm_X8_set 4 := C
  show Y X K M 0 0 0 [(0, .ref t), (1, .int x1), (2, .int x2)] []
  unfold b_X8_set at h
  refine y_iload_n C dX8_set_0 rfl ?_
  refine y_iconst C dX8_set_1 kc_0 ?_
  refine y_iconst C dX8_set_2 kc_3 ?_
  obtain ⟨r1, hr1, h⟩ := ob h
  refine y_cS C [.int x1, .int (0 : Int32), .int (3 : Int32)] (m_X8_in K M x1 ((0 : Int32)) ((3 : Int32))) hr1 cw_X8_90 rfl (by decide) ⟨rfl, rfl⟩ ⟨Nat.zero_le _, Nat.zero_le _⟩ (Nat.le_of_ble_eq_true rfl) rfl rfl rfl dX8_set_3 ?_
  refine y_ifneB C dX8_set_6 (tgt := 12) rfl (fun c2 => ?_) (fun c2 => ?_)
  · have h := itT c2 h
    refine y_aload_n C dX8_set_12 rfl ?_
    refine y_iload_n C dX8_set_13 rfl ?_
    refine y_iload_n C dX8_set_14 rfl ?_
    obtain ⟨g3, h⟩ := gd h
    obtain ⟨r4, hr4, h⟩ := ob h
    refine y_cV C [.int x1, .int x2] (m_X8_isSo K M t x1 x2) hr4 g3 cw_X8_129 rfl (by decide) ⟨rfl, rfl⟩ ⟨Nat.zero_le _, Nat.zero_le _⟩ (Nat.le_of_ble_eq_true rfl) rfl rfl rfl dX8_set_15 ?_
    refine y_ifneB C dX8_set_18 (tgt := 24) rfl (fun c5 => ?_) (fun c5 => ?_)
    · have h := itT c5 h
      refine y_aload_n C dX8_set_24 rfl ?_
      refine y_iload_n C dX8_set_25 rfl ?_
      refine y_iconst C dX8_set_26 kc_2 ?_
      refine y_iadd C dX8_set_27 ?_
      obtain ⟨r6, hr6, h⟩ := ob h
      refine y_cV C [.int (x1 + (2 : Int32))] (m_X8_count K M t ((x1 + (2 : Int32)))) hr6 g3 cw_X8_133 rfl (by decide) ⟨rfl, rfl⟩ ⟨Nat.zero_le _, Nat.zero_le _⟩ (Nat.le_of_ble_eq_true rfl) rfl rfl rfl dX8_set_28 ?_
      refine y_istore_n C dX8_set_31 (by decide) (L' := [(3, .int r6), (0, .ref t), (1, .int x1), (2, .int x2)]) rfl ?_
      refine y_aload_n C dX8_set_32 rfl ?_
      refine y_iload_n C dX8_set_33 rfl ?_
      obtain ⟨j8, hj8, h⟩ := ob h
      have hJj8 : Y X K M 0 0 45 [(3, .int r6), (0, .ref t), (1, .int x1), (2, .int x2)] [.int j8, .ref t] := by
        obtain ⟨M9, eM9, h⟩ := ob h
        have eM9 := Option.some.inj eM9
        refine y_puti C fl_X8_104 rfl g3 rfl rfl dX8_set_45 eM9 ?_
        refine y_aload_n C dX8_set_48 rfl ?_
        refine y_iload_n C dX8_set_49 rfl ?_
        refine y_iconst C dX8_set_50 kc_1 ?_
        obtain ⟨j11, hj11, h⟩ := ob h
        have hJj11 : Y X K M9 0 0 62 [(3, .int r6), (0, .ref t), (1, .int x1), (2, .int x2)] [.int j11, .ref t] := by
          obtain ⟨M12, eM12, h⟩ := ob h
          have eM12 := Option.some.inj eM12
          refine y_puti C fl_X8_107 rfl g3 rfl rfl dX8_set_62 eM12 ?_
          refine y_aload_n C dX8_set_65 rfl ?_
          refine y_iload_n C dX8_set_66 rfl ?_
          refine y_iconst C dX8_set_67 kc_2 ?_
          obtain ⟨j14, hj14, h⟩ := ob h
          have hJj14 : Y X K M12 0 0 79 [(3, .int r6), (0, .ref t), (1, .int x1), (2, .int x2)] [.int j14, .ref t] := by
            obtain ⟨M15, eM15, h⟩ := ob h
            have eM15 := Option.some.inj eM15
            refine y_puti C fl_X8_22 rfl g3 rfl rfl dX8_set_79 eM15 ?_
            refine y_aload_n C dX8_set_82 rfl ?_
            refine y_iload_n C dX8_set_83 rfl ?_
            refine y_iconst C dX8_set_84 kc_3 ?_
            obtain ⟨j17, hj17, h⟩ := ob h
            have hJj17 : Y X K M15 0 0 96 [(3, .int r6)] [.int j17, .ref t] := by
              obtain ⟨M18, eM18, h⟩ := ob h
              have eM18 := Option.some.inj eM18
              refine y_puti C fl_X8_110 rfl g3 rfl rfl dX8_set_96 eM18 ?_
              refine y_iload_n C dX8_set_99 rfl ?_
              have e0 := Option.some.inj h
              subst e0
              exact y_iret C E (Nat.zero_le _) (Nat.zero_le _) dX8_set_100
            replace h := hj17
            refine y_icmp_ne C dX8_set_85 (tgt := 92) rfl (fun c16 => ?_) (fun c16 => ?_)
            · have h := itF c16 h
              refine y_aload_n C dX8_set_92 rfl ?_
              refine y_geti C fl_X8_110 g3 dX8_set_93 ?_
              have e0 := Option.some.inj h
              subst e0
              exact y_sel [3] rfl hJj17
            · have h := itT c16 h
              refine y_iload_n C dX8_set_88 rfl ?_
              refine y_goto C dX8_set_89 (tgt := 96) rfl ?_
              have e0 := Option.some.inj h
              subst e0
              exact y_sel [3] rfl hJj17
          replace h := hj14
          refine y_icmp_ne C dX8_set_68 (tgt := 75) rfl (fun c13 => ?_) (fun c13 => ?_)
          · have h := itF c13 h
            refine y_aload_n C dX8_set_75 rfl ?_
            refine y_geti C fl_X8_22 g3 dX8_set_76 ?_
            have e0 := Option.some.inj h
            subst e0
            exact y_sel [3, 0, 1, 2] rfl hJj14
          · have h := itT c13 h
            refine y_iload_n C dX8_set_71 rfl ?_
            refine y_goto C dX8_set_72 (tgt := 79) rfl ?_
            have e0 := Option.some.inj h
            subst e0
            exact y_sel [3, 0, 1, 2] rfl hJj14
        replace h := hj11
        refine y_icmp_ne C dX8_set_51 (tgt := 58) rfl (fun c10 => ?_) (fun c10 => ?_)
        · have h := itF c10 h
          refine y_aload_n C dX8_set_58 rfl ?_
          refine y_geti C fl_X8_107 g3 dX8_set_59 ?_
          have e0 := Option.some.inj h
          subst e0
          exact y_sel [3, 0, 1, 2] rfl hJj11
        · have h := itT c10 h
          refine y_iload_n C dX8_set_54 rfl ?_
          refine y_goto C dX8_set_55 (tgt := 62) rfl ?_
          have e0 := Option.some.inj h
          subst e0
          exact y_sel [3, 0, 1, 2] rfl hJj11
      replace h := hj8
      refine y_if_ne C dX8_set_34 (tgt := 41) rfl (fun c7 => ?_) (fun c7 => ?_)
      · have h := itF c7 h
        refine y_aload_n C dX8_set_41 rfl ?_
        refine y_geti C fl_X8_104 g3 dX8_set_42 ?_
        have e0 := Option.some.inj h
        subst e0
        exact y_sel [3, 0, 1, 2] rfl hJj8
      · have h := itT c7 h
        refine y_iload_n C dX8_set_37 rfl ?_
        refine y_goto C dX8_set_38 (tgt := 45) rfl ?_
        have e0 := Option.some.inj h
        subst e0
        exact y_sel [3, 0, 1, 2] rfl hJj8
    · have h := itFb c5 h
      refine y_bipush C dX8_set_21 kb_m7 ?_
      have e0 := Option.some.inj h
      subst e0
      exact y_iret C E (Nat.zero_le _) (Nat.zero_le _) dX8_set_23
  · have h := itFb c2 h
    refine y_bipush C dX8_set_9 kb_m5 ?_
    have e0 := Option.some.inj h
    subst e0
    exact y_iret C E (Nat.zero_le _) (Nat.zero_le _) dX8_set_11
def b_X8_sheet_70 (K : yK) (t : Nat) (x_1 : Int32) : Nat → yM → Int32 → Option yM
  | 0, _, _ => none
  | n + 1, M, u70_4 => (if (40 : Int32) ≤ u70_4 then (some M) else (if gO K t 7 = true then (Option.bind (K.2.2 t 26) fun q3 => (if gA K q3 (((40 : Int32) * x_1) + u70_4) = true then (Option.bind (some (yS M q3 ((((40 : Int32) * x_1) + u70_4)).toNatClampNeg (0 : Int32))) fun M5 => (Option.bind (some (u70_4 + (1 : Int32))) fun v6 => (b_X8_sheet_70 K t x_1 n M5 v6))) else none)) else none))
set_option maxHeartbeats 4000000 in
set_option maxRecDepth 100000 in
theorem l_X8_sheet_70 {X : yX} {K : yK} {t : Nat} {x_1 : Int32} (C : yCx X cX8_sheet RX8 "sheet" rm_X8_sheet 5) : ∀ (n : Nat) (M : yM) (u70_4 : Int32) (x : yM), b_X8_sheet_70 K t x_1 n M u70_4 = some x → ∀ (hX : Y X K x 0 0 96 [] []), Y X K M 0 0 70 [(0, .ref t), (1, .int x_1), (4, .int u70_4)] [] := by
  intro n
  induction n with
  | zero =>
    intro M u70_4 x h
    exact nomatch (show (none : Option _) = some x from h)
  | succ n ih =>
    intro M u70_4 x h hX
    rw [b_X8_sheet_70] at h
    refine y_iload C dX8_sheet_70 rfl ?_
    refine y_bipush C dX8_sheet_72 kb_40 ?_
    refine y_icmp_ge C dX8_sheet_74 (tgt := 96) rfl (fun c1 => ?_) (fun c1 => ?_)
    · have h := itT c1 h
      have e0 := Option.some.inj h
      subst e0
      exact y_sel [] rfl hX
    · have h := itF c1 h
      refine y_aload_n C dX8_sheet_77 rfl ?_
      obtain ⟨g2, h⟩ := gd h
      obtain ⟨q3, hq3, h⟩ := ob h
      refine y_getr C fl_X8_50 g2 hq3 dX8_sheet_78 ?_
      refine y_bipush C dX8_sheet_81 kb_40 ?_
      refine y_iload_n C dX8_sheet_83 rfl ?_
      refine y_imul C dX8_sheet_84 ?_
      refine y_iload C dX8_sheet_85 rfl ?_
      refine y_iadd C dX8_sheet_87 ?_
      refine y_iconst C dX8_sheet_88 kc_0 ?_
      obtain ⟨g4, h⟩ := gd h
      obtain ⟨M5, eM5, h⟩ := ob h
      have eM5 := Option.some.inj eM5
      refine y_iast C g4 dX8_sheet_89 eM5 ?_
      obtain ⟨v6, ev6, h⟩ := ob h
      have ev6 := Option.some.inj ev6
      refine y_iinc C dX8_sheet_90 (by decide) rfl (v := v6) (by subst ev6; rfl) (L' := [(4, .int v6), (0, .ref t), (1, .int x_1)]) rfl ?_
      refine y_goto C dX8_sheet_93 (tgt := 70) rfl ?_
      exact y_sel [0, 1, 4] rfl (ih _ _ _  h hX)
set_option maxRecDepth 100000 in
def b_X8_sheet (K : yK) (M : yM) (t : Nat) (x1 : Int32) (x2 : Int32) (x3 : Int32) : Option (Int32 × yM) := (Option.bind (b_X8_in K M x1 ((0 : Int32)) ((3 : Int32))) fun r1 => (if r1 = true then (Option.bind (b_X8_in K M x2 ((-1 : Int32)) ((2 : Int32))) fun r3 => (if r3 = true then (if x2 = (-1 : Int32) then (if x2 = (-1 : Int32) then (if gO K t 7 = true then (Option.bind (K.2.2 t 24) fun q8 => (if gA K q8 x1 = true then (Option.bind (some (yS M q8 (x1).toNatClampNeg x2)) fun M10 => (Option.bind (K.2.2 t 25) fun q11 => (Option.bind (if x2 = (-1 : Int32) then (some (0 : Int32)) else (some x3)) fun j13 => (if gA K q11 x1 = true then (Option.bind (some (yS M10 q11 (x1).toNatClampNeg j13)) fun M15 => (Option.bind (b_X8_sheet_70 K t x1 1000 M15 ((0 : Int32))) fun j16 => (some ((1 : Int32), j16)))) else none)))) else none)) else none) else (if 0 ≤ x3 then (if gO K t 7 = true then (Option.bind (K.2.2 t 24) fun q19 => (if gA K q19 x1 = true then (Option.bind (some (yS M q19 (x1).toNatClampNeg x2)) fun M21 => (Option.bind (K.2.2 t 25) fun q22 => (Option.bind (if x2 = (-1 : Int32) then (some (0 : Int32)) else (some x3)) fun j24 => (if gA K q22 x1 = true then (Option.bind (some (yS M21 q22 (x1).toNatClampNeg j24)) fun M26 => (Option.bind (b_X8_sheet_70 K t x1 1000 M26 ((0 : Int32))) fun j27 => (some ((1 : Int32), j27)))) else none)))) else none)) else none) else (some ((-14 : Int32), M)))) else (if x3 ≤ (40 : Int32) then (if x2 = (-1 : Int32) then (if gO K t 7 = true then (Option.bind (K.2.2 t 24) fun q31 => (if gA K q31 x1 = true then (Option.bind (some (yS M q31 (x1).toNatClampNeg x2)) fun M33 => (Option.bind (K.2.2 t 25) fun q34 => (Option.bind (if x2 = (-1 : Int32) then (some (0 : Int32)) else (some x3)) fun j36 => (if gA K q34 x1 = true then (Option.bind (some (yS M33 q34 (x1).toNatClampNeg j36)) fun M38 => (Option.bind (b_X8_sheet_70 K t x1 1000 M38 ((0 : Int32))) fun j39 => (some ((1 : Int32), j39)))) else none)))) else none)) else none) else (if 0 ≤ x3 then (if gO K t 7 = true then (Option.bind (K.2.2 t 24) fun q42 => (if gA K q42 x1 = true then (Option.bind (some (yS M q42 (x1).toNatClampNeg x2)) fun M44 => (Option.bind (K.2.2 t 25) fun q45 => (Option.bind (if x2 = (-1 : Int32) then (some (0 : Int32)) else (some x3)) fun j47 => (if gA K q45 x1 = true then (Option.bind (some (yS M44 q45 (x1).toNatClampNeg j47)) fun M49 => (Option.bind (b_X8_sheet_70 K t x1 1000 M49 ((0 : Int32))) fun j50 => (some ((1 : Int32), j50)))) else none)))) else none)) else none) else (some ((-14 : Int32), M)))) else (some ((-2 : Int32), M)))) else (some ((-2 : Int32), M)))) else (some ((-2 : Int32), M))))
set_option maxHeartbeats 4000000 in
set_option maxRecDepth 100000 in
theorem m_X8_sheet (K : yK) (M : yM) (t : Nat) (x1 : Int32) (x2 : Int32) (x3 : Int32) : yMet yX8_sheet cX8_sheet 5 (Option.some Jvm.ClassFile.FieldType.int) rm_X8_sheet K M [.ref t, .int x1, .int x2, .int x3] (b_X8_sheet K M t x1 x2 x3) (yGi K) := by
  refine yM_intro (by decide) (Nat.le_of_ble_eq_true rfl) (fun X r h C E => ?_)
  replace C : yCx X cX8_sheet RX8 "sheet" rm_X8_sheet 5 := C
  show Y X K M 0 0 0 [(0, .ref t), (1, .int x1), (2, .int x2), (3, .int x3)] []
  unfold b_X8_sheet at h
  refine y_iload_n C dX8_sheet_0 rfl ?_
  refine y_iconst C dX8_sheet_1 kc_0 ?_
  refine y_iconst C dX8_sheet_2 kc_3 ?_
  obtain ⟨r1, hr1, h⟩ := ob h
  refine y_cS C [.int x1, .int (0 : Int32), .int (3 : Int32)] (m_X8_in K M x1 ((0 : Int32)) ((3 : Int32))) hr1 cw_X8_90 rfl (by decide) ⟨rfl, rfl⟩ ⟨Nat.zero_le _, Nat.zero_le _⟩ (Nat.le_of_ble_eq_true rfl) rfl rfl rfl dX8_sheet_3 ?_
  refine y_ifeqB C dX8_sheet_6 (tgt := 29) rfl (fun c2 => ?_) (fun c2 => ?_)
  · have h := itFb c2 h
    refine y_bipush C dX8_sheet_29 kb_m2 ?_
    have e0 := Option.some.inj h
    subst e0
    exact y_iret C E (Nat.zero_le _) (Nat.zero_le _) dX8_sheet_31
  · have h := itT c2 h
    refine y_iload_n C dX8_sheet_9 rfl ?_
    refine y_iconst C dX8_sheet_10 kc_m1 ?_
    refine y_iconst C dX8_sheet_11 kc_2 ?_
    obtain ⟨r3, hr3, h⟩ := ob h
    refine y_cS C [.int x2, .int (-1 : Int32), .int (2 : Int32)] (m_X8_in K M x2 ((-1 : Int32)) ((2 : Int32))) hr3 cw_X8_90 rfl (by decide) ⟨rfl, rfl⟩ ⟨Nat.zero_le _, Nat.zero_le _⟩ (Nat.le_of_ble_eq_true rfl) rfl rfl rfl dX8_sheet_12 ?_
    refine y_ifeqB C dX8_sheet_15 (tgt := 29) rfl (fun c4 => ?_) (fun c4 => ?_)
    · have h := itFb c4 h
      refine y_bipush C dX8_sheet_29 kb_m2 ?_
      have e0 := Option.some.inj h
      subst e0
      exact y_iret C E (Nat.zero_le _) (Nat.zero_le _) dX8_sheet_31
    · have h := itT c4 h
      refine y_iload_n C dX8_sheet_18 rfl ?_
      refine y_iconst C dX8_sheet_19 kc_m1 ?_
      refine y_icmp_eq C dX8_sheet_20 (tgt := 32) rfl (fun c5 => ?_) (fun c5 => ?_)
      · have h := itT c5 h
        refine y_iload_n C dX8_sheet_32 rfl ?_
        refine y_iconst C dX8_sheet_33 kc_m1 ?_
        refine y_icmp_eq C dX8_sheet_34 (tgt := 44) rfl (fun c6 => ?_) (fun c6 => ?_)
        · have h := itT c6 h
          refine y_aload_n C dX8_sheet_44 rfl ?_
          obtain ⟨g7, h⟩ := gd h
          obtain ⟨q8, hq8, h⟩ := ob h
          refine y_getr C fl_X8_44 g7 hq8 dX8_sheet_45 ?_
          refine y_iload_n C dX8_sheet_48 rfl ?_
          refine y_iload_n C dX8_sheet_49 rfl ?_
          obtain ⟨g9, h⟩ := gd h
          obtain ⟨M10, eM10, h⟩ := ob h
          have eM10 := Option.some.inj eM10
          refine y_iast C g9 dX8_sheet_50 eM10 ?_
          refine y_aload_n C dX8_sheet_51 rfl ?_
          obtain ⟨q11, hq11, h⟩ := ob h
          refine y_getr C fl_X8_47 g7 hq11 dX8_sheet_52 ?_
          refine y_iload_n C dX8_sheet_55 rfl ?_
          refine y_iload_n C dX8_sheet_56 rfl ?_
          refine y_iconst C dX8_sheet_57 kc_m1 ?_
          obtain ⟨j13, hj13, h⟩ := ob h
          have hJj13 : Y X K M10 0 0 66 [(0, .ref t), (1, .int x1)] [.int j13, .int x1, .ref q11] := by
            obtain ⟨g14, h⟩ := gd h
            obtain ⟨M15, eM15, h⟩ := ob h
            have eM15 := Option.some.inj eM15
            refine y_iast C g14 dX8_sheet_66 eM15 ?_
            refine y_iconst C dX8_sheet_67 kc_0 ?_
            refine y_istore C dX8_sheet_68 (by decide) (L' := [(4, .int (0)), (0, .ref t), (1, .int x1)]) rfl ?_
            obtain ⟨j16, hj16, h⟩ := ob h
            refine y_sel [0, 1, 4] rfl (l_X8_sheet_70 C 1000 _ _ _ hj16 ?_)
            refine y_iconst C dX8_sheet_96 kc_1 ?_
            have e0 := Option.some.inj h
            subst e0
            exact y_iret C E (Nat.zero_le _) (Nat.zero_le _) dX8_sheet_97
          replace h := hj13
          refine y_icmp_ne C dX8_sheet_58 (tgt := 65) rfl (fun c12 => ?_) (fun c12 => ?_)
          · have h := itF c12 h
            refine y_iload_n C dX8_sheet_65 rfl ?_
            have e0 := Option.some.inj h
            subst e0
            exact y_sel [0, 1] rfl hJj13
          · have h := itT c12 h
            refine y_iconst C dX8_sheet_61 kc_0 ?_
            refine y_goto C dX8_sheet_62 (tgt := 66) rfl ?_
            have e0 := Option.some.inj h
            subst e0
            exact y_sel [0, 1] rfl hJj13
        · have h := itF c6 h
          refine y_iload_n C dX8_sheet_37 rfl ?_
          refine y_if_ge C dX8_sheet_38 (tgt := 44) rfl (fun c17 => ?_) (fun c17 => ?_)
          · have h := itT c17 h
            refine y_aload_n C dX8_sheet_44 rfl ?_
            obtain ⟨g18, h⟩ := gd h
            obtain ⟨q19, hq19, h⟩ := ob h
            refine y_getr C fl_X8_44 g18 hq19 dX8_sheet_45 ?_
            refine y_iload_n C dX8_sheet_48 rfl ?_
            refine y_iload_n C dX8_sheet_49 rfl ?_
            obtain ⟨g20, h⟩ := gd h
            obtain ⟨M21, eM21, h⟩ := ob h
            have eM21 := Option.some.inj eM21
            refine y_iast C g20 dX8_sheet_50 eM21 ?_
            refine y_aload_n C dX8_sheet_51 rfl ?_
            obtain ⟨q22, hq22, h⟩ := ob h
            refine y_getr C fl_X8_47 g18 hq22 dX8_sheet_52 ?_
            refine y_iload_n C dX8_sheet_55 rfl ?_
            refine y_iload_n C dX8_sheet_56 rfl ?_
            refine y_iconst C dX8_sheet_57 kc_m1 ?_
            obtain ⟨j24, hj24, h⟩ := ob h
            have hJj24 : Y X K M21 0 0 66 [(0, .ref t), (1, .int x1)] [.int j24, .int x1, .ref q22] := by
              obtain ⟨g25, h⟩ := gd h
              obtain ⟨M26, eM26, h⟩ := ob h
              have eM26 := Option.some.inj eM26
              refine y_iast C g25 dX8_sheet_66 eM26 ?_
              refine y_iconst C dX8_sheet_67 kc_0 ?_
              refine y_istore C dX8_sheet_68 (by decide) (L' := [(4, .int (0)), (0, .ref t), (1, .int x1)]) rfl ?_
              obtain ⟨j27, hj27, h⟩ := ob h
              refine y_sel [0, 1, 4] rfl (l_X8_sheet_70 C 1000 _ _ _ hj27 ?_)
              refine y_iconst C dX8_sheet_96 kc_1 ?_
              have e0 := Option.some.inj h
              subst e0
              exact y_iret C E (Nat.zero_le _) (Nat.zero_le _) dX8_sheet_97
            replace h := hj24
            refine y_icmp_ne C dX8_sheet_58 (tgt := 65) rfl (fun c23 => ?_) (fun c23 => ?_)
            · have h := itF c23 h
              refine y_iload_n C dX8_sheet_65 rfl ?_
              have e0 := Option.some.inj h
              subst e0
              exact y_sel [0, 1] rfl hJj24
            · have h := itT c23 h
              refine y_iconst C dX8_sheet_61 kc_0 ?_
              refine y_goto C dX8_sheet_62 (tgt := 66) rfl ?_
              have e0 := Option.some.inj h
              subst e0
              exact y_sel [0, 1] rfl hJj24
          · have h := itF c17 h
            refine y_bipush C dX8_sheet_41 kb_m14 ?_
            have e0 := Option.some.inj h
            subst e0
            exact y_iret C E (Nat.zero_le _) (Nat.zero_le _) dX8_sheet_43
      · have h := itF c5 h
        refine y_iload_n C dX8_sheet_23 rfl ?_
        refine y_bipush C dX8_sheet_24 kb_40 ?_
        refine y_icmp_le C dX8_sheet_26 (tgt := 32) rfl (fun c28 => ?_) (fun c28 => ?_)
        · have h := itT c28 h
          refine y_iload_n C dX8_sheet_32 rfl ?_
          refine y_iconst C dX8_sheet_33 kc_m1 ?_
          refine y_icmp_eq C dX8_sheet_34 (tgt := 44) rfl (fun c29 => ?_) (fun c29 => ?_)
          · have h := itT c29 h
            refine y_aload_n C dX8_sheet_44 rfl ?_
            obtain ⟨g30, h⟩ := gd h
            obtain ⟨q31, hq31, h⟩ := ob h
            refine y_getr C fl_X8_44 g30 hq31 dX8_sheet_45 ?_
            refine y_iload_n C dX8_sheet_48 rfl ?_
            refine y_iload_n C dX8_sheet_49 rfl ?_
            obtain ⟨g32, h⟩ := gd h
            obtain ⟨M33, eM33, h⟩ := ob h
            have eM33 := Option.some.inj eM33
            refine y_iast C g32 dX8_sheet_50 eM33 ?_
            refine y_aload_n C dX8_sheet_51 rfl ?_
            obtain ⟨q34, hq34, h⟩ := ob h
            refine y_getr C fl_X8_47 g30 hq34 dX8_sheet_52 ?_
            refine y_iload_n C dX8_sheet_55 rfl ?_
            refine y_iload_n C dX8_sheet_56 rfl ?_
            refine y_iconst C dX8_sheet_57 kc_m1 ?_
            obtain ⟨j36, hj36, h⟩ := ob h
            have hJj36 : Y X K M33 0 0 66 [(0, .ref t), (1, .int x1)] [.int j36, .int x1, .ref q34] := by
              obtain ⟨g37, h⟩ := gd h
              obtain ⟨M38, eM38, h⟩ := ob h
              have eM38 := Option.some.inj eM38
              refine y_iast C g37 dX8_sheet_66 eM38 ?_
              refine y_iconst C dX8_sheet_67 kc_0 ?_
              refine y_istore C dX8_sheet_68 (by decide) (L' := [(4, .int (0)), (0, .ref t), (1, .int x1)]) rfl ?_
              obtain ⟨j39, hj39, h⟩ := ob h
              refine y_sel [0, 1, 4] rfl (l_X8_sheet_70 C 1000 _ _ _ hj39 ?_)
              refine y_iconst C dX8_sheet_96 kc_1 ?_
              have e0 := Option.some.inj h
              subst e0
              exact y_iret C E (Nat.zero_le _) (Nat.zero_le _) dX8_sheet_97
            replace h := hj36
            refine y_icmp_ne C dX8_sheet_58 (tgt := 65) rfl (fun c35 => ?_) (fun c35 => ?_)
            · have h := itF c35 h
              refine y_iload_n C dX8_sheet_65 rfl ?_
              have e0 := Option.some.inj h
              subst e0
              exact y_sel [0, 1] rfl hJj36
            · have h := itT c35 h
              refine y_iconst C dX8_sheet_61 kc_0 ?_
              refine y_goto C dX8_sheet_62 (tgt := 66) rfl ?_
              have e0 := Option.some.inj h
              subst e0
              exact y_sel [0, 1] rfl hJj36
          · have h := itF c29 h
            refine y_iload_n C dX8_sheet_37 rfl ?_
            refine y_if_ge C dX8_sheet_38 (tgt := 44) rfl (fun c40 => ?_) (fun c40 => ?_)
            · have h := itT c40 h
              refine y_aload_n C dX8_sheet_44 rfl ?_
              obtain ⟨g41, h⟩ := gd h
              obtain ⟨q42, hq42, h⟩ := ob h
              refine y_getr C fl_X8_44 g41 hq42 dX8_sheet_45 ?_
              refine y_iload_n C dX8_sheet_48 rfl ?_
              refine y_iload_n C dX8_sheet_49 rfl ?_
              obtain ⟨g43, h⟩ := gd h
              obtain ⟨M44, eM44, h⟩ := ob h
              have eM44 := Option.some.inj eM44
              refine y_iast C g43 dX8_sheet_50 eM44 ?_
              refine y_aload_n C dX8_sheet_51 rfl ?_
              obtain ⟨q45, hq45, h⟩ := ob h
              refine y_getr C fl_X8_47 g41 hq45 dX8_sheet_52 ?_
              refine y_iload_n C dX8_sheet_55 rfl ?_
              refine y_iload_n C dX8_sheet_56 rfl ?_
              refine y_iconst C dX8_sheet_57 kc_m1 ?_
              obtain ⟨j47, hj47, h⟩ := ob h
              have hJj47 : Y X K M44 0 0 66 [(0, .ref t), (1, .int x1)] [.int j47, .int x1, .ref q45] := by
                obtain ⟨g48, h⟩ := gd h
                obtain ⟨M49, eM49, h⟩ := ob h
                have eM49 := Option.some.inj eM49
                refine y_iast C g48 dX8_sheet_66 eM49 ?_
                refine y_iconst C dX8_sheet_67 kc_0 ?_
                refine y_istore C dX8_sheet_68 (by decide) (L' := [(4, .int (0)), (0, .ref t), (1, .int x1)]) rfl ?_
                obtain ⟨j50, hj50, h⟩ := ob h
                refine y_sel [0, 1, 4] rfl (l_X8_sheet_70 C 1000 _ _ _ hj50 ?_)
                refine y_iconst C dX8_sheet_96 kc_1 ?_
                have e0 := Option.some.inj h
                subst e0
                exact y_iret C E (Nat.zero_le _) (Nat.zero_le _) dX8_sheet_97
              replace h := hj47
              refine y_icmp_ne C dX8_sheet_58 (tgt := 65) rfl (fun c46 => ?_) (fun c46 => ?_)
              · have h := itF c46 h
                refine y_iload_n C dX8_sheet_65 rfl ?_
                have e0 := Option.some.inj h
                subst e0
                exact y_sel [0, 1] rfl hJj47
              · have h := itT c46 h
                refine y_iconst C dX8_sheet_61 kc_0 ?_
                refine y_goto C dX8_sheet_62 (tgt := 66) rfl ?_
                have e0 := Option.some.inj h
                subst e0
                exact y_sel [0, 1] rfl hJj47
            · have h := itF c40 h
              refine y_bipush C dX8_sheet_41 kb_m14 ?_
              have e0 := Option.some.inj h
              subst e0
              exact y_iret C E (Nat.zero_le _) (Nat.zero_le _) dX8_sheet_43
        · have h := itF c28 h
          refine y_bipush C dX8_sheet_29 kb_m2 ?_
          have e0 := Option.some.inj h
          subst e0
          exact y_iret C E (Nat.zero_le _) (Nat.zero_le _) dX8_sheet_31
def b_X8_skipped_23 (K : yK) (t : Nat) (x_1 : Int32) (x_3 : Int32) : Nat → yM → Int32 → Int32 → Option (Int32 × yM)
  | 0, _, _, _ => none
  | n + 1, M, u23_4, u23_5 => (if (12 : Int32) < u23_5 then (some (u23_4, M)) else (if gO K t 7 = true then (if u23_5 < (M t 0) then (Option.bind (if u23_5 = (12 : Int32) then (some (0 : Int32)) else (some ((1 : Int32) <<< (u23_5 &&& 31)))) fun j5 => (Option.bind (some (yS M t 9 j5)) fun M6 => (Option.bind (b_X8_unlike K M6 t x_1) fun r7 => (Option.bind (if r7.1 = (-1 : Int32) then (some ((1 : Int32) <<< (u23_5 &&& 31))) else (some (0 : Int32))) fun j9 => (Option.bind (some (u23_4 ||| j9)) fun v10 => (Option.bind (some (u23_5 + (1 : Int32))) fun v11 => (b_X8_skipped_23 K t x_1 x_3 n r7.2 v10 v11))))))) else (Option.bind (if u23_5 = (12 : Int32) then (Option.bind (if u23_5 = (12 : Int32) then (some (0 : Int32)) else (some ((1 : Int32) <<< (u23_5 &&& 31)))) fun j15 => (Option.bind (some (yS M t 9 j15)) fun M16 => (Option.bind (b_X8_unlike K M16 t x_1) fun r17 => (Option.bind (if r17.1 = (-1 : Int32) then (some ((1 : Int32) <<< (u23_5 &&& 31))) else (some (0 : Int32))) fun j19 => (Option.bind (some (u23_4 ||| j19)) fun v20 => (some (v20, r17.2))))))) else (some (u23_4, M))) fun j13 => (Option.bind (some (u23_5 + (1 : Int32))) fun v21 => (b_X8_skipped_23 K t x_1 x_3 n j13.2 j13.1 v21)))) else none))
set_option maxHeartbeats 4000000 in
set_option maxRecDepth 100000 in
theorem l_X8_skipped_23 {X : yX} {K : yK} {t : Nat} {x_1 : Int32} {x_3 : Int32} (C : yCx X cX8_skipped RX8 "skipped" rm_X8_skipped 6) : ∀ (n : Nat) (M : yM) (u23_4 : Int32) (u23_5 : Int32) (x : (Int32 × yM)), b_X8_skipped_23 K t x_1 x_3 n M u23_4 u23_5 = some x → ∀ (hX : Y X K x.2 0 0 93 [(0, .ref t), (3, .int x_3), (4, .int x.1)] []), Y X K M 0 0 23 [(0, .ref t), (1, .int x_1), (3, .int x_3), (4, .int u23_4), (5, .int u23_5)] [] := by
  intro n
  induction n with
  | zero =>
    intro M u23_4 u23_5 x h
    exact nomatch (show (none : Option _) = some x from h)
  | succ n ih =>
    intro M u23_4 u23_5 x h hX
    rw [b_X8_skipped_23] at h
    refine y_iload C dX8_skipped_23 rfl ?_
    refine y_bipush C dX8_skipped_25 kb_12 ?_
    refine y_icmp_gt C dX8_skipped_27 (tgt := 93) rfl (fun c1 => ?_) (fun c1 => ?_)
    · have h := itT c1 h
      have e0 := Option.some.inj h
      subst e0
      exact y_sel [0, 3, 4] rfl hX
    · have h := itF c1 h
      refine y_iload C dX8_skipped_30 rfl ?_
      refine y_aload_n C dX8_skipped_32 rfl ?_
      obtain ⟨g2, h⟩ := gd h
      refine y_geti C fl_X8_87 g2 dX8_skipped_33 ?_
      refine y_icmp_lt C dX8_skipped_36 (tgt := 46) rfl (fun c3 => ?_) (fun c3 => ?_)
      · have h := itT c3 h
        refine y_aload_n C dX8_skipped_46 rfl ?_
        refine y_iload C dX8_skipped_47 rfl ?_
        refine y_bipush C dX8_skipped_49 kb_12 ?_
        obtain ⟨j5, hj5, h⟩ := ob h
        have hJj5 : Y X K M 0 0 62 [(0, .ref t), (1, .int x_1), (3, .int x_3), (4, .int u23_4), (5, .int u23_5)] [.int j5, .ref t] := by
          obtain ⟨M6, eM6, h⟩ := ob h
          have eM6 := Option.some.inj eM6
          refine y_puti C fl_X8_110 rfl g2 rfl rfl dX8_skipped_62 eM6 ?_
          refine y_iload C dX8_skipped_65 rfl ?_
          refine y_aload_n C dX8_skipped_67 rfl ?_
          refine y_iload_n C dX8_skipped_68 rfl ?_
          obtain ⟨r7, hr7, h⟩ := ob h
          refine y_cV C [.int x_1] (m_X8_unlike K M6 t x_1) hr7 g2 cw_X8_302 rfl (by decide) ⟨rfl, rfl⟩ ⟨Nat.zero_le _, Nat.zero_le _⟩ (Nat.le_of_ble_eq_true rfl) rfl rfl rfl dX8_skipped_69 ?_
          refine y_iconst C dX8_skipped_72 kc_m1 ?_
          obtain ⟨j9, hj9, h⟩ := ob h
          have hJj9 : Y X K r7.2 0 0 84 [(0, .ref t), (1, .int x_1), (3, .int x_3), (5, .int u23_5)] [.int j9, .int u23_4] := by
            refine y_ior C dX8_skipped_84 ?_
            obtain ⟨v10, ev10, h⟩ := ob h
            have ev10 := Option.some.inj ev10
            refine y_istore C dX8_skipped_85 (by decide) (L' := [(4, .int v10), (0, .ref t), (1, .int x_1), (3, .int x_3), (5, .int u23_5)]) (by subst ev10; rfl) ?_
            obtain ⟨v11, ev11, h⟩ := ob h
            have ev11 := Option.some.inj ev11
            refine y_iinc C dX8_skipped_87 (by decide) rfl (v := v11) (by subst ev11; rfl) (L' := [(5, .int v11), (4, .int v10), (0, .ref t), (1, .int x_1), (3, .int x_3)]) rfl ?_
            refine y_goto C dX8_skipped_90 (tgt := 23) rfl ?_
            exact y_sel [0, 1, 3, 4, 5] rfl (ih _ _ _ _  h hX)
          replace h := hj9
          refine y_icmp_ne C dX8_skipped_73 (tgt := 83) rfl (fun c8 => ?_) (fun c8 => ?_)
          · have h := itF c8 h
            refine y_iconst C dX8_skipped_83 kc_0 ?_
            have e0 := Option.some.inj h
            subst e0
            exact y_sel [0, 1, 3, 5] rfl hJj9
          · have h := itT c8 h
            refine y_iconst C dX8_skipped_76 kc_1 ?_
            refine y_iload C dX8_skipped_77 rfl ?_
            refine y_ishl C dX8_skipped_79 ?_
            refine y_goto C dX8_skipped_80 (tgt := 84) rfl ?_
            have e0 := Option.some.inj h
            subst e0
            exact y_sel [0, 1, 3, 5] rfl hJj9
        replace h := hj5
        refine y_icmp_ne C dX8_skipped_51 (tgt := 58) rfl (fun c4 => ?_) (fun c4 => ?_)
        · have h := itF c4 h
          refine y_iconst C dX8_skipped_58 kc_1 ?_
          refine y_iload C dX8_skipped_59 rfl ?_
          refine y_ishl C dX8_skipped_61 ?_
          have e0 := Option.some.inj h
          subst e0
          exact y_sel [0, 1, 3, 4, 5] rfl hJj5
        · have h := itT c4 h
          refine y_iconst C dX8_skipped_54 kc_0 ?_
          refine y_goto C dX8_skipped_55 (tgt := 62) rfl ?_
          have e0 := Option.some.inj h
          subst e0
          exact y_sel [0, 1, 3, 4, 5] rfl hJj5
      · have h := itF c3 h
        refine y_iload C dX8_skipped_39 rfl ?_
        refine y_bipush C dX8_skipped_41 kb_12 ?_
        obtain ⟨j13, hj13, h⟩ := ob h
        have hJj13 : Y X K j13.2 0 0 87 [(0, .ref t), (1, .int x_1), (3, .int x_3), (4, .int j13.1), (5, .int u23_5)] [] := by
          obtain ⟨v21, ev21, h⟩ := ob h
          have ev21 := Option.some.inj ev21
          refine y_iinc C dX8_skipped_87 (by decide) rfl (v := v21) (by subst ev21; rfl) (L' := [(5, .int v21), (0, .ref t), (1, .int x_1), (3, .int x_3), (4, .int j13.1)]) rfl ?_
          refine y_goto C dX8_skipped_90 (tgt := 23) rfl ?_
          exact y_sel [0, 1, 3, 4, 5] rfl (ih _ _ _ _  h hX)
        replace h := hj13
        refine y_icmp_ne C dX8_skipped_43 (tgt := 87) rfl (fun c12 => ?_) (fun c12 => ?_)
        · have h := itF c12 h
          have e0 := Option.some.inj h
          subst e0
          exact y_sel [0, 1, 3, 4, 5] rfl hJj13
        · have h := itT c12 h
          refine y_aload_n C dX8_skipped_46 rfl ?_
          refine y_iload C dX8_skipped_47 rfl ?_
          refine y_bipush C dX8_skipped_49 kb_12 ?_
          obtain ⟨j15, hj15, h⟩ := ob h
          have hJj15 : Y X K M 0 0 62 [(0, .ref t), (1, .int x_1), (3, .int x_3), (4, .int u23_4), (5, .int u23_5)] [.int j15, .ref t] := by
            obtain ⟨M16, eM16, h⟩ := ob h
            have eM16 := Option.some.inj eM16
            refine y_puti C fl_X8_110 rfl g2 rfl rfl dX8_skipped_62 eM16 ?_
            refine y_iload C dX8_skipped_65 rfl ?_
            refine y_aload_n C dX8_skipped_67 rfl ?_
            refine y_iload_n C dX8_skipped_68 rfl ?_
            obtain ⟨r17, hr17, h⟩ := ob h
            refine y_cV C [.int x_1] (m_X8_unlike K M16 t x_1) hr17 g2 cw_X8_302 rfl (by decide) ⟨rfl, rfl⟩ ⟨Nat.zero_le _, Nat.zero_le _⟩ (Nat.le_of_ble_eq_true rfl) rfl rfl rfl dX8_skipped_69 ?_
            refine y_iconst C dX8_skipped_72 kc_m1 ?_
            obtain ⟨j19, hj19, h⟩ := ob h
            have hJj19 : Y X K r17.2 0 0 84 [(0, .ref t), (1, .int x_1), (3, .int x_3), (5, .int u23_5)] [.int j19, .int u23_4] := by
              refine y_ior C dX8_skipped_84 ?_
              obtain ⟨v20, ev20, h⟩ := ob h
              have ev20 := Option.some.inj ev20
              refine y_istore C dX8_skipped_85 (by decide) (L' := [(4, .int v20), (0, .ref t), (1, .int x_1), (3, .int x_3), (5, .int u23_5)]) (by subst ev20; rfl) ?_
              have e0 := Option.some.inj h
              subst e0
              exact y_sel [0, 1, 3, 4, 5] rfl hJj13
            replace h := hj19
            refine y_icmp_ne C dX8_skipped_73 (tgt := 83) rfl (fun c18 => ?_) (fun c18 => ?_)
            · have h := itF c18 h
              refine y_iconst C dX8_skipped_83 kc_0 ?_
              have e0 := Option.some.inj h
              subst e0
              exact y_sel [0, 1, 3, 5] rfl hJj19
            · have h := itT c18 h
              refine y_iconst C dX8_skipped_76 kc_1 ?_
              refine y_iload C dX8_skipped_77 rfl ?_
              refine y_ishl C dX8_skipped_79 ?_
              refine y_goto C dX8_skipped_80 (tgt := 84) rfl ?_
              have e0 := Option.some.inj h
              subst e0
              exact y_sel [0, 1, 3, 5] rfl hJj19
          replace h := hj15
          refine y_icmp_ne C dX8_skipped_51 (tgt := 58) rfl (fun c14 => ?_) (fun c14 => ?_)
          · have h := itF c14 h
            refine y_iconst C dX8_skipped_58 kc_1 ?_
            refine y_iload C dX8_skipped_59 rfl ?_
            refine y_ishl C dX8_skipped_61 ?_
            have e0 := Option.some.inj h
            subst e0
            exact y_sel [0, 1, 3, 4, 5] rfl hJj15
          · have h := itT c14 h
            refine y_iconst C dX8_skipped_54 kc_0 ?_
            refine y_goto C dX8_skipped_55 (tgt := 62) rfl ?_
            have e0 := Option.some.inj h
            subst e0
            exact y_sel [0, 1, 3, 4, 5] rfl hJj15
set_option maxRecDepth 100000 in
def b_X8_skipped (K : yK) (M : yM) (t : Nat) (x1 : Int32) : Option (Int32 × yM) := (if gO K t 7 = true then (Option.bind (b_X8_sheetWrong K M t x1) fun r2 => (if r2 = 0 then (Option.bind (some (M t 9)) fun v4 => (Option.bind (b_X8_skipped_23 K t x1 v4 1000 M ((0 : Int32)) ((0 : Int32))) fun j5 => (Option.bind (some (yS j5.2 t 9 v4)) fun M6 => (some (j5.1, M6))))) else (some (r2, M)))) else none)
set_option maxHeartbeats 4000000 in
set_option maxRecDepth 100000 in
theorem m_X8_skipped (K : yK) (M : yM) (t : Nat) (x1 : Int32) : yMet yX8_skipped cX8_skipped 6 (Option.some Jvm.ClassFile.FieldType.int) rm_X8_skipped K M [.ref t, .int x1] (b_X8_skipped K M t x1) (yGi K) := by
  refine yM_intro (by decide) (Nat.le_of_ble_eq_true rfl) (fun X r h C E => ?_)
  replace C : yCx X cX8_skipped RX8 "skipped" rm_X8_skipped 6 := C
  show Y X K M 0 0 0 [(0, .ref t), (1, .int x1)] []
  unfold b_X8_skipped at h
  refine y_aload_n C dX8_skipped_0 rfl ?_
  refine y_iload_n C dX8_skipped_1 rfl ?_
  obtain ⟨g1, h⟩ := gd h
  obtain ⟨r2, hr2, h⟩ := ob h
  refine y_cV C [.int x1] (m_X8_sheetWrong K M t x1) hr2 g1 cw_X8_299 rfl (by decide) ⟨rfl, rfl⟩ ⟨Nat.zero_le _, Nat.zero_le _⟩ (Nat.le_of_ble_eq_true rfl) rfl rfl rfl dX8_skipped_2 ?_
  refine y_istore_n C dX8_skipped_5 (by decide) (L' := [(2, .int r2), (0, .ref t), (1, .int x1)]) rfl ?_
  refine y_iload_n C dX8_skipped_6 rfl ?_
  refine y_if_eq C dX8_skipped_7 (tgt := 12) rfl (fun c3 => ?_) (fun c3 => ?_)
  · have h := itT c3 h
    refine y_aload_n C dX8_skipped_12 rfl ?_
    refine y_geti C fl_X8_110 g1 dX8_skipped_13 ?_
    obtain ⟨v4, ev4, h⟩ := ob h
    have ev4 := Option.some.inj ev4
    refine y_istore_n C dX8_skipped_16 (by decide) (L' := [(3, .int v4), (2, .int r2), (0, .ref t), (1, .int x1)]) (by subst ev4; rfl) ?_
    refine y_iconst C dX8_skipped_17 kc_0 ?_
    refine y_istore C dX8_skipped_18 (by decide) (L' := [(4, .int (0)), (3, .int v4), (2, .int r2), (0, .ref t), (1, .int x1)]) rfl ?_
    refine y_iconst C dX8_skipped_20 kc_0 ?_
    refine y_istore C dX8_skipped_21 (by decide) (L' := [(5, .int (0)), (4, .int (0)), (3, .int v4), (2, .int r2), (0, .ref t), (1, .int x1)]) rfl ?_
    obtain ⟨j5, hj5, h⟩ := ob h
    refine y_sel [0, 1, 3, 4, 5] rfl (l_X8_skipped_23 C 1000 _ _ _ _ hj5 ?_)
    refine y_aload_n C dX8_skipped_93 rfl ?_
    refine y_iload_n C dX8_skipped_94 rfl ?_
    obtain ⟨M6, eM6, h⟩ := ob h
    have eM6 := Option.some.inj eM6
    refine y_puti C fl_X8_110 rfl g1 rfl rfl dX8_skipped_95 eM6 ?_
    refine y_iload C dX8_skipped_98 rfl ?_
    have e0 := Option.some.inj h
    subst e0
    exact y_iret C E (Nat.zero_le _) (Nat.zero_le _) dX8_skipped_100
  · have h := itF c3 h
    refine y_iload_n C dX8_skipped_10 rfl ?_
    have e0 := Option.some.inj h
    subst e0
    exact y_iret C E (Nat.zero_le _) (Nat.zero_le _) dX8_skipped_11
def b_X8_soup_40 (K : yK) (t : Nat) (x_1 : Int32) (x_2 : Int32) (x_3 : Int32) : Nat → yM → Int32 → Int32 → Int32 → Option (Int32 × Int32 × yM)
  | 0, _, _, _, _ => none
  | n + 1, M, u40_4, u40_5, u40_6 => (if gO K t 7 = true then (if (M t 0) ≤ u40_6 then (some (u40_4, u40_5, M)) else (Option.bind (some (yS M t 9 (x_3 ||| ((1 : Int32) <<< (u40_6 &&& 31))))) fun M3 => (Option.bind (b_X8_goes K M3 t x_1) fun r4 => (Option.bind (if u40_5 ≤ r4.1 then (some u40_4) else (some u40_6)) fun j6 => (Option.bind (if u40_5 ≤ r4.1 then (some u40_5) else (some r4.1)) fun j8 => (Option.bind (some (u40_6 + (1 : Int32))) fun v9 => (b_X8_soup_40 K t x_1 x_2 x_3 n r4.2 j6 j8 v9))))))) else none)
set_option maxHeartbeats 4000000 in
set_option maxRecDepth 100000 in
theorem l_X8_soup_40 {X : yX} {K : yK} {t : Nat} {x_1 : Int32} {x_2 : Int32} {x_3 : Int32} (C : yCx X cX8_soup RX8 "soup" rm_X8_soup 8) : ∀ (n : Nat) (M : yM) (u40_4 : Int32) (u40_5 : Int32) (u40_6 : Int32) (x : (Int32 × Int32 × yM)), b_X8_soup_40 K t x_1 x_2 x_3 n M u40_4 u40_5 u40_6 = some x → ∀ (hX : Y X K x.2.2 0 0 104 [(0, .ref t), (2, .int x_2), (3, .int x_3), (4, .int x.1), (5, .int x.2.1)] []), Y X K M 0 0 40 [(0, .ref t), (1, .int x_1), (2, .int x_2), (3, .int x_3), (4, .int u40_4), (5, .int u40_5), (6, .int u40_6)] [] := by
  intro n
  induction n with
  | zero =>
    intro M u40_4 u40_5 u40_6 x h
    exact nomatch (show (none : Option _) = some x from h)
  | succ n ih =>
    intro M u40_4 u40_5 u40_6 x h hX
    rw [b_X8_soup_40] at h
    refine y_iload C dX8_soup_40 rfl ?_
    refine y_aload_n C dX8_soup_42 rfl ?_
    obtain ⟨g1, h⟩ := gd h
    refine y_geti C fl_X8_87 g1 dX8_soup_43 ?_
    refine y_icmp_ge C dX8_soup_46 (tgt := 104) rfl (fun c2 => ?_) (fun c2 => ?_)
    · have h := itT c2 h
      have e0 := Option.some.inj h
      subst e0
      exact y_sel [0, 2, 3, 4, 5] rfl hX
    · have h := itF c2 h
      refine y_aload_n C dX8_soup_49 rfl ?_
      refine y_iload_n C dX8_soup_50 rfl ?_
      refine y_iconst C dX8_soup_51 kc_1 ?_
      refine y_iload C dX8_soup_52 rfl ?_
      refine y_ishl C dX8_soup_54 ?_
      refine y_ior C dX8_soup_55 ?_
      obtain ⟨M3, eM3, h⟩ := ob h
      have eM3 := Option.some.inj eM3
      refine y_puti C fl_X8_110 rfl g1 rfl rfl dX8_soup_56 eM3 ?_
      refine y_aload_n C dX8_soup_59 rfl ?_
      refine y_iload_n C dX8_soup_60 rfl ?_
      obtain ⟨r4, hr4, h⟩ := ob h
      refine y_cV C [.int x_1] (m_X8_goes K M3 t x_1) hr4 g1 cw_X8_284 rfl (by decide) ⟨rfl, rfl⟩ ⟨Nat.zero_le _, Nat.zero_le _⟩ (Nat.le_of_ble_eq_true rfl) rfl rfl rfl dX8_soup_61 ?_
      refine y_istore C dX8_soup_64 (by decide) (L' := [(7, .int r4.1), (0, .ref t), (1, .int x_1), (2, .int x_2), (3, .int x_3), (4, .int u40_4), (5, .int u40_5), (6, .int u40_6)]) rfl ?_
      refine y_iload C dX8_soup_66 rfl ?_
      refine y_iload C dX8_soup_68 rfl ?_
      obtain ⟨j6, hj6, h⟩ := ob h
      have hJj6 : Y X K r4.2 0 0 80 [(7, .int r4.1), (0, .ref t), (1, .int x_1), (2, .int x_2), (3, .int x_3), (5, .int u40_5), (6, .int u40_6)] [.int j6] := by
        refine y_istore C dX8_soup_80 (by decide) (L' := [(4, .int j6), (7, .int r4.1), (0, .ref t), (1, .int x_1), (2, .int x_2), (3, .int x_3), (5, .int u40_5), (6, .int u40_6)]) rfl ?_
        refine y_iload C dX8_soup_82 rfl ?_
        refine y_iload C dX8_soup_84 rfl ?_
        obtain ⟨j8, hj8, h⟩ := ob h
        have hJj8 : Y X K r4.2 0 0 96 [(4, .int j6), (0, .ref t), (1, .int x_1), (2, .int x_2), (3, .int x_3), (6, .int u40_6)] [.int j8] := by
          refine y_istore C dX8_soup_96 (by decide) (L' := [(5, .int j8), (4, .int j6), (0, .ref t), (1, .int x_1), (2, .int x_2), (3, .int x_3), (6, .int u40_6)]) rfl ?_
          obtain ⟨v9, ev9, h⟩ := ob h
          have ev9 := Option.some.inj ev9
          refine y_iinc C dX8_soup_98 (by decide) rfl (v := v9) (by subst ev9; rfl) (L' := [(6, .int v9), (5, .int j8), (4, .int j6), (0, .ref t), (1, .int x_1), (2, .int x_2), (3, .int x_3)]) rfl ?_
          refine y_goto C dX8_soup_101 (tgt := 40) rfl ?_
          exact y_sel [0, 1, 2, 3, 4, 5, 6] rfl (ih _ _ _ _ _  h hX)
        replace h := hj8
        refine y_icmp_ge C dX8_soup_86 (tgt := 94) rfl (fun c7 => ?_) (fun c7 => ?_)
        · have h := itT c7 h
          refine y_iload C dX8_soup_94 rfl ?_
          have e0 := Option.some.inj h
          subst e0
          exact y_sel [4, 0, 1, 2, 3, 6] rfl hJj8
        · have h := itF c7 h
          refine y_iload C dX8_soup_89 rfl ?_
          refine y_goto C dX8_soup_91 (tgt := 96) rfl ?_
          have e0 := Option.some.inj h
          subst e0
          exact y_sel [4, 0, 1, 2, 3, 6] rfl hJj8
      replace h := hj6
      refine y_icmp_ge C dX8_soup_70 (tgt := 78) rfl (fun c5 => ?_) (fun c5 => ?_)
      · have h := itT c5 h
        refine y_iload C dX8_soup_78 rfl ?_
        have e0 := Option.some.inj h
        subst e0
        exact y_sel [7, 0, 1, 2, 3, 5, 6] rfl hJj6
      · have h := itF c5 h
        refine y_iload C dX8_soup_73 rfl ?_
        refine y_goto C dX8_soup_75 (tgt := 80) rfl ?_
        have e0 := Option.some.inj h
        subst e0
        exact y_sel [7, 0, 1, 2, 3, 5, 6] rfl hJj6
set_option maxRecDepth 100000 in
def b_X8_soup (K : yK) (M : yM) (t : Nat) (x1 : Int32) (x2 : Int32) : Option (Int32 × yM) := (Option.bind (b_X8_in K M x1 ((0 : Int32)) ((60 : Int32))) fun r1 => (if r1 = true then (Option.bind (b_X8_in K M x2 ((0 : Int32)) ((1 : Int32))) fun r3 => (if r3 = true then (if gO K t 7 = true then (Option.bind (some (M t 9)) fun v6 => (Option.bind (b_X8_goes K M t x1) fun r7 => (Option.bind (b_X8_soup_40 K t x1 x2 v6 1000 r7.2 ((-1 : Int32)) r7.1 ((0 : Int32))) fun j8 => (Option.bind (some (yS j8.2.2 t 9 v6)) fun M9 => (if x2 = 0 then (some (j8.1, M9)) else (some (j8.2.1, M9))))))) else none) else (some ((-2 : Int32), M)))) else (some ((-2 : Int32), M))))
set_option maxHeartbeats 4000000 in
set_option maxRecDepth 100000 in
theorem m_X8_soup (K : yK) (M : yM) (t : Nat) (x1 : Int32) (x2 : Int32) : yMet yX8_soup cX8_soup 8 (Option.some Jvm.ClassFile.FieldType.int) rm_X8_soup K M [.ref t, .int x1, .int x2] (b_X8_soup K M t x1 x2) (yGi K) := by
  refine yM_intro (by decide) (Nat.le_of_ble_eq_true rfl) (fun X r h C E => ?_)
  replace C : yCx X cX8_soup RX8 "soup" rm_X8_soup 8 := C
  show Y X K M 0 0 0 [(0, .ref t), (1, .int x1), (2, .int x2)] []
  unfold b_X8_soup at h
  refine y_iload_n C dX8_soup_0 rfl ?_
  refine y_iconst C dX8_soup_1 kc_0 ?_
  refine y_bipush C dX8_soup_2 kb_60 ?_
  obtain ⟨r1, hr1, h⟩ := ob h
  refine y_cS C [.int x1, .int (0 : Int32), .int (60 : Int32)] (m_X8_in K M x1 ((0 : Int32)) ((60 : Int32))) hr1 cw_X8_90 rfl (by decide) ⟨rfl, rfl⟩ ⟨Nat.zero_le _, Nat.zero_le _⟩ (Nat.le_of_ble_eq_true rfl) rfl rfl rfl dX8_soup_4 ?_
  refine y_ifeqB C dX8_soup_7 (tgt := 19) rfl (fun c2 => ?_) (fun c2 => ?_)
  · have h := itFb c2 h
    refine y_bipush C dX8_soup_19 kb_m2 ?_
    have e0 := Option.some.inj h
    subst e0
    exact y_iret C E (Nat.zero_le _) (Nat.zero_le _) dX8_soup_21
  · have h := itT c2 h
    refine y_iload_n C dX8_soup_10 rfl ?_
    refine y_iconst C dX8_soup_11 kc_0 ?_
    refine y_iconst C dX8_soup_12 kc_1 ?_
    obtain ⟨r3, hr3, h⟩ := ob h
    refine y_cS C [.int x2, .int (0 : Int32), .int (1 : Int32)] (m_X8_in K M x2 ((0 : Int32)) ((1 : Int32))) hr3 cw_X8_90 rfl (by decide) ⟨rfl, rfl⟩ ⟨Nat.zero_le _, Nat.zero_le _⟩ (Nat.le_of_ble_eq_true rfl) rfl rfl rfl dX8_soup_13 ?_
    refine y_ifneB C dX8_soup_16 (tgt := 22) rfl (fun c4 => ?_) (fun c4 => ?_)
    · have h := itT c4 h
      refine y_aload_n C dX8_soup_22 rfl ?_
      obtain ⟨g5, h⟩ := gd h
      refine y_geti C fl_X8_110 g5 dX8_soup_23 ?_
      obtain ⟨v6, ev6, h⟩ := ob h
      have ev6 := Option.some.inj ev6
      refine y_istore_n C dX8_soup_26 (by decide) (L' := [(3, .int v6), (0, .ref t), (1, .int x1), (2, .int x2)]) (by subst ev6; rfl) ?_
      refine y_iconst C dX8_soup_27 kc_m1 ?_
      refine y_istore C dX8_soup_28 (by decide) (L' := [(4, .int (-1)), (3, .int v6), (0, .ref t), (1, .int x1), (2, .int x2)]) rfl ?_
      refine y_aload_n C dX8_soup_30 rfl ?_
      refine y_iload_n C dX8_soup_31 rfl ?_
      obtain ⟨r7, hr7, h⟩ := ob h
      refine y_cV C [.int x1] (m_X8_goes K M t x1) hr7 g5 cw_X8_284 rfl (by decide) ⟨rfl, rfl⟩ ⟨Nat.zero_le _, Nat.zero_le _⟩ (Nat.le_of_ble_eq_true rfl) rfl rfl rfl dX8_soup_32 ?_
      refine y_istore C dX8_soup_35 (by decide) (L' := [(5, .int r7.1), (4, .int (-1)), (3, .int v6), (0, .ref t), (1, .int x1), (2, .int x2)]) rfl ?_
      refine y_iconst C dX8_soup_37 kc_0 ?_
      refine y_istore C dX8_soup_38 (by decide) (L' := [(6, .int (0)), (5, .int r7.1), (4, .int (-1)), (3, .int v6), (0, .ref t), (1, .int x1), (2, .int x2)]) rfl ?_
      obtain ⟨j8, hj8, h⟩ := ob h
      refine y_sel [0, 1, 2, 3, 4, 5, 6] rfl (l_X8_soup_40 C 1000 _ _ _ _ _ hj8 ?_)
      refine y_aload_n C dX8_soup_104 rfl ?_
      refine y_iload_n C dX8_soup_105 rfl ?_
      obtain ⟨M9, eM9, h⟩ := ob h
      have eM9 := Option.some.inj eM9
      refine y_puti C fl_X8_110 rfl g5 rfl rfl dX8_soup_106 eM9 ?_
      refine y_iload_n C dX8_soup_109 rfl ?_
      refine y_if_ne C dX8_soup_110 (tgt := 118) rfl (fun c10 => ?_) (fun c10 => ?_)
      · have h := itF c10 h
        refine y_iload C dX8_soup_118 rfl ?_
        have e0 := Option.some.inj h
        subst e0
        exact y_iret C E (Nat.zero_le _) (Nat.zero_le _) dX8_soup_120
      · have h := itT c10 h
        refine y_iload C dX8_soup_113 rfl ?_
        refine y_goto C dX8_soup_115 (tgt := 120) rfl ?_
        have e0 := Option.some.inj h
        subst e0
        exact y_iret C E (Nat.zero_le _) (Nat.zero_le _) dX8_soup_120
    · have h := itFb c4 h
      refine y_bipush C dX8_soup_19 kb_m2 ?_
      have e0 := Option.some.inj h
      subst e0
      exact y_iret C E (Nat.zero_le _) (Nat.zero_le _) dX8_soup_21
set_option maxRecDepth 100000 in
def b_X8_taken (K : yK) (M : yM) (t : Nat) (x1 : Int32) (x2 : Int32) : Option Int64 := (Option.bind (b_X8_in K M x2 ((0 : Int32)) ((6 : Int32))) fun r1 => (if r1 = true then (Option.bind (b_X8_in K M x1 ((0 : Int32)) ((17 : Int32))) fun r3 => (if r3 = true then (if x1 < (12 : Int32) then (if gO K t 7 = true then (if x1 < (M t 0) then (if (6 : Int32) ≤ x2 then (some (-13 : Int64)) else (Option.bind (K.2.2 t 1) fun q9 => (if gA K q9 x1 = true then (Option.bind (b_X8_isUnder K M ((M q9 (x1).toNatClampNeg)) x2) fun r11 => (if r11 = true then (some (x1).toInt64) else (some (-13 : Int64)))) else none))) else (some (-11 : Int64))) else none) else (if gO K t 7 = true then (if (x1 - (12 : Int32)) < (M t 4) then (if x2 = (6 : Int32) then (Option.bind (K.2.2 t 5) fun q16 => (if gA K q16 (x1 - (12 : Int32)) = true then (some ((M q16 ((x1 - (12 : Int32))).toNatClampNeg)).toInt64) else none)) else (some (-13 : Int64))) else (some (-11 : Int64))) else none)) else (some (-12 : Int64)))) else (some (-2 : Int64))))
set_option maxHeartbeats 4000000 in
set_option maxRecDepth 100000 in
theorem m_X8_taken (K : yK) (M : yM) (t : Nat) (x1 : Int32) (x2 : Int32) : yMet yX8_taken cX8_taken 3 (Option.some Jvm.ClassFile.FieldType.long) rm_X8_taken K M [.ref t, .int x1, .int x2] (b_X8_taken K M t x1 x2) (yFl K M) := by
  refine yM_intro (by decide) (Nat.le_of_ble_eq_true rfl) (fun X r h C E => ?_)
  replace C : yCx X cX8_taken RX8 "taken" rm_X8_taken 3 := C
  show Y X K M 0 0 0 [(0, .ref t), (1, .int x1), (2, .int x2)] []
  unfold b_X8_taken at h
  refine y_iload_n C dX8_taken_0 rfl ?_
  refine y_iconst C dX8_taken_1 kc_0 ?_
  refine y_bipush C dX8_taken_2 kb_6 ?_
  obtain ⟨r1, hr1, h⟩ := ob h
  refine y_cS C [.int x2, .int (0 : Int32), .int (6 : Int32)] (m_X8_in K M x2 ((0 : Int32)) ((6 : Int32))) hr1 cw_X8_90 rfl (by decide) ⟨rfl, rfl⟩ ⟨Nat.zero_le _, Nat.zero_le _⟩ (Nat.le_of_ble_eq_true rfl) rfl rfl rfl dX8_taken_4 ?_
  refine y_ifneB C dX8_taken_7 (tgt := 14) rfl (fun c2 => ?_) (fun c2 => ?_)
  · have h := itT c2 h
    refine y_iload_n C dX8_taken_14 rfl ?_
    refine y_iconst C dX8_taken_15 kc_0 ?_
    refine y_bipush C dX8_taken_16 kb_17 ?_
    obtain ⟨r3, hr3, h⟩ := ob h
    refine y_cS C [.int x1, .int (0 : Int32), .int (17 : Int32)] (m_X8_in K M x1 ((0 : Int32)) ((17 : Int32))) hr3 cw_X8_90 rfl (by decide) ⟨rfl, rfl⟩ ⟨Nat.zero_le _, Nat.zero_le _⟩ (Nat.le_of_ble_eq_true rfl) rfl rfl rfl dX8_taken_18 ?_
    refine y_ifneB C dX8_taken_21 (tgt := 28) rfl (fun c4 => ?_) (fun c4 => ?_)
    · have h := itT c4 h
      refine y_iload_n C dX8_taken_28 rfl ?_
      refine y_bipush C dX8_taken_29 kb_12 ?_
      refine y_icmp_lt C dX8_taken_31 (tgt := 74) rfl (fun c5 => ?_) (fun c5 => ?_)
      · have h := itT c5 h
        refine y_iload_n C dX8_taken_74 rfl ?_
        refine y_aload_n C dX8_taken_75 rfl ?_
        obtain ⟨g6, h⟩ := gd h
        refine y_geti C fl_X8_87 g6 dX8_taken_76 ?_
        refine y_icmp_lt C dX8_taken_79 (tgt := 88) rfl (fun c7 => ?_) (fun c7 => ?_)
        · have h := itT c7 h
          refine y_iload_n C dX8_taken_88 rfl ?_
          refine y_bipush C dX8_taken_89 kb_6 ?_
          refine y_icmp_ge C dX8_taken_91 (tgt := 112) rfl (fun c8 => ?_) (fun c8 => ?_)
          · have h := itT c8 h
            refine y_ldc2 C wd_1321 dX8_taken_112 ?_
            have e0 := Option.some.inj h
            subst e0
            exact y_lret C E (Nat.zero_le _) (Nat.zero_le _) dX8_taken_115
          · have h := itF c8 h
            refine y_aload_n C dX8_taken_94 rfl ?_
            obtain ⟨q9, hq9, h⟩ := ob h
            refine y_getr C fl_X8_7 g6 hq9 dX8_taken_95 ?_
            refine y_iload_n C dX8_taken_98 rfl ?_
            obtain ⟨g10, h⟩ := gd h
            refine y_iald C g10 dX8_taken_99 ?_
            refine y_iload_n C dX8_taken_100 rfl ?_
            obtain ⟨r11, hr11, h⟩ := ob h
            refine y_cS C [.int (M q9 (x1).toNatClampNeg), .int x2] (m_X8_isUnder K M ((M q9 (x1).toNatClampNeg)) x2) hr11 cw_X8_345 rfl (by decide) ⟨rfl, rfl⟩ ⟨Nat.zero_le _, Nat.zero_le _⟩ (Nat.le_of_ble_eq_true rfl) rfl rfl rfl dX8_taken_101 ?_
            refine y_ifeqB C dX8_taken_104 (tgt := 112) rfl (fun c12 => ?_) (fun c12 => ?_)
            · have h := itFb c12 h
              refine y_ldc2 C wd_1321 dX8_taken_112 ?_
              have e0 := Option.some.inj h
              subst e0
              exact y_lret C E (Nat.zero_le _) (Nat.zero_le _) dX8_taken_115
            · have h := itT c12 h
              refine y_iload_n C dX8_taken_107 rfl ?_
              refine y_i2l C dX8_taken_108 rfl ?_
              refine y_goto C dX8_taken_109 (tgt := 115) rfl ?_
              have e0 := Option.some.inj h
              subst e0
              exact y_lret C E (Nat.zero_le _) (Nat.zero_le _) dX8_taken_115
        · have h := itF c7 h
          refine y_ldc2 C wd_1320 dX8_taken_82 ?_
          refine y_goto C dX8_taken_85 (tgt := 115) rfl ?_
          have e0 := Option.some.inj h
          subst e0
          exact y_lret C E (Nat.zero_le _) (Nat.zero_le _) dX8_taken_115
      · have h := itF c5 h
        refine y_iload_n C dX8_taken_34 rfl ?_
        refine y_bipush C dX8_taken_35 kb_12 ?_
        refine y_isub C dX8_taken_37 ?_
        refine y_aload_n C dX8_taken_38 rfl ?_
        obtain ⟨g13, h⟩ := gd h
        refine y_geti C fl_X8_94 g13 dX8_taken_39 ?_
        refine y_icmp_lt C dX8_taken_42 (tgt := 51) rfl (fun c14 => ?_) (fun c14 => ?_)
        · have h := itT c14 h
          refine y_iload_n C dX8_taken_51 rfl ?_
          refine y_bipush C dX8_taken_52 kb_6 ?_
          refine y_icmp_ne C dX8_taken_54 (tgt := 70) rfl (fun c15 => ?_) (fun c15 => ?_)
          · have h := itF c15 h
            refine y_ldc2 C wd_1321 dX8_taken_70 ?_
            have e0 := Option.some.inj h
            subst e0
            exact y_lret C E (Nat.zero_le _) (Nat.zero_le _) dX8_taken_73
          · have h := itT c15 h
            refine y_aload_n C dX8_taken_57 rfl ?_
            obtain ⟨q16, hq16, h⟩ := ob h
            refine y_getr C fl_X8_19 g13 hq16 dX8_taken_58 ?_
            refine y_iload_n C dX8_taken_61 rfl ?_
            refine y_bipush C dX8_taken_62 kb_12 ?_
            refine y_isub C dX8_taken_64 ?_
            obtain ⟨g17, h⟩ := gd h
            refine y_iald C g17 dX8_taken_65 ?_
            refine y_i2l C dX8_taken_66 rfl ?_
            refine y_goto C dX8_taken_67 (tgt := 73) rfl ?_
            have e0 := Option.some.inj h
            subst e0
            exact y_lret C E (Nat.zero_le _) (Nat.zero_le _) dX8_taken_73
        · have h := itF c14 h
          refine y_ldc2 C wd_1320 dX8_taken_45 ?_
          refine y_goto C dX8_taken_48 (tgt := 73) rfl ?_
          have e0 := Option.some.inj h
          subst e0
          exact y_lret C E (Nat.zero_le _) (Nat.zero_le _) dX8_taken_73
    · have h := itFb c4 h
      refine y_ldc2 C wd_1319 dX8_taken_24 ?_
      have e0 := Option.some.inj h
      subst e0
      exact y_lret C E (Nat.zero_le _) (Nat.zero_le _) dX8_taken_27
  · have h := itFb c2 h
    refine y_ldc2 C wd_1318 dX8_taken_10 ?_
    have e0 := Option.some.inj h
    subst e0
    exact y_lret C E (Nat.zero_le _) (Nat.zero_le _) dX8_taken_13
set_option maxRecDepth 100000 in
def b_X8_told (K : yK) (M : yM) (t : Nat) (x1 : Int32) (x2 : Int32) : Option Int32 := (if gO K t 7 = true then (Option.bind (b_X8_isEntry K M t x1) fun r2 => (if r2 = true then (if x2 = (0 : Int32) then (Option.bind (K.2.2 t 1) fun q12 => (if gA K q12 x1 = true then (some (M q12 (x1).toNatClampNeg)) else none)) else (if x2 = (1 : Int32) then (Option.bind (K.2.2 t 2) fun q14 => (if gA K q14 x1 = true then (some (M q14 (x1).toNatClampNeg)) else none)) else (if x2 = (2 : Int32) then (Option.bind (K.2.2 t 3) fun q16 => (if gA K q16 ((((3 : Int32) * x1) + x2) - (2 : Int32)) = true then (some (M q16 (((((3 : Int32) * x1) + x2) - (2 : Int32))).toNatClampNeg)) else none)) else (if x2 = (3 : Int32) then (Option.bind (K.2.2 t 3) fun q18 => (if gA K q18 ((((3 : Int32) * x1) + x2) - (2 : Int32)) = true then (some (M q18 (((((3 : Int32) * x1) + x2) - (2 : Int32))).toNatClampNeg)) else none)) else (if x2 = (4 : Int32) then (Option.bind (K.2.2 t 3) fun q20 => (if gA K q20 ((((3 : Int32) * x1) + x2) - (2 : Int32)) = true then (some (M q20 (((((3 : Int32) * x1) + x2) - (2 : Int32))).toNatClampNeg)) else none)) else (if x2 = (5 : Int32) then (Option.bind (b_X8_takesOf K M t x1) fun r22 => (some r22)) else (if x2 = (6 : Int32) then (Option.bind (b_X8_firstPage K M t x1) fun r23 => (some r23)) else (if x2 = (7 : Int32) then (Option.bind (b_X8_needsOn K M t x1) fun r24 => (if r24 = true then (some (1 : Int32)) else (some (0 : Int32)))) else (some (-7 : Int32)))))))))) else (some (-5 : Int32)))) else none)
set_option maxHeartbeats 4000000 in
set_option maxRecDepth 100000 in
theorem m_X8_told (K : yK) (M : yM) (t : Nat) (x1 : Int32) (x2 : Int32) : yMet yX8_told cX8_told 3 (Option.some Jvm.ClassFile.FieldType.int) rm_X8_told K M [.ref t, .int x1, .int x2] (b_X8_told K M t x1 x2) (yFi K M) := by
  refine yM_intro (by decide) (Nat.le_of_ble_eq_true rfl) (fun X r h C E => ?_)
  replace C : yCx X cX8_told RX8 "told" rm_X8_told 3 := C
  show Y X K M 0 0 0 [(0, .ref t), (1, .int x1), (2, .int x2)] []
  unfold b_X8_told at h
  refine y_aload_n C dX8_told_0 rfl ?_
  refine y_iload_n C dX8_told_1 rfl ?_
  obtain ⟨g1, h⟩ := gd h
  obtain ⟨r2, hr2, h⟩ := ob h
  refine y_cV C [.int x1] (m_X8_isEntry K M t x1) hr2 g1 cw_X8_201 rfl (by decide) ⟨rfl, rfl⟩ ⟨Nat.zero_le _, Nat.zero_le _⟩ (Nat.le_of_ble_eq_true rfl) rfl rfl rfl dX8_told_2 ?_
  refine y_ifneB C dX8_told_5 (tgt := 11) rfl (fun c3 => ?_) (fun c3 => ?_)
  · have h := itT c3 h
    refine y_iload_n C dX8_told_11 rfl ?_
    rcases Classical.em (x2 = (0 : Int32)) with c4 | c4
    · have h := itT c4 h
      refine y_tabIn C dX8_told_12 (off := 48) (tgt := 60) (by rw [c4]; decide) (by rw [c4]; decide) (by rw [c4]; rfl) rfl ?_
      refine y_aload_n C dX8_told_60 rfl ?_
      obtain ⟨q12, hq12, h⟩ := ob h
      refine y_getr C fl_X8_7 g1 hq12 dX8_told_61 ?_
      refine y_iload_n C dX8_told_64 rfl ?_
      obtain ⟨g13, h⟩ := gd h
      refine y_iald C g13 dX8_told_65 ?_
      have e0 := Option.some.inj h
      subst e0
      exact y_iret C E (Nat.zero_le _) (Nat.zero_le _) dX8_told_66
    replace h := itF c4 h
    rcases Classical.em (x2 = (1 : Int32)) with c5 | c5
    · have h := itT c5 h
      refine y_tabIn C dX8_told_12 (off := 55) (tgt := 67) (by rw [c5]; decide) (by rw [c5]; decide) (by rw [c5]; rfl) rfl ?_
      refine y_aload_n C dX8_told_67 rfl ?_
      obtain ⟨q14, hq14, h⟩ := ob h
      refine y_getr C fl_X8_13 g1 hq14 dX8_told_68 ?_
      refine y_iload_n C dX8_told_71 rfl ?_
      obtain ⟨g15, h⟩ := gd h
      refine y_iald C g15 dX8_told_72 ?_
      have e0 := Option.some.inj h
      subst e0
      exact y_iret C E (Nat.zero_le _) (Nat.zero_le _) dX8_told_73
    replace h := itF c5 h
    rcases Classical.em (x2 = (2 : Int32)) with c6 | c6
    · have h := itT c6 h
      refine y_tabIn C dX8_told_12 (off := 62) (tgt := 74) (by rw [c6]; decide) (by rw [c6]; decide) (by rw [c6]; rfl) rfl ?_
      refine y_aload_n C dX8_told_74 rfl ?_
      obtain ⟨q16, hq16, h⟩ := ob h
      refine y_getr C fl_X8_16 g1 hq16 dX8_told_75 ?_
      refine y_iconst C dX8_told_78 kc_3 ?_
      refine y_iload_n C dX8_told_79 rfl ?_
      refine y_imul C dX8_told_80 ?_
      refine y_iload_n C dX8_told_81 rfl ?_
      refine y_iadd C dX8_told_82 ?_
      refine y_iconst C dX8_told_83 kc_2 ?_
      refine y_isub C dX8_told_84 ?_
      obtain ⟨g17, h⟩ := gd h
      refine y_iald C g17 dX8_told_85 ?_
      have e0 := Option.some.inj h
      subst e0
      exact y_iret C E (Nat.zero_le _) (Nat.zero_le _) dX8_told_86
    replace h := itF c6 h
    rcases Classical.em (x2 = (3 : Int32)) with c7 | c7
    · have h := itT c7 h
      refine y_tabIn C dX8_told_12 (off := 62) (tgt := 74) (by rw [c7]; decide) (by rw [c7]; decide) (by rw [c7]; rfl) rfl ?_
      refine y_aload_n C dX8_told_74 rfl ?_
      obtain ⟨q18, hq18, h⟩ := ob h
      refine y_getr C fl_X8_16 g1 hq18 dX8_told_75 ?_
      refine y_iconst C dX8_told_78 kc_3 ?_
      refine y_iload_n C dX8_told_79 rfl ?_
      refine y_imul C dX8_told_80 ?_
      refine y_iload_n C dX8_told_81 rfl ?_
      refine y_iadd C dX8_told_82 ?_
      refine y_iconst C dX8_told_83 kc_2 ?_
      refine y_isub C dX8_told_84 ?_
      obtain ⟨g19, h⟩ := gd h
      refine y_iald C g19 dX8_told_85 ?_
      have e0 := Option.some.inj h
      subst e0
      exact y_iret C E (Nat.zero_le _) (Nat.zero_le _) dX8_told_86
    replace h := itF c7 h
    rcases Classical.em (x2 = (4 : Int32)) with c8 | c8
    · have h := itT c8 h
      refine y_tabIn C dX8_told_12 (off := 62) (tgt := 74) (by rw [c8]; decide) (by rw [c8]; decide) (by rw [c8]; rfl) rfl ?_
      refine y_aload_n C dX8_told_74 rfl ?_
      obtain ⟨q20, hq20, h⟩ := ob h
      refine y_getr C fl_X8_16 g1 hq20 dX8_told_75 ?_
      refine y_iconst C dX8_told_78 kc_3 ?_
      refine y_iload_n C dX8_told_79 rfl ?_
      refine y_imul C dX8_told_80 ?_
      refine y_iload_n C dX8_told_81 rfl ?_
      refine y_iadd C dX8_told_82 ?_
      refine y_iconst C dX8_told_83 kc_2 ?_
      refine y_isub C dX8_told_84 ?_
      obtain ⟨g21, h⟩ := gd h
      refine y_iald C g21 dX8_told_85 ?_
      have e0 := Option.some.inj h
      subst e0
      exact y_iret C E (Nat.zero_le _) (Nat.zero_le _) dX8_told_86
    replace h := itF c8 h
    rcases Classical.em (x2 = (5 : Int32)) with c9 | c9
    · have h := itT c9 h
      refine y_tabIn C dX8_told_12 (off := 75) (tgt := 87) (by rw [c9]; decide) (by rw [c9]; decide) (by rw [c9]; rfl) rfl ?_
      refine y_aload_n C dX8_told_87 rfl ?_
      refine y_iload_n C dX8_told_88 rfl ?_
      obtain ⟨r22, hr22, h⟩ := ob h
      refine y_cV C [.int x1] (m_X8_takesOf K M t x1) hr22 g1 cw_X8_97 rfl (by decide) ⟨rfl, rfl⟩ ⟨Nat.zero_le _, Nat.zero_le _⟩ (Nat.le_of_ble_eq_true rfl) rfl rfl rfl dX8_told_89 ?_
      have e0 := Option.some.inj h
      subst e0
      exact y_iret C E (Nat.zero_le _) (Nat.zero_le _) dX8_told_92
    replace h := itF c9 h
    rcases Classical.em (x2 = (6 : Int32)) with c10 | c10
    · have h := itT c10 h
      refine y_tabIn C dX8_told_12 (off := 81) (tgt := 93) (by rw [c10]; decide) (by rw [c10]; decide) (by rw [c10]; rfl) rfl ?_
      refine y_aload_n C dX8_told_93 rfl ?_
      refine y_iload_n C dX8_told_94 rfl ?_
      obtain ⟨r23, hr23, h⟩ := ob h
      refine y_cV C [.int x1] (m_X8_firstPage K M t x1) hr23 g1 cw_X8_101 rfl (by decide) ⟨rfl, rfl⟩ ⟨Nat.zero_le _, Nat.zero_le _⟩ (Nat.le_of_ble_eq_true rfl) rfl rfl rfl dX8_told_95 ?_
      have e0 := Option.some.inj h
      subst e0
      exact y_iret C E (Nat.zero_le _) (Nat.zero_le _) dX8_told_98
    replace h := itF c10 h
    rcases Classical.em (x2 = (7 : Int32)) with c11 | c11
    · have h := itT c11 h
      refine y_tabIn C dX8_told_12 (off := 87) (tgt := 99) (by rw [c11]; decide) (by rw [c11]; decide) (by rw [c11]; rfl) rfl ?_
      refine y_aload_n C dX8_told_99 rfl ?_
      refine y_iload_n C dX8_told_100 rfl ?_
      obtain ⟨r24, hr24, h⟩ := ob h
      refine y_cV C [.int x1] (m_X8_needsOn K M t x1) hr24 g1 cw_X8_208 rfl (by decide) ⟨rfl, rfl⟩ ⟨Nat.zero_le _, Nat.zero_le _⟩ (Nat.le_of_ble_eq_true rfl) rfl rfl rfl dX8_told_101 ?_
      refine y_ifeqB C dX8_told_104 (tgt := 111) rfl (fun c25 => ?_) (fun c25 => ?_)
      · have h := itFb c25 h
        refine y_iconst C dX8_told_111 kc_0 ?_
        have e0 := Option.some.inj h
        subst e0
        exact y_iret C E (Nat.zero_le _) (Nat.zero_le _) dX8_told_112
      · have h := itT c25 h
        refine y_iconst C dX8_told_107 kc_1 ?_
        refine y_goto C dX8_told_108 (tgt := 112) rfl ?_
        have e0 := Option.some.inj h
        subst e0
        exact y_iret C E (Nat.zero_le _) (Nat.zero_le _) dX8_told_112
    replace h := itF c11 h
    refine y_tabOut C dX8_told_12 (tgt := 113) (by have q0 : (x2).toInt ≠ 0 := yNe c4; have q1 : (x2).toInt ≠ 1 := yNe c5; have q2 : (x2).toInt ≠ 2 := yNe c6; have q3 : (x2).toInt ≠ 3 := yNe c7; have q4 : (x2).toInt ≠ 4 := yNe c8; have q5 : (x2).toInt ≠ 5 := yNe c9; have q6 : (x2).toInt ≠ 6 := yNe c10; have q7 : (x2).toInt ≠ 7 := yNe c11; omega) rfl ?_
    refine y_bipush C dX8_told_113 kb_m7 ?_
    have e0 := Option.some.inj h
    subst e0
    exact y_iret C E (Nat.zero_le _) (Nat.zero_le _) dX8_told_115
  · have h := itFb c3 h
    refine y_bipush C dX8_told_8 kb_m5 ?_
    have e0 := Option.some.inj h
    subst e0
    exact y_iret C E (Nat.zero_le _) (Nat.zero_le _) dX8_told_10
set_option maxRecDepth 100000 in
def b_X8_when (K : yK) (M : yM) (t : Nat) (x1 : Int32) (x2 : Int32) (x3 : Int32) : Option (Int32 × yM) := (if x1 = 0 then (if x1 = 0 then (if gO K t 7 = true then (Option.bind (b_X8_isEntry K M t x2) fun r19 => (if r19 = true then (Option.bind (b_X8_in K M x3 ((0 : Int32)) ((60 : Int32))) fun r21 => (if r21 = true then (Option.bind (if x1 = 0 then (some x2) else (some (-1 : Int32))) fun j24 => (Option.bind (some (yS M t 50 j24)) fun M25 => (Option.bind (if x1 = (1 : Int32) then (some x2) else (some (-1 : Int32))) fun j27 => (Option.bind (some (yS M25 t 49 j27)) fun M28 => (Option.bind (b_X8_goes K M28 t x3) fun r29 => (Option.bind (some (yS r29.2 t 50 (-1 : Int32))) fun M30 => (Option.bind (some (yS M30 t 49 (-1 : Int32))) fun M31 => (if x1 = 0 then (some ((M31 t 48), M31)) else (some ((M31 t 47), M31)))))))))) else (some ((-7 : Int32), M)))) else (some ((-5 : Int32), M)))) else none) else (if gO K t 7 = true then (Option.bind (b_X8_isDeed K M t x2) fun r4 => (if r4 = true then (Option.bind (b_X8_in K M x3 ((0 : Int32)) ((60 : Int32))) fun r6 => (if r6 = true then (Option.bind (if x1 = 0 then (some x2) else (some (-1 : Int32))) fun j9 => (Option.bind (some (yS M t 50 j9)) fun M10 => (Option.bind (if x1 = (1 : Int32) then (some x2) else (some (-1 : Int32))) fun j12 => (Option.bind (some (yS M10 t 49 j12)) fun M13 => (Option.bind (b_X8_goes K M13 t x3) fun r14 => (Option.bind (some (yS r14.2 t 50 (-1 : Int32))) fun M15 => (Option.bind (some (yS M15 t 49 (-1 : Int32))) fun M16 => (if x1 = 0 then (some ((M16 t 48), M16)) else (some ((M16 t 47), M16)))))))))) else (some ((-7 : Int32), M)))) else (some ((-5 : Int32), M)))) else none)) else (if x1 = (1 : Int32) then (if x1 = 0 then (if gO K t 7 = true then (Option.bind (b_X8_isEntry K M t x2) fun r51 => (if r51 = true then (Option.bind (b_X8_in K M x3 ((0 : Int32)) ((60 : Int32))) fun r53 => (if r53 = true then (Option.bind (if x1 = 0 then (some x2) else (some (-1 : Int32))) fun j56 => (Option.bind (some (yS M t 50 j56)) fun M57 => (Option.bind (if x1 = (1 : Int32) then (some x2) else (some (-1 : Int32))) fun j59 => (Option.bind (some (yS M57 t 49 j59)) fun M60 => (Option.bind (b_X8_goes K M60 t x3) fun r61 => (Option.bind (some (yS r61.2 t 50 (-1 : Int32))) fun M62 => (Option.bind (some (yS M62 t 49 (-1 : Int32))) fun M63 => (if x1 = 0 then (some ((M63 t 48), M63)) else (some ((M63 t 47), M63)))))))))) else (some ((-7 : Int32), M)))) else (some ((-5 : Int32), M)))) else none) else (if gO K t 7 = true then (Option.bind (b_X8_isDeed K M t x2) fun r36 => (if r36 = true then (Option.bind (b_X8_in K M x3 ((0 : Int32)) ((60 : Int32))) fun r38 => (if r38 = true then (Option.bind (if x1 = 0 then (some x2) else (some (-1 : Int32))) fun j41 => (Option.bind (some (yS M t 50 j41)) fun M42 => (Option.bind (if x1 = (1 : Int32) then (some x2) else (some (-1 : Int32))) fun j44 => (Option.bind (some (yS M42 t 49 j44)) fun M45 => (Option.bind (b_X8_goes K M45 t x3) fun r46 => (Option.bind (some (yS r46.2 t 50 (-1 : Int32))) fun M47 => (Option.bind (some (yS M47 t 49 (-1 : Int32))) fun M48 => (if x1 = 0 then (some ((M48 t 48), M48)) else (some ((M48 t 47), M48)))))))))) else (some ((-7 : Int32), M)))) else (some ((-5 : Int32), M)))) else none)) else (some ((-5 : Int32), M))))
set_option maxHeartbeats 4000000 in
set_option maxRecDepth 100000 in
theorem m_X8_when (K : yK) (M : yM) (t : Nat) (x1 : Int32) (x2 : Int32) (x3 : Int32) : yMet yX8_when cX8_when 4 (Option.some Jvm.ClassFile.FieldType.int) rm_X8_when K M [.ref t, .int x1, .int x2, .int x3] (b_X8_when K M t x1 x2 x3) (yGi K) := by
  refine yM_intro (by decide) (Nat.le_of_ble_eq_true rfl) (fun X r h C E => ?_)
  replace C : yCx X cX8_when RX8 "when" rm_X8_when 4 := C
  show Y X K M 0 0 0 [(0, .ref t), (1, .int x1), (2, .int x2), (3, .int x3)] []
  unfold b_X8_when at h
  refine y_iload_n C dX8_when_0 rfl ?_
  refine y_if_eq C dX8_when_1 (tgt := 9) rfl (fun c1 => ?_) (fun c1 => ?_)
  · have h := itT c1 h
    refine y_iload_n C dX8_when_9 rfl ?_
    refine y_if_ne C dX8_when_10 (tgt := 24) rfl (fun c2 => ?_) (fun c2 => ?_)
    · have h := itF c2 h
      refine y_aload_n C dX8_when_24 rfl ?_
      refine y_iload_n C dX8_when_25 rfl ?_
      obtain ⟨g3, h⟩ := gd h
      obtain ⟨r4, hr4, h⟩ := ob h
      refine y_cV C [.int x2] (m_X8_isDeed K M t x2) hr4 g3 cw_X8_233 rfl (by decide) ⟨rfl, rfl⟩ ⟨Nat.zero_le _, Nat.zero_le _⟩ (Nat.le_of_ble_eq_true rfl) rfl rfl rfl dX8_when_26 ?_
      refine y_ifneB C dX8_when_29 (tgt := 35) rfl (fun c5 => ?_) (fun c5 => ?_)
      · have h := itT c5 h
        refine y_iload_n C dX8_when_35 rfl ?_
        refine y_iconst C dX8_when_36 kc_0 ?_
        refine y_bipush C dX8_when_37 kb_60 ?_
        obtain ⟨r6, hr6, h⟩ := ob h
        refine y_cS C [.int x3, .int (0 : Int32), .int (60 : Int32)] (m_X8_in K M x3 ((0 : Int32)) ((60 : Int32))) hr6 cw_X8_90 rfl (by decide) ⟨rfl, rfl⟩ ⟨Nat.zero_le _, Nat.zero_le _⟩ (Nat.le_of_ble_eq_true rfl) rfl rfl rfl dX8_when_39 ?_
        refine y_ifneB C dX8_when_42 (tgt := 48) rfl (fun c7 => ?_) (fun c7 => ?_)
        · have h := itT c7 h
          refine y_aload_n C dX8_when_48 rfl ?_
          refine y_iload_n C dX8_when_49 rfl ?_
          obtain ⟨j9, hj9, h⟩ := ob h
          have hJj9 : Y X K M 0 0 58 [(0, .ref t), (1, .int x1), (2, .int x2), (3, .int x3)] [.int j9, .ref t] := by
            obtain ⟨M10, eM10, h⟩ := ob h
            have eM10 := Option.some.inj eM10
            refine y_puti C fl_X8_77 rfl g3 rfl rfl dX8_when_58 eM10 ?_
            refine y_aload_n C dX8_when_61 rfl ?_
            refine y_iload_n C dX8_when_62 rfl ?_
            refine y_iconst C dX8_when_63 kc_1 ?_
            obtain ⟨j12, hj12, h⟩ := ob h
            have hJj12 : Y X K M10 0 0 72 [(0, .ref t), (1, .int x1), (3, .int x3)] [.int j12, .ref t] := by
              obtain ⟨M13, eM13, h⟩ := ob h
              have eM13 := Option.some.inj eM13
              refine y_puti C fl_X8_74 rfl g3 rfl rfl dX8_when_72 eM13 ?_
              refine y_aload_n C dX8_when_75 rfl ?_
              refine y_iload_n C dX8_when_76 rfl ?_
              obtain ⟨r14, hr14, h⟩ := ob h
              refine y_cV C [.int x3] (m_X8_goes K M13 t x3) hr14 g3 cw_X8_284 rfl (by decide) ⟨rfl, rfl⟩ ⟨Nat.zero_le _, Nat.zero_le _⟩ (Nat.le_of_ble_eq_true rfl) rfl rfl rfl dX8_when_77 ?_
              refine y_pop C dX8_when_80 rfl ?_
              refine y_aload_n C dX8_when_81 rfl ?_
              refine y_iconst C dX8_when_82 kc_m1 ?_
              obtain ⟨M15, eM15, h⟩ := ob h
              have eM15 := Option.some.inj eM15
              refine y_puti C fl_X8_77 rfl g3 rfl rfl dX8_when_83 eM15 ?_
              refine y_aload_n C dX8_when_86 rfl ?_
              refine y_iconst C dX8_when_87 kc_m1 ?_
              obtain ⟨M16, eM16, h⟩ := ob h
              have eM16 := Option.some.inj eM16
              refine y_puti C fl_X8_74 rfl g3 rfl rfl dX8_when_88 eM16 ?_
              refine y_iload_n C dX8_when_91 rfl ?_
              refine y_if_ne C dX8_when_92 (tgt := 102) rfl (fun c17 => ?_) (fun c17 => ?_)
              · have h := itF c17 h
                refine y_aload_n C dX8_when_102 rfl ?_
                refine y_geti C fl_X8_266 g3 dX8_when_103 ?_
                have e0 := Option.some.inj h
                subst e0
                exact y_iret C E (Nat.zero_le _) (Nat.zero_le _) dX8_when_106
              · have h := itT c17 h
                refine y_aload_n C dX8_when_95 rfl ?_
                refine y_geti C fl_X8_269 g3 dX8_when_96 ?_
                refine y_goto C dX8_when_99 (tgt := 106) rfl ?_
                have e0 := Option.some.inj h
                subst e0
                exact y_iret C E (Nat.zero_le _) (Nat.zero_le _) dX8_when_106
            replace h := hj12
            refine y_icmp_ne C dX8_when_64 (tgt := 71) rfl (fun c11 => ?_) (fun c11 => ?_)
            · have h := itF c11 h
              refine y_iconst C dX8_when_71 kc_m1 ?_
              have e0 := Option.some.inj h
              subst e0
              exact y_sel [0, 1, 3] rfl hJj12
            · have h := itT c11 h
              refine y_iload_n C dX8_when_67 rfl ?_
              refine y_goto C dX8_when_68 (tgt := 72) rfl ?_
              have e0 := Option.some.inj h
              subst e0
              exact y_sel [0, 1, 3] rfl hJj12
          replace h := hj9
          refine y_if_ne C dX8_when_50 (tgt := 57) rfl (fun c8 => ?_) (fun c8 => ?_)
          · have h := itF c8 h
            refine y_iconst C dX8_when_57 kc_m1 ?_
            have e0 := Option.some.inj h
            subst e0
            exact y_sel [0, 1, 2, 3] rfl hJj9
          · have h := itT c8 h
            refine y_iload_n C dX8_when_53 rfl ?_
            refine y_goto C dX8_when_54 (tgt := 58) rfl ?_
            have e0 := Option.some.inj h
            subst e0
            exact y_sel [0, 1, 2, 3] rfl hJj9
        · have h := itFb c7 h
          refine y_bipush C dX8_when_45 kb_m7 ?_
          have e0 := Option.some.inj h
          subst e0
          exact y_iret C E (Nat.zero_le _) (Nat.zero_le _) dX8_when_47
      · have h := itFb c5 h
        refine y_bipush C dX8_when_32 kb_m5 ?_
        have e0 := Option.some.inj h
        subst e0
        exact y_iret C E (Nat.zero_le _) (Nat.zero_le _) dX8_when_34
    · have h := itT c2 h
      refine y_aload_n C dX8_when_13 rfl ?_
      refine y_iload_n C dX8_when_14 rfl ?_
      obtain ⟨g18, h⟩ := gd h
      obtain ⟨r19, hr19, h⟩ := ob h
      refine y_cV C [.int x2] (m_X8_isEntry K M t x2) hr19 g18 cw_X8_201 rfl (by decide) ⟨rfl, rfl⟩ ⟨Nat.zero_le _, Nat.zero_le _⟩ (Nat.le_of_ble_eq_true rfl) rfl rfl rfl dX8_when_15 ?_
      refine y_ifneB C dX8_when_18 (tgt := 35) rfl (fun c20 => ?_) (fun c20 => ?_)
      · have h := itT c20 h
        refine y_iload_n C dX8_when_35 rfl ?_
        refine y_iconst C dX8_when_36 kc_0 ?_
        refine y_bipush C dX8_when_37 kb_60 ?_
        obtain ⟨r21, hr21, h⟩ := ob h
        refine y_cS C [.int x3, .int (0 : Int32), .int (60 : Int32)] (m_X8_in K M x3 ((0 : Int32)) ((60 : Int32))) hr21 cw_X8_90 rfl (by decide) ⟨rfl, rfl⟩ ⟨Nat.zero_le _, Nat.zero_le _⟩ (Nat.le_of_ble_eq_true rfl) rfl rfl rfl dX8_when_39 ?_
        refine y_ifneB C dX8_when_42 (tgt := 48) rfl (fun c22 => ?_) (fun c22 => ?_)
        · have h := itT c22 h
          refine y_aload_n C dX8_when_48 rfl ?_
          refine y_iload_n C dX8_when_49 rfl ?_
          obtain ⟨j24, hj24, h⟩ := ob h
          have hJj24 : Y X K M 0 0 58 [(0, .ref t), (1, .int x1), (2, .int x2), (3, .int x3)] [.int j24, .ref t] := by
            obtain ⟨M25, eM25, h⟩ := ob h
            have eM25 := Option.some.inj eM25
            refine y_puti C fl_X8_77 rfl g18 rfl rfl dX8_when_58 eM25 ?_
            refine y_aload_n C dX8_when_61 rfl ?_
            refine y_iload_n C dX8_when_62 rfl ?_
            refine y_iconst C dX8_when_63 kc_1 ?_
            obtain ⟨j27, hj27, h⟩ := ob h
            have hJj27 : Y X K M25 0 0 72 [(0, .ref t), (1, .int x1), (3, .int x3)] [.int j27, .ref t] := by
              obtain ⟨M28, eM28, h⟩ := ob h
              have eM28 := Option.some.inj eM28
              refine y_puti C fl_X8_74 rfl g18 rfl rfl dX8_when_72 eM28 ?_
              refine y_aload_n C dX8_when_75 rfl ?_
              refine y_iload_n C dX8_when_76 rfl ?_
              obtain ⟨r29, hr29, h⟩ := ob h
              refine y_cV C [.int x3] (m_X8_goes K M28 t x3) hr29 g18 cw_X8_284 rfl (by decide) ⟨rfl, rfl⟩ ⟨Nat.zero_le _, Nat.zero_le _⟩ (Nat.le_of_ble_eq_true rfl) rfl rfl rfl dX8_when_77 ?_
              refine y_pop C dX8_when_80 rfl ?_
              refine y_aload_n C dX8_when_81 rfl ?_
              refine y_iconst C dX8_when_82 kc_m1 ?_
              obtain ⟨M30, eM30, h⟩ := ob h
              have eM30 := Option.some.inj eM30
              refine y_puti C fl_X8_77 rfl g18 rfl rfl dX8_when_83 eM30 ?_
              refine y_aload_n C dX8_when_86 rfl ?_
              refine y_iconst C dX8_when_87 kc_m1 ?_
              obtain ⟨M31, eM31, h⟩ := ob h
              have eM31 := Option.some.inj eM31
              refine y_puti C fl_X8_74 rfl g18 rfl rfl dX8_when_88 eM31 ?_
              refine y_iload_n C dX8_when_91 rfl ?_
              refine y_if_ne C dX8_when_92 (tgt := 102) rfl (fun c32 => ?_) (fun c32 => ?_)
              · have h := itF c32 h
                refine y_aload_n C dX8_when_102 rfl ?_
                refine y_geti C fl_X8_266 g18 dX8_when_103 ?_
                have e0 := Option.some.inj h
                subst e0
                exact y_iret C E (Nat.zero_le _) (Nat.zero_le _) dX8_when_106
              · have h := itT c32 h
                refine y_aload_n C dX8_when_95 rfl ?_
                refine y_geti C fl_X8_269 g18 dX8_when_96 ?_
                refine y_goto C dX8_when_99 (tgt := 106) rfl ?_
                have e0 := Option.some.inj h
                subst e0
                exact y_iret C E (Nat.zero_le _) (Nat.zero_le _) dX8_when_106
            replace h := hj27
            refine y_icmp_ne C dX8_when_64 (tgt := 71) rfl (fun c26 => ?_) (fun c26 => ?_)
            · have h := itF c26 h
              refine y_iconst C dX8_when_71 kc_m1 ?_
              have e0 := Option.some.inj h
              subst e0
              exact y_sel [0, 1, 3] rfl hJj27
            · have h := itT c26 h
              refine y_iload_n C dX8_when_67 rfl ?_
              refine y_goto C dX8_when_68 (tgt := 72) rfl ?_
              have e0 := Option.some.inj h
              subst e0
              exact y_sel [0, 1, 3] rfl hJj27
          replace h := hj24
          refine y_if_ne C dX8_when_50 (tgt := 57) rfl (fun c23 => ?_) (fun c23 => ?_)
          · have h := itF c23 h
            refine y_iconst C dX8_when_57 kc_m1 ?_
            have e0 := Option.some.inj h
            subst e0
            exact y_sel [0, 1, 2, 3] rfl hJj24
          · have h := itT c23 h
            refine y_iload_n C dX8_when_53 rfl ?_
            refine y_goto C dX8_when_54 (tgt := 58) rfl ?_
            have e0 := Option.some.inj h
            subst e0
            exact y_sel [0, 1, 2, 3] rfl hJj24
        · have h := itFb c22 h
          refine y_bipush C dX8_when_45 kb_m7 ?_
          have e0 := Option.some.inj h
          subst e0
          exact y_iret C E (Nat.zero_le _) (Nat.zero_le _) dX8_when_47
      · have h := itFb c20 h
        refine y_goto C dX8_when_21 (tgt := 32) rfl ?_
        refine y_bipush C dX8_when_32 kb_m5 ?_
        have e0 := Option.some.inj h
        subst e0
        exact y_iret C E (Nat.zero_le _) (Nat.zero_le _) dX8_when_34
  · have h := itF c1 h
    refine y_iload_n C dX8_when_4 rfl ?_
    refine y_iconst C dX8_when_5 kc_1 ?_
    refine y_icmp_ne C dX8_when_6 (tgt := 32) rfl (fun c33 => ?_) (fun c33 => ?_)
    · have h := itF c33 h
      refine y_bipush C dX8_when_32 kb_m5 ?_
      have e0 := Option.some.inj h
      subst e0
      exact y_iret C E (Nat.zero_le _) (Nat.zero_le _) dX8_when_34
    · have h := itT c33 h
      refine y_iload_n C dX8_when_9 rfl ?_
      refine y_if_ne C dX8_when_10 (tgt := 24) rfl (fun c34 => ?_) (fun c34 => ?_)
      · have h := itF c34 h
        refine y_aload_n C dX8_when_24 rfl ?_
        refine y_iload_n C dX8_when_25 rfl ?_
        obtain ⟨g35, h⟩ := gd h
        obtain ⟨r36, hr36, h⟩ := ob h
        refine y_cV C [.int x2] (m_X8_isDeed K M t x2) hr36 g35 cw_X8_233 rfl (by decide) ⟨rfl, rfl⟩ ⟨Nat.zero_le _, Nat.zero_le _⟩ (Nat.le_of_ble_eq_true rfl) rfl rfl rfl dX8_when_26 ?_
        refine y_ifneB C dX8_when_29 (tgt := 35) rfl (fun c37 => ?_) (fun c37 => ?_)
        · have h := itT c37 h
          refine y_iload_n C dX8_when_35 rfl ?_
          refine y_iconst C dX8_when_36 kc_0 ?_
          refine y_bipush C dX8_when_37 kb_60 ?_
          obtain ⟨r38, hr38, h⟩ := ob h
          refine y_cS C [.int x3, .int (0 : Int32), .int (60 : Int32)] (m_X8_in K M x3 ((0 : Int32)) ((60 : Int32))) hr38 cw_X8_90 rfl (by decide) ⟨rfl, rfl⟩ ⟨Nat.zero_le _, Nat.zero_le _⟩ (Nat.le_of_ble_eq_true rfl) rfl rfl rfl dX8_when_39 ?_
          refine y_ifneB C dX8_when_42 (tgt := 48) rfl (fun c39 => ?_) (fun c39 => ?_)
          · have h := itT c39 h
            refine y_aload_n C dX8_when_48 rfl ?_
            refine y_iload_n C dX8_when_49 rfl ?_
            obtain ⟨j41, hj41, h⟩ := ob h
            have hJj41 : Y X K M 0 0 58 [(0, .ref t), (1, .int x1), (2, .int x2), (3, .int x3)] [.int j41, .ref t] := by
              obtain ⟨M42, eM42, h⟩ := ob h
              have eM42 := Option.some.inj eM42
              refine y_puti C fl_X8_77 rfl g35 rfl rfl dX8_when_58 eM42 ?_
              refine y_aload_n C dX8_when_61 rfl ?_
              refine y_iload_n C dX8_when_62 rfl ?_
              refine y_iconst C dX8_when_63 kc_1 ?_
              obtain ⟨j44, hj44, h⟩ := ob h
              have hJj44 : Y X K M42 0 0 72 [(0, .ref t), (1, .int x1), (3, .int x3)] [.int j44, .ref t] := by
                obtain ⟨M45, eM45, h⟩ := ob h
                have eM45 := Option.some.inj eM45
                refine y_puti C fl_X8_74 rfl g35 rfl rfl dX8_when_72 eM45 ?_
                refine y_aload_n C dX8_when_75 rfl ?_
                refine y_iload_n C dX8_when_76 rfl ?_
                obtain ⟨r46, hr46, h⟩ := ob h
                refine y_cV C [.int x3] (m_X8_goes K M45 t x3) hr46 g35 cw_X8_284 rfl (by decide) ⟨rfl, rfl⟩ ⟨Nat.zero_le _, Nat.zero_le _⟩ (Nat.le_of_ble_eq_true rfl) rfl rfl rfl dX8_when_77 ?_
                refine y_pop C dX8_when_80 rfl ?_
                refine y_aload_n C dX8_when_81 rfl ?_
                refine y_iconst C dX8_when_82 kc_m1 ?_
                obtain ⟨M47, eM47, h⟩ := ob h
                have eM47 := Option.some.inj eM47
                refine y_puti C fl_X8_77 rfl g35 rfl rfl dX8_when_83 eM47 ?_
                refine y_aload_n C dX8_when_86 rfl ?_
                refine y_iconst C dX8_when_87 kc_m1 ?_
                obtain ⟨M48, eM48, h⟩ := ob h
                have eM48 := Option.some.inj eM48
                refine y_puti C fl_X8_74 rfl g35 rfl rfl dX8_when_88 eM48 ?_
                refine y_iload_n C dX8_when_91 rfl ?_
                refine y_if_ne C dX8_when_92 (tgt := 102) rfl (fun c49 => ?_) (fun c49 => ?_)
                · have h := itF c49 h
                  refine y_aload_n C dX8_when_102 rfl ?_
                  refine y_geti C fl_X8_266 g35 dX8_when_103 ?_
                  have e0 := Option.some.inj h
                  subst e0
                  exact y_iret C E (Nat.zero_le _) (Nat.zero_le _) dX8_when_106
                · have h := itT c49 h
                  refine y_aload_n C dX8_when_95 rfl ?_
                  refine y_geti C fl_X8_269 g35 dX8_when_96 ?_
                  refine y_goto C dX8_when_99 (tgt := 106) rfl ?_
                  have e0 := Option.some.inj h
                  subst e0
                  exact y_iret C E (Nat.zero_le _) (Nat.zero_le _) dX8_when_106
              replace h := hj44
              refine y_icmp_ne C dX8_when_64 (tgt := 71) rfl (fun c43 => ?_) (fun c43 => ?_)
              · have h := itF c43 h
                refine y_iconst C dX8_when_71 kc_m1 ?_
                have e0 := Option.some.inj h
                subst e0
                exact y_sel [0, 1, 3] rfl hJj44
              · have h := itT c43 h
                refine y_iload_n C dX8_when_67 rfl ?_
                refine y_goto C dX8_when_68 (tgt := 72) rfl ?_
                have e0 := Option.some.inj h
                subst e0
                exact y_sel [0, 1, 3] rfl hJj44
            replace h := hj41
            refine y_if_ne C dX8_when_50 (tgt := 57) rfl (fun c40 => ?_) (fun c40 => ?_)
            · have h := itF c40 h
              refine y_iconst C dX8_when_57 kc_m1 ?_
              have e0 := Option.some.inj h
              subst e0
              exact y_sel [0, 1, 2, 3] rfl hJj41
            · have h := itT c40 h
              refine y_iload_n C dX8_when_53 rfl ?_
              refine y_goto C dX8_when_54 (tgt := 58) rfl ?_
              have e0 := Option.some.inj h
              subst e0
              exact y_sel [0, 1, 2, 3] rfl hJj41
          · have h := itFb c39 h
            refine y_bipush C dX8_when_45 kb_m7 ?_
            have e0 := Option.some.inj h
            subst e0
            exact y_iret C E (Nat.zero_le _) (Nat.zero_le _) dX8_when_47
        · have h := itFb c37 h
          refine y_bipush C dX8_when_32 kb_m5 ?_
          have e0 := Option.some.inj h
          subst e0
          exact y_iret C E (Nat.zero_le _) (Nat.zero_le _) dX8_when_34
      · have h := itT c34 h
        refine y_aload_n C dX8_when_13 rfl ?_
        refine y_iload_n C dX8_when_14 rfl ?_
        obtain ⟨g50, h⟩ := gd h
        obtain ⟨r51, hr51, h⟩ := ob h
        refine y_cV C [.int x2] (m_X8_isEntry K M t x2) hr51 g50 cw_X8_201 rfl (by decide) ⟨rfl, rfl⟩ ⟨Nat.zero_le _, Nat.zero_le _⟩ (Nat.le_of_ble_eq_true rfl) rfl rfl rfl dX8_when_15 ?_
        refine y_ifneB C dX8_when_18 (tgt := 35) rfl (fun c52 => ?_) (fun c52 => ?_)
        · have h := itT c52 h
          refine y_iload_n C dX8_when_35 rfl ?_
          refine y_iconst C dX8_when_36 kc_0 ?_
          refine y_bipush C dX8_when_37 kb_60 ?_
          obtain ⟨r53, hr53, h⟩ := ob h
          refine y_cS C [.int x3, .int (0 : Int32), .int (60 : Int32)] (m_X8_in K M x3 ((0 : Int32)) ((60 : Int32))) hr53 cw_X8_90 rfl (by decide) ⟨rfl, rfl⟩ ⟨Nat.zero_le _, Nat.zero_le _⟩ (Nat.le_of_ble_eq_true rfl) rfl rfl rfl dX8_when_39 ?_
          refine y_ifneB C dX8_when_42 (tgt := 48) rfl (fun c54 => ?_) (fun c54 => ?_)
          · have h := itT c54 h
            refine y_aload_n C dX8_when_48 rfl ?_
            refine y_iload_n C dX8_when_49 rfl ?_
            obtain ⟨j56, hj56, h⟩ := ob h
            have hJj56 : Y X K M 0 0 58 [(0, .ref t), (1, .int x1), (2, .int x2), (3, .int x3)] [.int j56, .ref t] := by
              obtain ⟨M57, eM57, h⟩ := ob h
              have eM57 := Option.some.inj eM57
              refine y_puti C fl_X8_77 rfl g50 rfl rfl dX8_when_58 eM57 ?_
              refine y_aload_n C dX8_when_61 rfl ?_
              refine y_iload_n C dX8_when_62 rfl ?_
              refine y_iconst C dX8_when_63 kc_1 ?_
              obtain ⟨j59, hj59, h⟩ := ob h
              have hJj59 : Y X K M57 0 0 72 [(0, .ref t), (1, .int x1), (3, .int x3)] [.int j59, .ref t] := by
                obtain ⟨M60, eM60, h⟩ := ob h
                have eM60 := Option.some.inj eM60
                refine y_puti C fl_X8_74 rfl g50 rfl rfl dX8_when_72 eM60 ?_
                refine y_aload_n C dX8_when_75 rfl ?_
                refine y_iload_n C dX8_when_76 rfl ?_
                obtain ⟨r61, hr61, h⟩ := ob h
                refine y_cV C [.int x3] (m_X8_goes K M60 t x3) hr61 g50 cw_X8_284 rfl (by decide) ⟨rfl, rfl⟩ ⟨Nat.zero_le _, Nat.zero_le _⟩ (Nat.le_of_ble_eq_true rfl) rfl rfl rfl dX8_when_77 ?_
                refine y_pop C dX8_when_80 rfl ?_
                refine y_aload_n C dX8_when_81 rfl ?_
                refine y_iconst C dX8_when_82 kc_m1 ?_
                obtain ⟨M62, eM62, h⟩ := ob h
                have eM62 := Option.some.inj eM62
                refine y_puti C fl_X8_77 rfl g50 rfl rfl dX8_when_83 eM62 ?_
                refine y_aload_n C dX8_when_86 rfl ?_
                refine y_iconst C dX8_when_87 kc_m1 ?_
                obtain ⟨M63, eM63, h⟩ := ob h
                have eM63 := Option.some.inj eM63
                refine y_puti C fl_X8_74 rfl g50 rfl rfl dX8_when_88 eM63 ?_
                refine y_iload_n C dX8_when_91 rfl ?_
                refine y_if_ne C dX8_when_92 (tgt := 102) rfl (fun c64 => ?_) (fun c64 => ?_)
                · have h := itF c64 h
                  refine y_aload_n C dX8_when_102 rfl ?_
                  refine y_geti C fl_X8_266 g50 dX8_when_103 ?_
                  have e0 := Option.some.inj h
                  subst e0
                  exact y_iret C E (Nat.zero_le _) (Nat.zero_le _) dX8_when_106
                · have h := itT c64 h
                  refine y_aload_n C dX8_when_95 rfl ?_
                  refine y_geti C fl_X8_269 g50 dX8_when_96 ?_
                  refine y_goto C dX8_when_99 (tgt := 106) rfl ?_
                  have e0 := Option.some.inj h
                  subst e0
                  exact y_iret C E (Nat.zero_le _) (Nat.zero_le _) dX8_when_106
              replace h := hj59
              refine y_icmp_ne C dX8_when_64 (tgt := 71) rfl (fun c58 => ?_) (fun c58 => ?_)
              · have h := itF c58 h
                refine y_iconst C dX8_when_71 kc_m1 ?_
                have e0 := Option.some.inj h
                subst e0
                exact y_sel [0, 1, 3] rfl hJj59
              · have h := itT c58 h
                refine y_iload_n C dX8_when_67 rfl ?_
                refine y_goto C dX8_when_68 (tgt := 72) rfl ?_
                have e0 := Option.some.inj h
                subst e0
                exact y_sel [0, 1, 3] rfl hJj59
            replace h := hj56
            refine y_if_ne C dX8_when_50 (tgt := 57) rfl (fun c55 => ?_) (fun c55 => ?_)
            · have h := itF c55 h
              refine y_iconst C dX8_when_57 kc_m1 ?_
              have e0 := Option.some.inj h
              subst e0
              exact y_sel [0, 1, 2, 3] rfl hJj56
            · have h := itT c55 h
              refine y_iload_n C dX8_when_53 rfl ?_
              refine y_goto C dX8_when_54 (tgt := 58) rfl ?_
              have e0 := Option.some.inj h
              subst e0
              exact y_sel [0, 1, 2, 3] rfl hJj56
          · have h := itFb c54 h
            refine y_bipush C dX8_when_45 kb_m7 ?_
            have e0 := Option.some.inj h
            subst e0
            exact y_iret C E (Nat.zero_le _) (Nat.zero_le _) dX8_when_47
        · have h := itFb c52 h
          refine y_goto C dX8_when_21 (tgt := 32) rfl ?_
          refine y_bipush C dX8_when_32 kb_m5 ?_
          have e0 := Option.some.inj h
          subst e0
          exact y_iret C E (Nat.zero_le _) (Nat.zero_le _) dX8_when_34
set_option maxRecDepth 100000 in
def b_X8_word (K : yK) (M : yM) (t : Nat) (x1 : Int32) (x2 : Int32) (x3 : Int32) : Option (Int32 × yM) := (Option.bind (b_X8_in K M x1 ((0 : Int32)) ((59 : Int32))) fun r1 => (if r1 = true then (Option.bind (b_X8_in K M x2 ((1 : Int32)) ((60 : Int32))) fun r3 => (if r3 = true then (Option.bind (b_X8_in K M x3 ((-1 : Int32)) ((11 : Int32))) fun r5 => (if r5 = true then (if gO K t 7 = true then (if (M t 0) = (12 : Int32) then (some ((-4 : Int32), M)) else (Option.bind (K.2.2 t 1) fun q9 => (if gA K q9 (M t 0) = true then (Option.bind (some (yS M q9 ((M t 0)).toNatClampNeg (x1 / (10 : Int32)))) fun M11 => (Option.bind (K.2.2 t 2) fun q12 => (if gA K q12 (M11 t 0) = true then (Option.bind (some (yS M11 q12 ((M11 t 0)).toNatClampNeg (x1 - x1 / (10 : Int32) * (10 : Int32)))) fun M14 => (Option.bind (K.2.2 t 3) fun q15 => (if gA K q15 ((3 : Int32) * (M14 t 0)) = true then (Option.bind (some (yS M14 q15 (((3 : Int32) * (M14 t 0))).toNatClampNeg x2)) fun M17 => (if gA K q15 (((3 : Int32) * (M17 t 0)) + (1 : Int32)) = true then (Option.bind (some (yS M17 q15 ((((3 : Int32) * (M17 t 0)) + (1 : Int32))).toNatClampNeg x3)) fun M19 => (if gA K q15 (((3 : Int32) * (M19 t 0)) + (2 : Int32)) = true then (Option.bind (some (yS M19 q15 ((((3 : Int32) * (M19 t 0)) + (2 : Int32))).toNatClampNeg (-1 : Int32))) fun M21 => (Option.bind (some (yS M21 t 0 ((M21 t 0) + (1 : Int32)))) fun M22 => (some (((M22 t 0) - (1 : Int32)), M22)))) else none)) else none)) else none))) else none))) else none))) else none) else (some ((-2 : Int32), M)))) else (some ((-2 : Int32), M)))) else (some ((-2 : Int32), M))))
set_option maxHeartbeats 4000000 in
set_option maxRecDepth 100000 in
theorem m_X8_word (K : yK) (M : yM) (t : Nat) (x1 : Int32) (x2 : Int32) (x3 : Int32) : yMet yX8_word cX8_word 4 (Option.some Jvm.ClassFile.FieldType.int) rm_X8_word K M [.ref t, .int x1, .int x2, .int x3] (b_X8_word K M t x1 x2 x3) (yGi K) := by
  refine yM_intro (by decide) (Nat.le_of_ble_eq_true rfl) (fun X r h C E => ?_)
  replace C : yCx X cX8_word RX8 "word" rm_X8_word 4 := C
  show Y X K M 0 0 0 [(0, .ref t), (1, .int x1), (2, .int x2), (3, .int x3)] []
  unfold b_X8_word at h
  refine y_iload_n C dX8_word_0 rfl ?_
  refine y_iconst C dX8_word_1 kc_0 ?_
  refine y_bipush C dX8_word_2 kb_59 ?_
  obtain ⟨r1, hr1, h⟩ := ob h
  refine y_cS C [.int x1, .int (0 : Int32), .int (59 : Int32)] (m_X8_in K M x1 ((0 : Int32)) ((59 : Int32))) hr1 cw_X8_90 rfl (by decide) ⟨rfl, rfl⟩ ⟨Nat.zero_le _, Nat.zero_le _⟩ (Nat.le_of_ble_eq_true rfl) rfl rfl rfl dX8_word_4 ?_
  refine y_ifeqB C dX8_word_7 (tgt := 30) rfl (fun c2 => ?_) (fun c2 => ?_)
  · have h := itFb c2 h
    refine y_bipush C dX8_word_30 kb_m2 ?_
    have e0 := Option.some.inj h
    subst e0
    exact y_iret C E (Nat.zero_le _) (Nat.zero_le _) dX8_word_32
  · have h := itT c2 h
    refine y_iload_n C dX8_word_10 rfl ?_
    refine y_iconst C dX8_word_11 kc_1 ?_
    refine y_bipush C dX8_word_12 kb_60 ?_
    obtain ⟨r3, hr3, h⟩ := ob h
    refine y_cS C [.int x2, .int (1 : Int32), .int (60 : Int32)] (m_X8_in K M x2 ((1 : Int32)) ((60 : Int32))) hr3 cw_X8_90 rfl (by decide) ⟨rfl, rfl⟩ ⟨Nat.zero_le _, Nat.zero_le _⟩ (Nat.le_of_ble_eq_true rfl) rfl rfl rfl dX8_word_14 ?_
    refine y_ifeqB C dX8_word_17 (tgt := 30) rfl (fun c4 => ?_) (fun c4 => ?_)
    · have h := itFb c4 h
      refine y_bipush C dX8_word_30 kb_m2 ?_
      have e0 := Option.some.inj h
      subst e0
      exact y_iret C E (Nat.zero_le _) (Nat.zero_le _) dX8_word_32
    · have h := itT c4 h
      refine y_iload_n C dX8_word_20 rfl ?_
      refine y_iconst C dX8_word_21 kc_m1 ?_
      refine y_bipush C dX8_word_22 kb_11 ?_
      obtain ⟨r5, hr5, h⟩ := ob h
      refine y_cS C [.int x3, .int (-1 : Int32), .int (11 : Int32)] (m_X8_in K M x3 ((-1 : Int32)) ((11 : Int32))) hr5 cw_X8_90 rfl (by decide) ⟨rfl, rfl⟩ ⟨Nat.zero_le _, Nat.zero_le _⟩ (Nat.le_of_ble_eq_true rfl) rfl rfl rfl dX8_word_24 ?_
      refine y_ifneB C dX8_word_27 (tgt := 33) rfl (fun c6 => ?_) (fun c6 => ?_)
      · have h := itT c6 h
        refine y_aload_n C dX8_word_33 rfl ?_
        obtain ⟨g7, h⟩ := gd h
        refine y_geti C fl_X8_87 g7 dX8_word_34 ?_
        refine y_bipush C dX8_word_37 kb_12 ?_
        refine y_icmp_ne C dX8_word_39 (tgt := 45) rfl (fun c8 => ?_) (fun c8 => ?_)
        · have h := itF c8 h
          refine y_aload_n C dX8_word_45 rfl ?_
          obtain ⟨q9, hq9, h⟩ := ob h
          refine y_getr C fl_X8_7 g7 hq9 dX8_word_46 ?_
          refine y_aload_n C dX8_word_49 rfl ?_
          refine y_geti C fl_X8_87 g7 dX8_word_50 ?_
          refine y_iload_n C dX8_word_53 rfl ?_
          refine y_bipush C dX8_word_54 kb_10 ?_
          refine y_idiv C dX8_word_56 (by decide) ?_
          obtain ⟨g10, h⟩ := gd h
          obtain ⟨M11, eM11, h⟩ := ob h
          have eM11 := Option.some.inj eM11
          refine y_iast C g10 dX8_word_57 eM11 ?_
          refine y_aload_n C dX8_word_58 rfl ?_
          obtain ⟨q12, hq12, h⟩ := ob h
          refine y_getr C fl_X8_13 g7 hq12 dX8_word_59 ?_
          refine y_aload_n C dX8_word_62 rfl ?_
          refine y_geti C fl_X8_87 g7 dX8_word_63 ?_
          refine y_iload_n C dX8_word_66 rfl ?_
          refine y_bipush C dX8_word_67 kb_10 ?_
          refine y_irem C dX8_word_69 (by decide) ?_
          obtain ⟨g13, h⟩ := gd h
          obtain ⟨M14, eM14, h⟩ := ob h
          have eM14 := Option.some.inj eM14
          refine y_iast C g13 dX8_word_70 eM14 ?_
          refine y_aload_n C dX8_word_71 rfl ?_
          obtain ⟨q15, hq15, h⟩ := ob h
          refine y_getr C fl_X8_16 g7 hq15 dX8_word_72 ?_
          refine y_iconst C dX8_word_75 kc_3 ?_
          refine y_aload_n C dX8_word_76 rfl ?_
          refine y_geti C fl_X8_87 g7 dX8_word_77 ?_
          refine y_imul C dX8_word_80 ?_
          refine y_iload_n C dX8_word_81 rfl ?_
          obtain ⟨g16, h⟩ := gd h
          obtain ⟨M17, eM17, h⟩ := ob h
          have eM17 := Option.some.inj eM17
          refine y_iast C g16 dX8_word_82 eM17 ?_
          refine y_aload_n C dX8_word_83 rfl ?_
          refine y_getr C fl_X8_16 g7 hq15 dX8_word_84 ?_
          refine y_iconst C dX8_word_87 kc_3 ?_
          refine y_aload_n C dX8_word_88 rfl ?_
          refine y_geti C fl_X8_87 g7 dX8_word_89 ?_
          refine y_imul C dX8_word_92 ?_
          refine y_iconst C dX8_word_93 kc_1 ?_
          refine y_iadd C dX8_word_94 ?_
          refine y_iload_n C dX8_word_95 rfl ?_
          obtain ⟨g18, h⟩ := gd h
          obtain ⟨M19, eM19, h⟩ := ob h
          have eM19 := Option.some.inj eM19
          refine y_iast C g18 dX8_word_96 eM19 ?_
          refine y_aload_n C dX8_word_97 rfl ?_
          refine y_getr C fl_X8_16 g7 hq15 dX8_word_98 ?_
          refine y_iconst C dX8_word_101 kc_3 ?_
          refine y_aload_n C dX8_word_102 rfl ?_
          refine y_geti C fl_X8_87 g7 dX8_word_103 ?_
          refine y_imul C dX8_word_106 ?_
          refine y_iconst C dX8_word_107 kc_2 ?_
          refine y_iadd C dX8_word_108 ?_
          refine y_iconst C dX8_word_109 kc_m1 ?_
          obtain ⟨g20, h⟩ := gd h
          obtain ⟨M21, eM21, h⟩ := ob h
          have eM21 := Option.some.inj eM21
          refine y_iast C g20 dX8_word_110 eM21 ?_
          refine y_aload_n C dX8_word_111 rfl ?_
          refine y_dup C dX8_word_112 rfl ?_
          refine y_geti C fl_X8_87 g7 dX8_word_113 ?_
          refine y_iconst C dX8_word_116 kc_1 ?_
          refine y_iadd C dX8_word_117 ?_
          obtain ⟨M22, eM22, h⟩ := ob h
          have eM22 := Option.some.inj eM22
          refine y_puti C fl_X8_87 rfl g7 rfl rfl dX8_word_118 eM22 ?_
          refine y_aload_n C dX8_word_121 rfl ?_
          refine y_geti C fl_X8_87 g7 dX8_word_122 ?_
          refine y_iconst C dX8_word_125 kc_1 ?_
          refine y_isub C dX8_word_126 ?_
          have e0 := Option.some.inj h
          subst e0
          exact y_iret C E (Nat.zero_le _) (Nat.zero_le _) dX8_word_127
        · have h := itT c8 h
          refine y_bipush C dX8_word_42 kb_m4 ?_
          have e0 := Option.some.inj h
          subst e0
          exact y_iret C E (Nat.zero_le _) (Nat.zero_le _) dX8_word_44
      · have h := itFb c6 h
        refine y_bipush C dX8_word_30 kb_m2 ?_
        have e0 := Option.some.inj h
        subst e0
        exact y_iret C E (Nat.zero_le _) (Nat.zero_le _) dX8_word_32
def b_X8_wordsBy_64 (K : yK) (t : Nat) (x_1 : Int32) (x_3 : Int32) (x_4 : Int32) : Nat → yM → Int32 → Int32 → Option ((Int32 × yM) ⊕ (Int32 × yM))
  | 0, _, _, _ => none
  | n + 1, M, u64_5, u64_6 => (if x_4 ≤ u64_6 then (some (.inl (u64_5, M))) else (Option.bind (some (x_3 + ((3 : Int32) * u64_6))) fun v2 => (if x_3 < 0 then (some (.inr ((-12 : Int32), M))) else (if v2 < x_3 then (some (.inr ((-12 : Int32), M))) else (if gO K t 7 = true then (Option.bind (K.2.2 t 25) fun q6 => (if gA K q6 x_1 = true then (if v2 ≤ ((M q6 (x_1).toNatClampNeg) - (3 : Int32)) then (Option.bind (some (((40 : Int32) * x_1) + v2)) fun v9 => (Option.bind (K.2.2 t 26) fun q10 => (if gA K q10 v9 = true then (if gA K q10 (v9 + (1 : Int32)) = true then (if gA K q10 (v9 + (2 : Int32)) = true then (Option.bind (b_X8_word K M t ((M q10 (v9).toNatClampNeg)) ((M q10 ((v9 + (1 : Int32))).toNatClampNeg)) ((M q10 ((v9 + (2 : Int32))).toNatClampNeg))) fun r14 => (Option.bind (if r14.1 < 0 then (some false) else (some true)) fun j16 => (Option.bind (some (u64_5 + (bI j16))) fun v17 => (Option.bind (some (u64_6 + (1 : Int32))) fun v18 => (b_X8_wordsBy_64 K t x_1 x_3 x_4 n r14.2 v17 v18))))) else none) else none) else none))) else (some (.inr ((-12 : Int32), M)))) else none)) else none)))))
set_option maxHeartbeats 4000000 in
set_option maxRecDepth 100000 in
theorem l_X8_wordsBy_64 {X : yX} {K : yK} {K0 : yK} {M0 : yM} {t : Nat} {x_1 : Int32} {x_3 : Int32} {x_4 : Int32} (C : yCx X cX8_wordsBy RX8 "wordsBy" rm_X8_wordsBy 9) : ∀ (n : Nat) (M : yM) (u64_5 : Int32) (u64_6 : Int32) (x : ((Int32 × yM) ⊕ (Int32 × yM))), b_X8_wordsBy_64 K t x_1 x_3 x_4 n M u64_5 u64_6 = some x → ∀ (hX : ∀ x8, x = .inl x8 → Y X K x8.2 0 0 162 [(5, .int x8.1)] []), ∀ (hE : ∀ x9, x = .inr x9 → yRt X (Option.some Jvm.ClassFile.FieldType.int) K0 M0 ((yGi K) x9).1 ((yGi K) x9).2.1 ((yGi K) x9).2.2 0 0), Y X K M 0 0 64 [(0, .ref t), (1, .int x_1), (3, .int x_3), (4, .int x_4), (5, .int u64_5), (6, .int u64_6)] [] := by
  intro n
  induction n with
  | zero =>
    intro M u64_5 u64_6 x h
    exact nomatch (show (none : Option _) = some x from h)
  | succ n ih =>
    intro M u64_5 u64_6 x h hX hE
    rw [b_X8_wordsBy_64] at h
    refine y_iload C dX8_wordsBy_64 rfl ?_
    refine y_iload C dX8_wordsBy_66 rfl ?_
    refine y_icmp_ge C dX8_wordsBy_68 (tgt := 162) rfl (fun c1 => ?_) (fun c1 => ?_)
    · have h := itT c1 h
      have e0 := Option.some.inj h
      subst e0
      exact y_sel [5] rfl (hX _ rfl)
    · have h := itF c1 h
      refine y_iload_n C dX8_wordsBy_71 rfl ?_
      refine y_iconst C dX8_wordsBy_72 kc_3 ?_
      refine y_iload C dX8_wordsBy_73 rfl ?_
      refine y_imul C dX8_wordsBy_75 ?_
      refine y_iadd C dX8_wordsBy_76 ?_
      obtain ⟨v2, ev2, h⟩ := ob h
      have ev2 := Option.some.inj ev2
      refine y_istore C dX8_wordsBy_77 (by decide) (L' := [(7, .int v2), (0, .ref t), (1, .int x_1), (3, .int x_3), (4, .int x_4), (5, .int u64_5), (6, .int u64_6)]) (by subst ev2; rfl) ?_
      refine y_iload_n C dX8_wordsBy_79 rfl ?_
      refine y_if_lt C dX8_wordsBy_80 (tgt := 102) rfl (fun c3 => ?_) (fun c3 => ?_)
      · have h := itT c3 h
        refine y_bipush C dX8_wordsBy_102 kb_m12 ?_
        have e0 := Option.some.inj h
        subst e0
        have E := hE _ rfl
        exact y_iret C E (Nat.zero_le _) (Nat.zero_le _) dX8_wordsBy_104
      · have h := itF c3 h
        refine y_iload C dX8_wordsBy_83 rfl ?_
        refine y_iload_n C dX8_wordsBy_85 rfl ?_
        refine y_icmp_lt C dX8_wordsBy_86 (tgt := 102) rfl (fun c4 => ?_) (fun c4 => ?_)
        · have h := itT c4 h
          refine y_bipush C dX8_wordsBy_102 kb_m12 ?_
          have e0 := Option.some.inj h
          subst e0
          have E := hE _ rfl
          exact y_iret C E (Nat.zero_le _) (Nat.zero_le _) dX8_wordsBy_104
        · have h := itF c4 h
          refine y_iload C dX8_wordsBy_89 rfl ?_
          refine y_aload_n C dX8_wordsBy_91 rfl ?_
          obtain ⟨g5, h⟩ := gd h
          obtain ⟨q6, hq6, h⟩ := ob h
          refine y_getr C fl_X8_47 g5 hq6 dX8_wordsBy_92 ?_
          refine y_iload_n C dX8_wordsBy_95 rfl ?_
          obtain ⟨g7, h⟩ := gd h
          refine y_iald C g7 dX8_wordsBy_96 ?_
          refine y_iconst C dX8_wordsBy_97 kc_3 ?_
          refine y_isub C dX8_wordsBy_98 ?_
          refine y_icmp_le C dX8_wordsBy_99 (tgt := 105) rfl (fun c8 => ?_) (fun c8 => ?_)
          · have h := itT c8 h
            refine y_bipush C dX8_wordsBy_105 kb_40 ?_
            refine y_iload_n C dX8_wordsBy_107 rfl ?_
            refine y_imul C dX8_wordsBy_108 ?_
            refine y_iload C dX8_wordsBy_109 rfl ?_
            refine y_iadd C dX8_wordsBy_111 ?_
            obtain ⟨v9, ev9, h⟩ := ob h
            have ev9 := Option.some.inj ev9
            refine y_istore C dX8_wordsBy_112 (by decide) (L' := [(8, .int v9), (7, .int v2), (0, .ref t), (1, .int x_1), (3, .int x_3), (4, .int x_4), (5, .int u64_5), (6, .int u64_6)]) (by subst ev9; rfl) ?_
            refine y_iload C dX8_wordsBy_114 rfl ?_
            refine y_aload_n C dX8_wordsBy_116 rfl ?_
            refine y_aload_n C dX8_wordsBy_117 rfl ?_
            obtain ⟨q10, hq10, h⟩ := ob h
            refine y_getr C fl_X8_50 g5 hq10 dX8_wordsBy_118 ?_
            refine y_iload C dX8_wordsBy_121 rfl ?_
            obtain ⟨g11, h⟩ := gd h
            refine y_iald C g11 dX8_wordsBy_123 ?_
            refine y_aload_n C dX8_wordsBy_124 rfl ?_
            refine y_getr C fl_X8_50 g5 hq10 dX8_wordsBy_125 ?_
            refine y_iload C dX8_wordsBy_128 rfl ?_
            refine y_iconst C dX8_wordsBy_130 kc_1 ?_
            refine y_iadd C dX8_wordsBy_131 ?_
            obtain ⟨g12, h⟩ := gd h
            refine y_iald C g12 dX8_wordsBy_132 ?_
            refine y_aload_n C dX8_wordsBy_133 rfl ?_
            refine y_getr C fl_X8_50 g5 hq10 dX8_wordsBy_134 ?_
            refine y_iload C dX8_wordsBy_137 rfl ?_
            refine y_iconst C dX8_wordsBy_139 kc_2 ?_
            refine y_iadd C dX8_wordsBy_140 ?_
            obtain ⟨g13, h⟩ := gd h
            refine y_iald C g13 dX8_wordsBy_141 ?_
            obtain ⟨r14, hr14, h⟩ := ob h
            refine y_cV C [.int (M q10 (v9).toNatClampNeg), .int (M q10 ((v9 + (1 : Int32))).toNatClampNeg), .int (M q10 ((v9 + (2 : Int32))).toNatClampNeg)] (m_X8_word K M t ((M q10 (v9).toNatClampNeg)) ((M q10 ((v9 + (1 : Int32))).toNatClampNeg)) ((M q10 ((v9 + (2 : Int32))).toNatClampNeg))) hr14 g5 cw_X8_334 rfl (by decide) ⟨rfl, rfl⟩ ⟨Nat.zero_le _, Nat.zero_le _⟩ (Nat.le_of_ble_eq_true rfl) rfl rfl rfl dX8_wordsBy_142 ?_
            obtain ⟨j16, hj16, h⟩ := ob h
            have hJj16 : Y X K r14.2 0 0 153 [(0, .ref t), (1, .int x_1), (3, .int x_3), (4, .int x_4), (6, .int u64_6)] [.int (bI j16), .int u64_5] := by
              refine y_iadd C dX8_wordsBy_153 ?_
              obtain ⟨v17, ev17, h⟩ := ob h
              have ev17 := Option.some.inj ev17
              refine y_istore C dX8_wordsBy_154 (by decide) (L' := [(5, .int v17), (0, .ref t), (1, .int x_1), (3, .int x_3), (4, .int x_4), (6, .int u64_6)]) (by subst ev17; rfl) ?_
              obtain ⟨v18, ev18, h⟩ := ob h
              have ev18 := Option.some.inj ev18
              refine y_iinc C dX8_wordsBy_156 (by decide) rfl (v := v18) (by subst ev18; rfl) (L' := [(6, .int v18), (5, .int v17), (0, .ref t), (1, .int x_1), (3, .int x_3), (4, .int x_4)]) rfl ?_
              refine y_goto C dX8_wordsBy_159 (tgt := 64) rfl ?_
              exact y_sel [0, 1, 3, 4, 5, 6] rfl (ih _ _ _ _  h hX hE)
            replace h := hj16
            refine y_if_lt C dX8_wordsBy_145 (tgt := 152) rfl (fun c15 => ?_) (fun c15 => ?_)
            · have h := itT c15 h
              refine y_iconst C dX8_wordsBy_152 kc_0 ?_
              have e0 := Option.some.inj h
              subst e0
              exact y_sel [0, 1, 3, 4, 6] rfl hJj16
            · have h := itF c15 h
              refine y_iconst C dX8_wordsBy_148 kc_1 ?_
              refine y_goto C dX8_wordsBy_149 (tgt := 153) rfl ?_
              have e0 := Option.some.inj h
              subst e0
              exact y_sel [0, 1, 3, 4, 6] rfl hJj16
          · have h := itF c8 h
            refine y_bipush C dX8_wordsBy_102 kb_m12 ?_
            have e0 := Option.some.inj h
            subst e0
            have E := hE _ rfl
            exact y_iret C E (Nat.zero_le _) (Nat.zero_le _) dX8_wordsBy_104
set_option maxRecDepth 100000 in
def b_X8_wordsBy (K : yK) (M : yM) (t : Nat) (x1 : Int32) (x2 : Int32) (x3 : Int32) (x4 : Int32) : Option (Int32 × yM) := (Option.bind (b_X8_in K M x1 ((0 : Int32)) ((3 : Int32))) fun r1 => (if r1 = true then (Option.bind (b_X8_in K M x2 ((0 : Int32)) ((2 : Int32))) fun r3 => (if r3 = true then (Option.bind (b_X8_in K M x4 ((0 : Int32)) ((12 : Int32))) fun r5 => (if r5 = true then (if gO K t 7 = true then (Option.bind (K.2.2 t 24) fun q8 => (if gA K q8 x1 = true then (if (M q8 (x1).toNatClampNeg) = (-1 : Int32) then (some ((-11 : Int32), M)) else (if (M q8 (x1).toNatClampNeg) = x2 then (Option.bind (b_X8_wordsBy_64 K t x1 x3 x4 1000 M ((0 : Int32)) ((0 : Int32))) fun x9 => Sum.elim (fun j12 => (some (j12.1, j12.2))) (fun r9 => (some r9)) x9) else (some ((-13 : Int32), M)))) else none)) else none) else (some ((-2 : Int32), M)))) else (some ((-2 : Int32), M)))) else (some ((-2 : Int32), M))))
set_option maxHeartbeats 4000000 in
set_option maxRecDepth 100000 in
theorem m_X8_wordsBy (K : yK) (M : yM) (t : Nat) (x1 : Int32) (x2 : Int32) (x3 : Int32) (x4 : Int32) : yMet yX8_wordsBy cX8_wordsBy 9 (Option.some Jvm.ClassFile.FieldType.int) rm_X8_wordsBy K M [.ref t, .int x1, .int x2, .int x3, .int x4] (b_X8_wordsBy K M t x1 x2 x3 x4) (yGi K) := by
  refine yM_intro (by decide) (Nat.le_of_ble_eq_true rfl) (fun X r h C E => ?_)
  replace C : yCx X cX8_wordsBy RX8 "wordsBy" rm_X8_wordsBy 9 := C
  show Y X K M 0 0 0 [(0, .ref t), (1, .int x1), (2, .int x2), (3, .int x3), (4, .int x4)] []
  unfold b_X8_wordsBy at h
  refine y_iload_n C dX8_wordsBy_0 rfl ?_
  refine y_iconst C dX8_wordsBy_1 kc_0 ?_
  refine y_iconst C dX8_wordsBy_2 kc_3 ?_
  obtain ⟨r1, hr1, h⟩ := ob h
  refine y_cS C [.int x1, .int (0 : Int32), .int (3 : Int32)] (m_X8_in K M x1 ((0 : Int32)) ((3 : Int32))) hr1 cw_X8_90 rfl (by decide) ⟨rfl, rfl⟩ ⟨Nat.zero_le _, Nat.zero_le _⟩ (Nat.le_of_ble_eq_true rfl) rfl rfl rfl dX8_wordsBy_3 ?_
  refine y_ifeqB C dX8_wordsBy_6 (tgt := 29) rfl (fun c2 => ?_) (fun c2 => ?_)
  · have h := itFb c2 h
    refine y_bipush C dX8_wordsBy_29 kb_m2 ?_
    have e0 := Option.some.inj h
    subst e0
    exact y_iret C E (Nat.zero_le _) (Nat.zero_le _) dX8_wordsBy_31
  · have h := itT c2 h
    refine y_iload_n C dX8_wordsBy_9 rfl ?_
    refine y_iconst C dX8_wordsBy_10 kc_0 ?_
    refine y_iconst C dX8_wordsBy_11 kc_2 ?_
    obtain ⟨r3, hr3, h⟩ := ob h
    refine y_cS C [.int x2, .int (0 : Int32), .int (2 : Int32)] (m_X8_in K M x2 ((0 : Int32)) ((2 : Int32))) hr3 cw_X8_90 rfl (by decide) ⟨rfl, rfl⟩ ⟨Nat.zero_le _, Nat.zero_le _⟩ (Nat.le_of_ble_eq_true rfl) rfl rfl rfl dX8_wordsBy_12 ?_
    refine y_ifeqB C dX8_wordsBy_15 (tgt := 29) rfl (fun c4 => ?_) (fun c4 => ?_)
    · have h := itFb c4 h
      refine y_bipush C dX8_wordsBy_29 kb_m2 ?_
      have e0 := Option.some.inj h
      subst e0
      exact y_iret C E (Nat.zero_le _) (Nat.zero_le _) dX8_wordsBy_31
    · have h := itT c4 h
      refine y_iload C dX8_wordsBy_18 rfl ?_
      refine y_iconst C dX8_wordsBy_20 kc_0 ?_
      refine y_bipush C dX8_wordsBy_21 kb_12 ?_
      obtain ⟨r5, hr5, h⟩ := ob h
      refine y_cS C [.int x4, .int (0 : Int32), .int (12 : Int32)] (m_X8_in K M x4 ((0 : Int32)) ((12 : Int32))) hr5 cw_X8_90 rfl (by decide) ⟨rfl, rfl⟩ ⟨Nat.zero_le _, Nat.zero_le _⟩ (Nat.le_of_ble_eq_true rfl) rfl rfl rfl dX8_wordsBy_23 ?_
      refine y_ifneB C dX8_wordsBy_26 (tgt := 32) rfl (fun c6 => ?_) (fun c6 => ?_)
      · have h := itT c6 h
        refine y_aload_n C dX8_wordsBy_32 rfl ?_
        obtain ⟨g7, h⟩ := gd h
        obtain ⟨q8, hq8, h⟩ := ob h
        refine y_getr C fl_X8_44 g7 hq8 dX8_wordsBy_33 ?_
        refine y_iload_n C dX8_wordsBy_36 rfl ?_
        obtain ⟨g9, h⟩ := gd h
        refine y_iald C g9 dX8_wordsBy_37 ?_
        refine y_iconst C dX8_wordsBy_38 kc_m1 ?_
        refine y_icmp_ne C dX8_wordsBy_39 (tgt := 45) rfl (fun c10 => ?_) (fun c10 => ?_)
        · have h := itF c10 h
          refine y_aload_n C dX8_wordsBy_45 rfl ?_
          refine y_getr C fl_X8_44 g7 hq8 dX8_wordsBy_46 ?_
          refine y_iload_n C dX8_wordsBy_49 rfl ?_
          refine y_iald C g9 dX8_wordsBy_50 ?_
          refine y_iload_n C dX8_wordsBy_51 rfl ?_
          refine y_icmp_eq C dX8_wordsBy_52 (tgt := 58) rfl (fun c11 => ?_) (fun c11 => ?_)
          · have h := itT c11 h
            refine y_iconst C dX8_wordsBy_58 kc_0 ?_
            refine y_istore C dX8_wordsBy_59 (by decide) (L' := [(5, .int (0)), (0, .ref t), (1, .int x1), (2, .int x2), (3, .int x3), (4, .int x4)]) rfl ?_
            refine y_iconst C dX8_wordsBy_61 kc_0 ?_
            refine y_istore C dX8_wordsBy_62 (by decide) (L' := [(6, .int (0)), (5, .int (0)), (0, .ref t), (1, .int x1), (2, .int x2), (3, .int x3), (4, .int x4)]) rfl ?_
            obtain ⟨x9, hx9, h⟩ := ob h
            refine y_sel [0, 1, 3, 4, 5, 6] rfl (l_X8_wordsBy_64 (K0 := K) (M0 := M) C 1000 _ _ _ _ hx9 (fun j12 e9 => ?_) (fun r9 e9 => ?_))
            · subst e9
              dsimp only [Sum.elim_inl] at h
              refine y_iload C dX8_wordsBy_162 rfl ?_
              have e0 := Option.some.inj h
              subst e0
              exact y_iret C E (Nat.zero_le _) (Nat.zero_le _) dX8_wordsBy_164
            · subst e9
              dsimp only [Sum.elim_inr] at h
              have e0 := Option.some.inj h
              subst e0
              exact E
          · have h := itF c11 h
            refine y_bipush C dX8_wordsBy_55 kb_m13 ?_
            have e0 := Option.some.inj h
            subst e0
            exact y_iret C E (Nat.zero_le _) (Nat.zero_le _) dX8_wordsBy_57
        · have h := itT c10 h
          refine y_bipush C dX8_wordsBy_42 kb_m11 ?_
          have e0 := Option.some.inj h
          subst e0
          exact y_iret C E (Nat.zero_le _) (Nat.zero_le _) dX8_wordsBy_44
      · have h := itFb c6 h
        refine y_bipush C dX8_wordsBy_29 kb_m2 ?_
        have e0 := Option.some.inj h
        subst e0
        exact y_iret C E (Nat.zero_le _) (Nat.zero_le _) dX8_wordsBy_31
