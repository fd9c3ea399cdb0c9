set_option maxRecDepth 100000 in
def b_X7_appendByte (K : yK) (M : yM) (t : Nat) (x1 : Int32) (z2 : Bool) : Option yM := (if z2 = true then (if gO K t 6 = true then (if (M t 6) < 0 then (some M) else (Option.bind (K.2.2 t 5) fun q4 => (if gI K q4 = true then (if (Int32.ofNat (K.2.1 q4).2) ≤ (M t 6) then (some M) else (if gA K q4 (M t 6) = true then (Option.bind (some (yS M q4 ((M t 6)).toNatClampNeg x1)) fun M8 => (Option.bind (some (yS M8 t 6 ((M8 t 6) + (1 : Int32)))) fun M9 => (some M9))) else none)) else none))) else none) else (some M))
set_option maxHeartbeats 4000000 in
set_option maxRecDepth 100000 in
theorem m_X7_appendByte (K : yK) (M : yM) (t : Nat) (x1 : Int32) (z2 : Bool) : yMet yX7_appendByte cX7_appendByte 3 none rm_X7_appendByte K M [.ref t, .int x1, .int (bI z2)] (b_X7_appendByte K M t x1 z2) (yGv K) := by
  refine yM_intro (by decide) (Nat.le_of_ble_eq_true rfl) (fun X r h C E => ?_)
  replace C : yCx X cX7_appendByte RX7 "appendByte" rm_X7_appendByte 3 := C
  show Y X K M 0 0 0 [(0, .ref t), (1, .int x1), (2, .int (bI z2))] []
  unfold b_X7_appendByte at h
  refine y_iload_n C dX7_appendByte_0 rfl ?_
  refine y_ifeqB C dX7_appendByte_1 (tgt := 43) rfl (fun c1 => ?_) (fun c1 => ?_)
  · have h := itFb c1 h
    have e0 := Option.some.inj h
    subst e0
    exact y_vret C E (Nat.zero_le _) (Nat.zero_le _) dX7_appendByte_43
  · have h := itT c1 h
    refine y_aload_n C dX7_appendByte_4 rfl ?_
    obtain ⟨g2, h⟩ := gd h
    refine y_geti C fl_X7_76 g2 dX7_appendByte_5 ?_
    refine y_if_lt C dX7_appendByte_8 (tgt := 43) rfl (fun c3 => ?_) (fun c3 => ?_)
    · have h := itT c3 h
      have e0 := Option.some.inj h
      subst e0
      exact y_vret C E (Nat.zero_le _) (Nat.zero_le _) dX7_appendByte_43
    · have h := itF c3 h
      refine y_aload_n C dX7_appendByte_11 rfl ?_
      refine y_geti C fl_X7_76 g2 dX7_appendByte_12 ?_
      refine y_aload_n C dX7_appendByte_15 rfl ?_
      obtain ⟨q4, hq4, h⟩ := ob h
      refine y_getr C fl_X7_51 g2 hq4 dX7_appendByte_16 ?_
      obtain ⟨g5, h⟩ := gd h
      refine y_alen C g5 dX7_appendByte_19 ?_
      refine y_icmp_ge C dX7_appendByte_20 (tgt := 43) rfl (fun c6 => ?_) (fun c6 => ?_)
      · have h := itT c6 h
        have e0 := Option.some.inj h
        subst e0
        exact y_vret C E (Nat.zero_le _) (Nat.zero_le _) dX7_appendByte_43
      · have h := itF c6 h
        refine y_aload_n C dX7_appendByte_23 rfl ?_
        refine y_getr C fl_X7_51 g2 hq4 dX7_appendByte_24 ?_
        refine y_aload_n C dX7_appendByte_27 rfl ?_
        refine y_geti C fl_X7_76 g2 dX7_appendByte_28 ?_
        refine y_iload_n C dX7_appendByte_31 rfl ?_
        obtain ⟨g7, h⟩ := gd h
        obtain ⟨M8, eM8, h⟩ := ob h
        have eM8 := Option.some.inj eM8
        refine y_iast C g7 dX7_appendByte_32 eM8 ?_
        refine y_aload_n C dX7_appendByte_33 rfl ?_
        refine y_dup C dX7_appendByte_34 rfl ?_
        refine y_geti C fl_X7_76 g2 dX7_appendByte_35 ?_
        refine y_iconst C dX7_appendByte_38 kc_1 ?_
        refine y_iadd C dX7_appendByte_39 ?_
        obtain ⟨M9, eM9, h⟩ := ob h
        have eM9 := Option.some.inj eM9
        refine y_puti C fl_X7_76 rfl g2 rfl rfl dX7_appendByte_40 eM9 ?_
        have e0 := Option.some.inj h
        subst e0
        exact y_vret C E (Nat.zero_le _) (Nat.zero_le _) dX7_appendByte_43
set_option maxRecDepth 100000 in
def b_X7_asks (K : yK) (M : yM) (t : Nat) (x1 : Int32) (x2 : Int32) (x3 : Int32) (x4 : Int32) : Option (Int32 × yM) := (if x1 < 0 then (some ((-2 : Int32), M)) else (if (2 : Int32) < x1 then (some ((-2 : Int32), M)) else (if gO K t 6 = true then (Option.bind (K.2.2 t 0) fun q4 => (if gO K q4 0 = true then (Option.bind (b_X0_has K M q4 x2) fun r6 => (if r6 = true then (if x3 < 0 then (some ((-2 : Int32), M)) else (if (12 : Int32) < x3 then (some ((-2 : Int32), M)) else (if x4 < 0 then (some ((-2 : Int32), M)) else (if x4 ≤ (999 : Int32) then (Option.bind (b_X0_says K M q4 x1 x2 x3 x4) fun r12 => (some (r12.1, r12.2))) else (some ((-2 : Int32), M)))))) else (some ((-2 : Int32), M)))) else none)) else none)))
set_option maxHeartbeats 4000000 in
set_option maxRecDepth 100000 in
theorem m_X7_asks (K : yK) (M : yM) (t : Nat) (x1 : Int32) (x2 : Int32) (x3 : Int32) (x4 : Int32) : yMet yX7_asks cX7_asks 5 (Option.some Jvm.ClassFile.FieldType.int) rm_X7_asks K M [.ref t, .int x1, .int x2, .int x3, .int x4] (b_X7_asks K M t x1 x2 x3 x4) (yGi K) := by
  refine yM_intro (by decide) (Nat.le_of_ble_eq_true rfl) (fun X r h C E => ?_)
  replace C : yCx X cX7_asks RX7 "asks" rm_X7_asks 5 := C
  show Y X K M 0 0 0 [(0, .ref t), (1, .int x1), (2, .int x2), (3, .int x3), (4, .int x4)] []
  unfold b_X7_asks at h
  refine y_iload_n C dX7_asks_0 rfl ?_
  refine y_if_lt C dX7_asks_1 (tgt := 43) rfl (fun c1 => ?_) (fun c1 => ?_)
  · have h := itT c1 h
    refine y_bipush C dX7_asks_43 kb_m2 ?_
    have e0 := Option.some.inj h
    subst e0
    exact y_iret C E (Nat.zero_le _) (Nat.zero_le _) dX7_asks_45
  · have h := itF c1 h
    refine y_iload_n C dX7_asks_4 rfl ?_
    refine y_iconst C dX7_asks_5 kc_2 ?_
    refine y_icmp_gt C dX7_asks_6 (tgt := 43) rfl (fun c2 => ?_) (fun c2 => ?_)
    · have h := itT c2 h
      refine y_bipush C dX7_asks_43 kb_m2 ?_
      have e0 := Option.some.inj h
      subst e0
      exact y_iret C E (Nat.zero_le _) (Nat.zero_le _) dX7_asks_45
    · have h := itF c2 h
      refine y_aload_n C dX7_asks_9 rfl ?_
      obtain ⟨g3, h⟩ := gd h
      obtain ⟨q4, hq4, h⟩ := ob h
      refine y_getr C fl_X7_27 g3 hq4 dX7_asks_10 ?_
      refine y_iload_n C dX7_asks_13 rfl ?_
      obtain ⟨g5, h⟩ := gd h
      obtain ⟨r6, hr6, h⟩ := ob h
      refine y_cV C [.int x2] (m_X0_has K M q4 x2) hr6 g5 cw_X7_118 rfl (by decide) ⟨rfl, rfl⟩ ⟨Nat.zero_le _, Nat.zero_le _⟩ (Nat.le_of_ble_eq_true rfl) rfl rfl rfl dX7_asks_14 ?_
      refine y_ifeqB C dX7_asks_17 (tgt := 43) rfl (fun c7 => ?_) (fun c7 => ?_)
      · have h := itFb c7 h
        refine y_bipush C dX7_asks_43 kb_m2 ?_
        have e0 := Option.some.inj h
        subst e0
        exact y_iret C E (Nat.zero_le _) (Nat.zero_le _) dX7_asks_45
      · have h := itT c7 h
        refine y_iload_n C dX7_asks_20 rfl ?_
        refine y_if_lt C dX7_asks_21 (tgt := 43) rfl (fun c8 => ?_) (fun c8 => ?_)
        · have h := itT c8 h
          refine y_bipush C dX7_asks_43 kb_m2 ?_
          have e0 := Option.some.inj h
          subst e0
          exact y_iret C E (Nat.zero_le _) (Nat.zero_le _) dX7_asks_45
        · have h := itF c8 h
          refine y_iload_n C dX7_asks_24 rfl ?_
          refine y_bipush C dX7_asks_25 kb_12 ?_
          refine y_icmp_gt C dX7_asks_27 (tgt := 43) rfl (fun c9 => ?_) (fun c9 => ?_)
          · have h := itT c9 h
            refine y_bipush C dX7_asks_43 kb_m2 ?_
            have e0 := Option.some.inj h
            subst e0
            exact y_iret C E (Nat.zero_le _) (Nat.zero_le _) dX7_asks_45
          · have h := itF c9 h
            refine y_iload C dX7_asks_30 rfl ?_
            refine y_if_lt C dX7_asks_32 (tgt := 43) rfl (fun c10 => ?_) (fun c10 => ?_)
            · have h := itT c10 h
              refine y_bipush C dX7_asks_43 kb_m2 ?_
              have e0 := Option.some.inj h
              subst e0
              exact y_iret C E (Nat.zero_le _) (Nat.zero_le _) dX7_asks_45
            · have h := itF c10 h
              refine y_iload C dX7_asks_35 rfl ?_
              refine y_sipush C dX7_asks_37 ks_999 ?_
              refine y_icmp_le C dX7_asks_40 (tgt := 46) rfl (fun c11 => ?_) (fun c11 => ?_)
              · have h := itT c11 h
                refine y_aload_n C dX7_asks_46 rfl ?_
                refine y_getr C fl_X7_27 g3 hq4 dX7_asks_47 ?_
                refine y_iload_n C dX7_asks_50 rfl ?_
                refine y_iload_n C dX7_asks_51 rfl ?_
                refine y_iload_n C dX7_asks_52 rfl ?_
                refine y_iload C dX7_asks_53 rfl ?_
                obtain ⟨r12, hr12, h⟩ := ob h
                refine y_cV C [.int x1, .int x2, .int x3, .int x4] (m_X0_says K M q4 x1 x2 x3 x4) hr12 g5 cw_X7_121 rfl (by decide) ⟨rfl, rfl⟩ ⟨Nat.zero_le _, Nat.zero_le _⟩ (Nat.le_of_ble_eq_true rfl) rfl rfl rfl dX7_asks_55 ?_
                have e0 := Option.some.inj h
                subst e0
                exact y_iret C E (Nat.zero_le _) (Nat.zero_le _) dX7_asks_58
              · have h := itF c11 h
                refine y_bipush C dX7_asks_43 kb_m2 ?_
                have e0 := Option.some.inj h
                subst e0
                exact y_iret C E (Nat.zero_le _) (Nat.zero_le _) dX7_asks_45
set_option maxRecDepth 100000 in
def b_X7_back (K : yK) (M : yM) (t : Nat) : Option (Int32 × yM) := (if gO K t 6 = true then (if (M t 8) = 0 then (some ((-3 : Int32), M)) else (Option.bind (K.2.2 t 0) fun q3 => (Option.bind (K.2.2 t 1) fun q4 => (if gO K q3 0 = true then (Option.bind (b_X0_takeFrom K M q3 q4) fun r6 => (some ((r6 q3 8), r6))) else none)))) else none)
set_option maxHeartbeats 4000000 in
set_option maxRecDepth 100000 in
theorem m_X7_back (K : yK) (M : yM) (t : Nat) : yMet yX7_back cX7_back 1 (Option.some Jvm.ClassFile.FieldType.int) rm_X7_back K M [.ref t] (b_X7_back K M t) (yGi K) := by
  refine yM_intro (by decide) (Nat.le_of_ble_eq_true rfl) (fun X r h C E => ?_)
  replace C : yCx X cX7_back RX7 "back" rm_X7_back 1 := C
  show Y X K M 0 0 0 [(0, .ref t)] []
  unfold b_X7_back at h
  refine y_aload_n C dX7_back_0 rfl ?_
  obtain ⟨g1, h⟩ := gd h
  refine y_geti C fl_X7_259 g1 dX7_back_1 ?_
  refine y_if_ne C dX7_back_4 (tgt := 10) rfl (fun c2 => ?_) (fun c2 => ?_)
  · have h := itF c2 h
    refine y_aload_n C dX7_back_10 rfl ?_
    obtain ⟨q3, hq3, h⟩ := ob h
    refine y_getr C fl_X7_27 g1 hq3 dX7_back_11 ?_
    refine y_aload_n C dX7_back_14 rfl ?_
    obtain ⟨q4, hq4, h⟩ := ob h
    refine y_getr C fl_X7_31 g1 hq4 dX7_back_15 ?_
    obtain ⟨g5, h⟩ := gd h
    obtain ⟨r6, hr6, h⟩ := ob h
    refine y_cV C [.ref q4] (m_X0_takeFrom K M q3 q4) hr6 g5 cw_X7_255 rfl (by decide) ⟨rfl, rfl⟩ ⟨Nat.zero_le _, Nat.zero_le _⟩ (Nat.le_of_ble_eq_true rfl) rfl rfl rfl dX7_back_18 ?_
    refine y_aload_n C dX7_back_21 rfl ?_
    refine y_getr C fl_X7_27 g1 hq3 dX7_back_22 ?_
    refine y_geti C fl_X7_55 g5 dX7_back_25 ?_
    have e0 := Option.some.inj h
    subst e0
    exact y_iret C E (Nat.zero_le _) (Nat.zero_le _) dX7_back_28
  · have h := itT c2 h
    refine y_bipush C dX7_back_7 kb_m3 ?_
    have e0 := Option.some.inj h
    subst e0
    exact y_iret C E (Nat.zero_le _) (Nat.zero_le _) dX7_back_9
def b_X7_passDays_21 (K : yK) (t : Nat) (x_1 : Int32) (x_2 : Int32) (x_4 : Int32) : Nat → yM → Int64 → Int32 → Int32 → Int32 → Int32 → Int32 → Option (Int32 × Int32 × Int32 × Int32 × yM)
  | 0, _, _, _, _, _, _, _ => none
  | n + 1, M, u21_5, u21_7, u21_8, u21_9, u21_10, u21_11 => (if x_1 ≤ u21_11 then (some (u21_7, u21_8, u21_9, u21_10, M)) else (Option.bind (some ((u21_5 * (48271 : Int64)) - (u21_5 * (48271 : Int64)) / (2147483647 : Int64) * (2147483647 : Int64))) fun v2 => (Option.bind (if u21_11 ≤ 0 then (some M) else (if 0 ≤ (lg_cmp (v2 - v2 / (100 : Int64) * (100 : Int64)) (x_4).toInt64) then (some M) else (if gO K t 6 = true then (Option.bind (K.2.2 t 2) fun q7 => (if gO K q7 0 = true then (Option.bind (some (yS M q7 10 (M q7 16))) fun M9 => (some M9)) else none)) else none))) fun j4 => (if gO K t 6 = true then (Option.bind (K.2.2 t 2) fun q11 => (if gO K q11 0 = true then (Option.bind (b_X0_passDay K j4 q11) fun r13 => (Option.bind (b_X0_itself K r13 q11) fun r14 => (Option.bind (b_X0_held K r14.2 q11 r14.1) fun r15 => (Option.bind (b_X0_canDo K r14.2 q11 r15) fun r16 => (Option.bind (if x_2 = 0 then (Option.bind (b_X0_worthOf K r14.2 q11 r16) fun r19 => (some (r19.1, r19.2))) else (some ((0 : Int32), r14.2))) fun j18 => (Option.bind (some (u21_7 + j18.1)) fun v20 => (Option.bind (some (u21_8 ||| r16)) fun v21 => (Option.bind (some (u21_9 ||| r15)) fun v22 => (Option.bind (some (u21_10 ||| (j18.2 q11 14))) fun v23 => (Option.bind (some (u21_11 + (1 : Int32))) fun v24 => (b_X7_passDays_21 K t x_1 x_2 x_4 n j18.2 v2 v20 v21 v22 v23 v24))))))))))) else none)) else none))))
set_option maxHeartbeats 4000000 in
set_option maxRecDepth 100000 in
theorem l_X7_passDays_21 {X : yX} {K : yK} {t : Nat} {x_1 : Int32} {x_2 : Int32} {x_4 : Int32} (C : yCx X cX7_passDays RX7 "passDays" rm_X7_passDays 14) : ∀ (n : Nat) (M : yM) (u21_5 : Int64) (u21_7 : Int32) (u21_8 : Int32) (u21_9 : Int32) (u21_10 : Int32) (u21_11 : Int32) (x : (Int32 × Int32 × Int32 × Int32 × yM)), b_X7_passDays_21 K t x_1 x_2 x_4 n M u21_5 u21_7 u21_8 u21_9 u21_10 u21_11 = some x → ∀ (hX : Y X K x.2.2.2.2 0 0 159 [(0, .ref t), (2, .int x_2), (7, .int x.1), (8, .int x.2.1), (9, .int x.2.2.1), (10, .int x.2.2.2.1)] []), Y X K M 0 0 21 [(0, .ref t), (1, .int x_1), (2, .int x_2), (4, .int x_4), (5, .long u21_5), (7, .int u21_7), (8, .int u21_8), (9, .int u21_9), (10, .int u21_10), (11, .int u21_11)] [] := by
  intro n
  induction n with
  | zero =>
    intro M u21_5 u21_7 u21_8 u21_9 u21_10 u21_11 x h
    exact nomatch (show (none : Option _) = some x from h)
  | succ n ih =>
    intro M u21_5 u21_7 u21_8 u21_9 u21_10 u21_11 x h hX
    rw [b_X7_passDays_21] at h
    refine y_iload C dX7_passDays_21 rfl ?_
    refine y_iload_n C dX7_passDays_23 rfl ?_
    refine y_icmp_ge C dX7_passDays_24 (tgt := 159) rfl (fun c1 => ?_) (fun c1 => ?_)
    · have h := itT c1 h
      have e0 := Option.some.inj h
      subst e0
      exact y_sel [0, 2, 7, 8, 9, 10] rfl hX
    · have h := itF c1 h
      refine y_lload C dX7_passDays_27 rfl ?_
      refine y_ldc2 C wd_657 dX7_passDays_29 ?_
      refine y_lmul C dX7_passDays_32 ?_
      refine y_ldc2 C wd_658 dX7_passDays_33 ?_
      refine y_lrem C dX7_passDays_36 (by decide) ?_
      obtain ⟨v2, ev2, h⟩ := ob h
      have ev2 := Option.some.inj ev2
      refine y_lstore C dX7_passDays_37 (by decide) (L' := [(5, .long v2), (0, .ref t), (1, .int x_1), (2, .int x_2), (4, .int x_4), (7, .int u21_7), (8, .int u21_8), (9, .int u21_9), (10, .int u21_10), (11, .int u21_11)]) (by subst ev2; rfl) ?_
      refine y_iload C dX7_passDays_39 rfl ?_
      obtain ⟨j4, hj4, h⟩ := ob h
      have hJj4 : Y X K j4 0 0 71 [(5, .long v2), (0, .ref t), (1, .int x_1), (2, .int x_2), (4, .int x_4), (7, .int u21_7), (8, .int u21_8), (9, .int u21_9), (10, .int u21_10), (11, .int u21_11)] [] := by
        refine y_aload_n C dX7_passDays_71 rfl ?_
        obtain ⟨g10, h⟩ := gd h
        obtain ⟨q11, hq11, h⟩ := ob h
        refine y_getr C fl_X7_34 g10 hq11 dX7_passDays_72 ?_
        obtain ⟨g12, h⟩ := gd h
        obtain ⟨r13, hr13, h⟩ := ob h
        refine y_cV C [] (m_X0_passDay K j4 q11) hr13 g12 cw_X7_158 rfl (by decide) ⟨rfl, rfl⟩ ⟨Nat.zero_le _, Nat.zero_le _⟩ (Nat.le_of_ble_eq_true rfl) rfl rfl rfl dX7_passDays_75 ?_
        refine y_aload_n C dX7_passDays_78 rfl ?_
        refine y_getr C fl_X7_34 g10 hq11 dX7_passDays_79 ?_
        refine y_aload_n C dX7_passDays_82 rfl ?_
        refine y_getr C fl_X7_34 g10 hq11 dX7_passDays_83 ?_
        obtain ⟨r14, hr14, h⟩ := ob h
        refine y_cV C [] (m_X0_itself K r13 q11) hr14 g12 cw_X7_164 rfl (by decide) ⟨rfl, rfl⟩ ⟨Nat.zero_le _, Nat.zero_le _⟩ (Nat.le_of_ble_eq_true rfl) rfl rfl rfl dX7_passDays_86 ?_
        obtain ⟨r15, hr15, h⟩ := ob h
        refine y_cV C [.int r14.1] (m_X0_held K r14.2 q11 r14.1) hr15 g12 cw_X7_167 rfl (by decide) ⟨rfl, rfl⟩ ⟨Nat.zero_le _, Nat.zero_le _⟩ (Nat.le_of_ble_eq_true rfl) rfl rfl rfl dX7_passDays_89 ?_
        refine y_istore C dX7_passDays_92 (by decide) (L' := [(12, .int r15), (5, .long v2), (0, .ref t), (1, .int x_1), (2, .int x_2), (4, .int x_4), (7, .int u21_7), (8, .int u21_8), (9, .int u21_9), (10, .int u21_10), (11, .int u21_11)]) rfl ?_
        refine y_aload_n C dX7_passDays_94 rfl ?_
        refine y_getr C fl_X7_34 g10 hq11 dX7_passDays_95 ?_
        refine y_iload C dX7_passDays_98 rfl ?_
        obtain ⟨r16, hr16, h⟩ := ob h
        refine y_cV C [.int r15] (m_X0_canDo K r14.2 q11 r15) hr16 g12 cw_X7_182 rfl (by decide) ⟨rfl, rfl⟩ ⟨Nat.zero_le _, Nat.zero_le _⟩ (Nat.le_of_ble_eq_true rfl) rfl rfl rfl dX7_passDays_100 ?_
        refine y_istore C dX7_passDays_103 (by decide) (L' := [(13, .int r16), (12, .int r15), (5, .long v2), (0, .ref t), (1, .int x_1), (2, .int x_2), (4, .int x_4), (7, .int u21_7), (8, .int u21_8), (9, .int u21_9), (10, .int u21_10), (11, .int u21_11)]) rfl ?_
        refine y_iload C dX7_passDays_105 rfl ?_
        refine y_iload_n C dX7_passDays_107 rfl ?_
        obtain ⟨j18, hj18, h⟩ := ob h
        have hJj18 : Y X K j18.2 0 0 124 [(13, .int r16), (12, .int r15), (5, .long v2), (0, .ref t), (1, .int x_1), (2, .int x_2), (4, .int x_4), (8, .int u21_8), (9, .int u21_9), (10, .int u21_10), (11, .int u21_11)] [.int j18.1, .int u21_7] := by
          refine y_iadd C dX7_passDays_124 ?_
          obtain ⟨v20, ev20, h⟩ := ob h
          have ev20 := Option.some.inj ev20
          refine y_istore C dX7_passDays_125 (by decide) (L' := [(7, .int v20), (13, .int r16), (12, .int r15), (5, .long v2), (0, .ref t), (1, .int x_1), (2, .int x_2), (4, .int x_4), (8, .int u21_8), (9, .int u21_9), (10, .int u21_10), (11, .int u21_11)]) (by subst ev20; rfl) ?_
          refine y_iload C dX7_passDays_127 rfl ?_
          refine y_iload C dX7_passDays_129 rfl ?_
          refine y_ior C dX7_passDays_131 ?_
          obtain ⟨v21, ev21, h⟩ := ob h
          have ev21 := Option.some.inj ev21
          refine y_istore C dX7_passDays_132 (by decide) (L' := [(8, .int v21), (7, .int v20), (13, .int r16), (12, .int r15), (5, .long v2), (0, .ref t), (1, .int x_1), (2, .int x_2), (4, .int x_4), (9, .int u21_9), (10, .int u21_10), (11, .int u21_11)]) (by subst ev21; rfl) ?_
          refine y_iload C dX7_passDays_134 rfl ?_
          refine y_iload C dX7_passDays_136 rfl ?_
          refine y_ior C dX7_passDays_138 ?_
          obtain ⟨v22, ev22, h⟩ := ob h
          have ev22 := Option.some.inj ev22
          refine y_istore C dX7_passDays_139 (by decide) (L' := [(9, .int v22), (8, .int v21), (7, .int v20), (13, .int r16), (12, .int r15), (5, .long v2), (0, .ref t), (1, .int x_1), (2, .int x_2), (4, .int x_4), (10, .int u21_10), (11, .int u21_11)]) (by subst ev22; rfl) ?_
          refine y_iload C dX7_passDays_141 rfl ?_
          refine y_aload_n C dX7_passDays_143 rfl ?_
          refine y_getr C fl_X7_34 g10 hq11 dX7_passDays_144 ?_
          refine y_geti C fl_X7_161 g12 dX7_passDays_147 ?_
          refine y_ior C dX7_passDays_150 ?_
          obtain ⟨v23, ev23, h⟩ := ob h
          have ev23 := Option.some.inj ev23
          refine y_istore C dX7_passDays_151 (by decide) (L' := [(10, .int v23), (9, .int v22), (8, .int v21), (7, .int v20), (13, .int r16), (12, .int r15), (5, .long v2), (0, .ref t), (1, .int x_1), (2, .int x_2), (4, .int x_4), (11, .int u21_11)]) (by subst ev23; rfl) ?_
          obtain ⟨v24, ev24, h⟩ := ob h
          have ev24 := Option.some.inj ev24
          refine y_iinc C dX7_passDays_153 (by decide) rfl (v := v24) (by subst ev24; rfl) (L' := [(11, .int v24), (10, .int v23), (9, .int v22), (8, .int v21), (7, .int v20), (13, .int r16), (12, .int r15), (5, .long v2), (0, .ref t), (1, .int x_1), (2, .int x_2), (4, .int x_4)]) rfl ?_
          refine y_goto C dX7_passDays_156 (tgt := 21) rfl ?_
          exact y_sel [0, 1, 2, 4, 5, 7, 8, 9, 10, 11] rfl (ih _ _ _ _ _ _ _ _  h hX)
        replace h := hj18
        refine y_if_ne C dX7_passDays_108 (tgt := 123) rfl (fun c17 => ?_) (fun c17 => ?_)
        · have h := itF c17 h
          refine y_iconst C dX7_passDays_123 kc_0 ?_
          have e0 := Option.some.inj h
          subst e0
          exact y_sel [13, 12, 5, 0, 1, 2, 4, 8, 9, 10, 11] rfl hJj18
        · have h := itT c17 h
          refine y_aload_n C dX7_passDays_111 rfl ?_
          refine y_getr C fl_X7_34 g10 hq11 dX7_passDays_112 ?_
          refine y_iload C dX7_passDays_115 rfl ?_
          obtain ⟨r19, hr19, h⟩ := ob h
          refine y_cV C [.int r16] (m_X0_worthOf K r14.2 q11 r16) hr19 g12 cw_X7_185 rfl (by decide) ⟨rfl, rfl⟩ ⟨Nat.zero_le _, Nat.zero_le _⟩ (Nat.le_of_ble_eq_true rfl) rfl rfl rfl dX7_passDays_117 ?_
          refine y_goto C dX7_passDays_120 (tgt := 124) rfl ?_
          have e0 := Option.some.inj h
          subst e0
          exact y_sel [13, 12, 5, 0, 1, 2, 4, 8, 9, 10, 11] rfl hJj18
      replace h := hj4
      refine y_if_le C dX7_passDays_41 (tgt := 71) rfl (fun c3 => ?_) (fun c3 => ?_)
      · have h := itT c3 h
        have e0 := Option.some.inj h
        subst e0
        exact y_sel [5, 0, 1, 2, 4, 7, 8, 9, 10, 11] rfl hJj4
      · have h := itF c3 h
        refine y_lload C dX7_passDays_44 rfl ?_
        refine y_ldc2 C wd_659 dX7_passDays_46 ?_
        refine y_lrem C dX7_passDays_49 (by decide) ?_
        refine y_iload C dX7_passDays_50 rfl ?_
        refine y_i2l C dX7_passDays_52 rfl ?_
        refine y_lcmp C dX7_passDays_53 ?_
        refine y_if_ge C dX7_passDays_54 (tgt := 71) rfl (fun c5 => ?_) (fun c5 => ?_)
        · have h := itT c5 h
          have e0 := Option.some.inj h
          subst e0
          exact y_sel [5, 0, 1, 2, 4, 7, 8, 9, 10, 11] rfl hJj4
        · have h := itF c5 h
          refine y_aload_n C dX7_passDays_57 rfl ?_
          obtain ⟨g6, h⟩ := gd h
          obtain ⟨q7, hq7, h⟩ := ob h
          refine y_getr C fl_X7_34 g6 hq7 dX7_passDays_58 ?_
          refine y_aload_n C dX7_passDays_61 rfl ?_
          refine y_getr C fl_X7_34 g6 hq7 dX7_passDays_62 ?_
          obtain ⟨g8, h⟩ := gd h
          refine y_geti C fl_X7_303 g8 dX7_passDays_65 ?_
          obtain ⟨M9, eM9, h⟩ := ob h
          have eM9 := Option.some.inj eM9
          refine y_puti C fl_X7_61 rfl g8 rfl rfl dX7_passDays_68 eM9 ?_
          have e0 := Option.some.inj h
          subst e0
          exact y_sel [5, 0, 1, 2, 4, 7, 8, 9, 10, 11] rfl hJj4
set_option maxRecDepth 100000 in
def b_X7_passDays (K : yK) (M : yM) (t : Nat) (x1 : Int32) (x2 : Int32) (x3 : Int32) (x4 : Int32) : Option (Int32 × yM) := (Option.bind (some ((x3).toInt64 + (1 : Int64))) fun v1 => (Option.bind (b_X7_passDays_21 K t x1 x2 x4 1000 M v1 ((0 : Int32)) ((0 : Int32)) ((0 : Int32)) ((0 : Int32)) ((0 : Int32))) fun j2 => (if x2 = (0 : Int32) then (some (j2.1, j2.2.2.2.2)) else (if x2 = (1 : Int32) then (some (j2.2.1, j2.2.2.2.2)) else (if x2 = (2 : Int32) then (some (j2.2.2.1, j2.2.2.2.2)) else (if x2 = (3 : Int32) then (some (j2.2.2.2.1, j2.2.2.2.2)) else (if gO K t 6 = true then (Option.bind (K.2.2 t 2) fun q8 => (if gO K q8 0 = true then (some ((j2.2.2.2.2 q8 10), j2.2.2.2.2)) else none)) else none)))))))
set_option maxHeartbeats 4000000 in
set_option maxRecDepth 100000 in
theorem m_X7_passDays (K : yK) (M : yM) (t : Nat) (x1 : Int32) (x2 : Int32) (x3 : Int32) (x4 : Int32) : yMet yX7_passDays cX7_passDays 14 (Option.some Jvm.ClassFile.FieldType.int) rm_X7_passDays K M [.ref t, .int x1, .int x2, .int x3, .int x4] (b_X7_passDays K M t x1 x2 x3 x4) (yGi K) := by
  refine yM_intro (by decide) (Nat.le_of_ble_eq_true rfl) (fun X r h C E => ?_)
  replace C : yCx X cX7_passDays RX7 "passDays" rm_X7_passDays 14 := C
  show Y X K M 0 0 0 [(0, .ref t), (1, .int x1), (2, .int x2), (3, .int x3), (4, .int x4)] []
  unfold b_X7_passDays at h
  refine y_iload_n C dX7_passDays_0 rfl ?_
  refine y_i2l C dX7_passDays_1 rfl ?_
  refine y_lconst C dX7_passDays_2 rfl ?_
  refine y_ladd C dX7_passDays_3 ?_
  obtain ⟨v1, ev1, h⟩ := ob h
  have ev1 := Option.some.inj ev1
  refine y_lstore C dX7_passDays_4 (by decide) (L' := [(5, .long v1), (0, .ref t), (1, .int x1), (2, .int x2), (3, .int x3), (4, .int x4)]) (by subst ev1; rfl) ?_
  refine y_iconst C dX7_passDays_6 kc_0 ?_
  refine y_istore C dX7_passDays_7 (by decide) (L' := [(7, .int (0)), (5, .long v1), (0, .ref t), (1, .int x1), (2, .int x2), (3, .int x3), (4, .int x4)]) rfl ?_
  refine y_iconst C dX7_passDays_9 kc_0 ?_
  refine y_istore C dX7_passDays_10 (by decide) (L' := [(8, .int (0)), (7, .int (0)), (5, .long v1), (0, .ref t), (1, .int x1), (2, .int x2), (3, .int x3), (4, .int x4)]) rfl ?_
  refine y_iconst C dX7_passDays_12 kc_0 ?_
  refine y_istore C dX7_passDays_13 (by decide) (L' := [(9, .int (0)), (8, .int (0)), (7, .int (0)), (5, .long v1), (0, .ref t), (1, .int x1), (2, .int x2), (3, .int x3), (4, .int x4)]) rfl ?_
  refine y_iconst C dX7_passDays_15 kc_0 ?_
  refine y_istore C dX7_passDays_16 (by decide) (L' := [(10, .int (0)), (9, .int (0)), (8, .int (0)), (7, .int (0)), (5, .long v1), (0, .ref t), (1, .int x1), (2, .int x2), (3, .int x3), (4, .int x4)]) rfl ?_
  refine y_iconst C dX7_passDays_18 kc_0 ?_
  refine y_istore C dX7_passDays_19 (by decide) (L' := [(11, .int (0)), (10, .int (0)), (9, .int (0)), (8, .int (0)), (7, .int (0)), (5, .long v1), (0, .ref t), (1, .int x1), (2, .int x2), (3, .int x3), (4, .int x4)]) rfl ?_
  obtain ⟨j2, hj2, h⟩ := ob h
  refine y_sel [0, 1, 2, 4, 5, 7, 8, 9, 10, 11] rfl (l_X7_passDays_21 C 1000 _ _ _ _ _ _ _ _ hj2 ?_)
  refine y_iload_n C dX7_passDays_159 rfl ?_
  rcases Classical.em (x2 = (0 : Int32)) with c3 | c3
  · have h := itT c3 h
    refine y_tabIn C dX7_passDays_160 (off := 32) (tgt := 192) (by rw [c3]; decide) (by rw [c3]; decide) (by rw [c3]; rfl) rfl ?_
    refine y_iload C dX7_passDays_192 rfl ?_
    have e0 := Option.some.inj h
    subst e0
    exact y_iret C E (Nat.zero_le _) (Nat.zero_le _) dX7_passDays_194
  replace h := itF c3 h
  rcases Classical.em (x2 = (1 : Int32)) with c4 | c4
  · have h := itT c4 h
    refine y_tabIn C dX7_passDays_160 (off := 35) (tgt := 195) (by rw [c4]; decide) (by rw [c4]; decide) (by rw [c4]; rfl) rfl ?_
    refine y_iload C dX7_passDays_195 rfl ?_
    have e0 := Option.some.inj h
    subst e0
    exact y_iret C E (Nat.zero_le _) (Nat.zero_le _) dX7_passDays_197
  replace h := itF c4 h
  rcases Classical.em (x2 = (2 : Int32)) with c5 | c5
  · have h := itT c5 h
    refine y_tabIn C dX7_passDays_160 (off := 38) (tgt := 198) (by rw [c5]; decide) (by rw [c5]; decide) (by rw [c5]; rfl) rfl ?_
    refine y_iload C dX7_passDays_198 rfl ?_
    have e0 := Option.some.inj h
    subst e0
    exact y_iret C E (Nat.zero_le _) (Nat.zero_le _) dX7_passDays_200
  replace h := itF c5 h
  rcases Classical.em (x2 = (3 : Int32)) with c6 | c6
  · have h := itT c6 h
    refine y_tabIn C dX7_passDays_160 (off := 41) (tgt := 201) (by rw [c6]; decide) (by rw [c6]; decide) (by rw [c6]; rfl) rfl ?_
    refine y_iload C dX7_passDays_201 rfl ?_
    have e0 := Option.some.inj h
    subst e0
    exact y_iret C E (Nat.zero_le _) (Nat.zero_le _) dX7_passDays_203
  replace h := itF c6 h
  refine y_tabOut C dX7_passDays_160 (tgt := 204) (by have q0 : (x2).toInt ≠ 0 := yNe c3; have q1 : (x2).toInt ≠ 1 := yNe c4; have q2 : (x2).toInt ≠ 2 := yNe c5; have q3 : (x2).toInt ≠ 3 := yNe c6; omega) rfl ?_
  refine y_aload_n C dX7_passDays_204 rfl ?_
  obtain ⟨g7, h⟩ := gd h
  obtain ⟨q8, hq8, h⟩ := ob h
  refine y_getr C fl_X7_34 g7 hq8 dX7_passDays_205 ?_
  obtain ⟨g9, h⟩ := gd h
  refine y_geti C fl_X7_61 g9 dX7_passDays_208 ?_
  have e0 := Option.some.inj h
  subst e0
  exact y_iret C E (Nat.zero_le _) (Nat.zero_le _) dX7_passDays_211
set_option maxRecDepth 100000 in
def b_X7_think (K : yK) (M : yM) (t : Nat) (x1 : Int32) (x2 : Int32) (x3 : Int32) : Option yM := (if gO K t 6 = true then (Option.bind (K.2.2 t 2) fun q2 => (Option.bind (K.2.2 t 0) fun q3 => (if gO K q2 0 = true then (Option.bind (b_X0_takeFrom K M q2 q3) fun r5 => (if x2 < 0 then (some r5) else (if x2 < (12 : Int32) then (if x1 = (1 : Int32) then (Option.bind (b_X0_firstOf K r5 q2 x3) fun r16 => (Option.bind (some (yS r5 q2 10 r16)) fun M17 => (Option.bind (some (yS M17 q2 12 (-1 : Int32))) fun M18 => (some M18)))) else (if x1 = (2 : Int32) then (Option.bind (some (yS r5 q2 12 x3)) fun M19 => (some M19)) else (if x1 = (3 : Int32) then (Option.bind (some (yS r5 q2 13 ((r5 q2 13) ||| ((1 : Int32) <<< (x3 &&& 31))))) fun M20 => (some M20)) else (if x1 = (4 : Int32) then (Option.bind (if 0 ≤ x3 then (some ((1 : Int32) <<< (x3 &&& 31))) else (some (0 : Int32))) fun j22 => (Option.bind (some (yS r5 q2 13 j22)) fun M23 => (some M23))) else (if x1 = (5 : Int32) then (Option.bind (K.2.2 q2 3) fun q24 => (if gA K q24 x2 = true then (Option.bind (some (yS r5 q24 (x2).toNatClampNeg x3)) fun M26 => (Option.bind (b_X0_settle K M26 q2) fun r27 => (some r27))) else none)) else (if x1 = (6 : Int32) then (Option.bind (K.2.2 q2 0) fun q28 => (if gA K q28 x2 = true then (Option.bind (some (yS r5 q28 (x2).toNatClampNeg x3)) fun M30 => (Option.bind (b_X0_settle K M30 q2) fun r31 => (some r31))) else none)) else (if x1 = (7 : Int32) then (Option.bind (K.2.2 q2 1) fun q32 => (if gA K q32 x2 = true then (Option.bind (some (yS r5 q32 (x2).toNatClampNeg x3)) fun M34 => (Option.bind (b_X0_settle K M34 q2) fun r35 => (some r35))) else none)) else (if x1 = (8 : Int32) then (Option.bind (some (yS r5 q2 15 x3)) fun M36 => (some M36)) else (some r5))))))))) else (some r5)))) else none))) else none)
set_option maxHeartbeats 4000000 in
set_option maxRecDepth 100000 in
theorem m_X7_think (K : yK) (M : yM) (t : Nat) (x1 : Int32) (x2 : Int32) (x3 : Int32) : yMet yX7_think cX7_think 4 none rm_X7_think K M [.ref t, .int x1, .int x2, .int x3] (b_X7_think K M t x1 x2 x3) (yGv K) := by
  refine yM_intro (by decide) (Nat.le_of_ble_eq_true rfl) (fun X r h C E => ?_)
  replace C : yCx X cX7_think RX7 "think" rm_X7_think 4 := C
  show Y X K M 0 0 0 [(0, .ref t), (1, .int x1), (2, .int x2), (3, .int x3)] []
  unfold b_X7_think at h
  refine y_aload_n C dX7_think_0 rfl ?_
  obtain ⟨g1, h⟩ := gd h
  obtain ⟨q2, hq2, h⟩ := ob h
  refine y_getr C fl_X7_34 g1 hq2 dX7_think_1 ?_
  refine y_aload_n C dX7_think_4 rfl ?_
  obtain ⟨q3, hq3, h⟩ := ob h
  refine y_getr C fl_X7_27 g1 hq3 dX7_think_5 ?_
  obtain ⟨g4, h⟩ := gd h
  obtain ⟨r5, hr5, h⟩ := ob h
  refine y_cV C [.ref q3] (m_X0_takeFrom K M q2 q3) hr5 g4 cw_X7_255 rfl (by decide) ⟨rfl, rfl⟩ ⟨Nat.zero_le _, Nat.zero_le _⟩ (Nat.le_of_ble_eq_true rfl) rfl rfl rfl dX7_think_8 ?_
  refine y_iload_n C dX7_think_11 rfl ?_
  refine y_if_lt C dX7_think_12 (tgt := 21) rfl (fun c6 => ?_) (fun c6 => ?_)
  · have h := itT c6 h
    have e0 := Option.some.inj h
    subst e0
    exact y_vret C E (Nat.zero_le _) (Nat.zero_le _) dX7_think_21
  · have h := itF c6 h
    refine y_iload_n C dX7_think_15 rfl ?_
    refine y_bipush C dX7_think_16 kb_12 ?_
    refine y_icmp_lt C dX7_think_18 (tgt := 22) rfl (fun c7 => ?_) (fun c7 => ?_)
    · have h := itT c7 h
      refine y_iload_n C dX7_think_22 rfl ?_
      rcases Classical.em (x1 = (1 : Int32)) with c8 | c8
      · have h := itT c8 h
        refine y_tabIn C dX7_think_23 (off := 45) (tgt := 68) (by rw [c8]; decide) (by rw [c8]; decide) (by rw [c8]; rfl) rfl ?_
        refine y_aload_n C dX7_think_68 rfl ?_
        refine y_getr C fl_X7_34 g1 hq2 dX7_think_69 ?_
        refine y_aload_n C dX7_think_72 rfl ?_
        refine y_getr C fl_X7_34 g1 hq2 dX7_think_73 ?_
        refine y_iload_n C dX7_think_76 rfl ?_
        obtain ⟨r16, hr16, h⟩ := ob h
        refine y_cV C [.int x3] (m_X0_firstOf K r5 q2 x3) hr16 g4 cw_X7_294 rfl (by decide) ⟨rfl, rfl⟩ ⟨Nat.zero_le _, Nat.zero_le _⟩ (Nat.le_of_ble_eq_true rfl) rfl rfl rfl dX7_think_77 ?_
        obtain ⟨M17, eM17, h⟩ := ob h
        have eM17 := Option.some.inj eM17
        refine y_puti C fl_X7_61 rfl g4 rfl rfl dX7_think_80 eM17 ?_
        refine y_aload_n C dX7_think_83 rfl ?_
        refine y_getr C fl_X7_34 g1 hq2 dX7_think_84 ?_
        refine y_iconst C dX7_think_87 kc_m1 ?_
        obtain ⟨M18, eM18, h⟩ := ob h
        have eM18 := Option.some.inj eM18
        refine y_puti C fl_X7_67 rfl g4 rfl rfl dX7_think_88 eM18 ?_
        refine y_goto C dX7_think_91 (tgt := 215) rfl ?_
        have e0 := Option.some.inj h
        subst e0
        exact y_vret C E (Nat.zero_le _) (Nat.zero_le _) dX7_think_215
      replace h := itF c8 h
      rcases Classical.em (x1 = (2 : Int32)) with c9 | c9
      · have h := itT c9 h
        refine y_tabIn C dX7_think_23 (off := 71) (tgt := 94) (by rw [c9]; decide) (by rw [c9]; decide) (by rw [c9]; rfl) rfl ?_
        refine y_aload_n C dX7_think_94 rfl ?_
        refine y_getr C fl_X7_34 g1 hq2 dX7_think_95 ?_
        refine y_iload_n C dX7_think_98 rfl ?_
        obtain ⟨M19, eM19, h⟩ := ob h
        have eM19 := Option.some.inj eM19
        refine y_puti C fl_X7_67 rfl g4 rfl rfl dX7_think_99 eM19 ?_
        refine y_goto C dX7_think_102 (tgt := 215) rfl ?_
        have e0 := Option.some.inj h
        subst e0
        exact y_vret C E (Nat.zero_le _) (Nat.zero_le _) dX7_think_215
      replace h := itF c9 h
      rcases Classical.em (x1 = (3 : Int32)) with c10 | c10
      · have h := itT c10 h
        refine y_tabIn C dX7_think_23 (off := 82) (tgt := 105) (by rw [c10]; decide) (by rw [c10]; decide) (by rw [c10]; rfl) rfl ?_
        refine y_aload_n C dX7_think_105 rfl ?_
        refine y_getr C fl_X7_34 g1 hq2 dX7_think_106 ?_
        refine y_dup C dX7_think_109 rfl ?_
        refine y_geti C fl_X7_70 g4 dX7_think_110 ?_
        refine y_iconst C dX7_think_113 kc_1 ?_
        refine y_iload_n C dX7_think_114 rfl ?_
        refine y_ishl C dX7_think_115 ?_
        refine y_ior C dX7_think_116 ?_
        obtain ⟨M20, eM20, h⟩ := ob h
        have eM20 := Option.some.inj eM20
        refine y_puti C fl_X7_70 rfl g4 rfl rfl dX7_think_117 eM20 ?_
        refine y_goto C dX7_think_120 (tgt := 215) rfl ?_
        have e0 := Option.some.inj h
        subst e0
        exact y_vret C E (Nat.zero_le _) (Nat.zero_le _) dX7_think_215
      replace h := itF c10 h
      rcases Classical.em (x1 = (4 : Int32)) with c11 | c11
      · have h := itT c11 h
        refine y_tabIn C dX7_think_23 (off := 100) (tgt := 123) (by rw [c11]; decide) (by rw [c11]; decide) (by rw [c11]; rfl) rfl ?_
        refine y_aload_n C dX7_think_123 rfl ?_
        refine y_getr C fl_X7_34 g1 hq2 dX7_think_124 ?_
        refine y_iload_n C dX7_think_127 rfl ?_
        obtain ⟨j22, hj22, h⟩ := ob h
        have hJj22 : Y X K r5 0 0 138 [] [.int j22, .ref q2] := by
          obtain ⟨M23, eM23, h⟩ := ob h
          have eM23 := Option.some.inj eM23
          refine y_puti C fl_X7_70 rfl g4 rfl rfl dX7_think_138 eM23 ?_
          refine y_goto C dX7_think_141 (tgt := 215) rfl ?_
          have e0 := Option.some.inj h
          subst e0
          exact y_vret C E (Nat.zero_le _) (Nat.zero_le _) dX7_think_215
        replace h := hj22
        refine y_if_ge C dX7_think_128 (tgt := 135) rfl (fun c21 => ?_) (fun c21 => ?_)
        · have h := itT c21 h
          refine y_iconst C dX7_think_135 kc_1 ?_
          refine y_iload_n C dX7_think_136 rfl ?_
          refine y_ishl C dX7_think_137 ?_
          have e0 := Option.some.inj h
          subst e0
          exact y_sel [] rfl hJj22
        · have h := itF c21 h
          refine y_iconst C dX7_think_131 kc_0 ?_
          refine y_goto C dX7_think_132 (tgt := 138) rfl ?_
          have e0 := Option.some.inj h
          subst e0
          exact y_sel [] rfl hJj22
      replace h := itF c11 h
      rcases Classical.em (x1 = (5 : Int32)) with c12 | c12
      · have h := itT c12 h
        refine y_tabIn C dX7_think_23 (off := 132) (tgt := 155) (by rw [c12]; decide) (by rw [c12]; decide) (by rw [c12]; rfl) rfl ?_
        refine y_aload_n C dX7_think_155 rfl ?_
        refine y_getr C fl_X7_34 g1 hq2 dX7_think_156 ?_
        obtain ⟨q24, hq24, h⟩ := ob h
        refine y_getr C fl_X7_138 g4 hq24 dX7_think_159 ?_
        refine y_iload_n C dX7_think_162 rfl ?_
        refine y_iload_n C dX7_think_163 rfl ?_
        obtain ⟨g25, h⟩ := gd h
        obtain ⟨M26, eM26, h⟩ := ob h
        have eM26 := Option.some.inj eM26
        refine y_iast C g25 dX7_think_164 eM26 ?_
        refine y_aload_n C dX7_think_165 rfl ?_
        refine y_getr C fl_X7_34 g1 hq2 dX7_think_166 ?_
        obtain ⟨r27, hr27, h⟩ := ob h
        refine y_cV C [] (m_X0_settle K M26 q2) hr27 g4 cw_X7_155 rfl (by decide) ⟨rfl, rfl⟩ ⟨Nat.zero_le _, Nat.zero_le _⟩ (Nat.le_of_ble_eq_true rfl) rfl rfl rfl dX7_think_169 ?_
        refine y_goto C dX7_think_172 (tgt := 215) rfl ?_
        have e0 := Option.some.inj h
        subst e0
        exact y_vret C E (Nat.zero_le _) (Nat.zero_le _) dX7_think_215
      replace h := itF c12 h
      rcases Classical.em (x1 = (6 : Int32)) with c13 | c13
      · have h := itT c13 h
        refine y_tabIn C dX7_think_23 (off := 152) (tgt := 175) (by rw [c13]; decide) (by rw [c13]; decide) (by rw [c13]; rfl) rfl ?_
        refine y_aload_n C dX7_think_175 rfl ?_
        refine y_getr C fl_X7_34 g1 hq2 dX7_think_176 ?_
        obtain ⟨q28, hq28, h⟩ := ob h
        refine y_getr C fl_X7_129 g4 hq28 dX7_think_179 ?_
        refine y_iload_n C dX7_think_182 rfl ?_
        refine y_iload_n C dX7_think_183 rfl ?_
        obtain ⟨g29, h⟩ := gd h
        obtain ⟨M30, eM30, h⟩ := ob h
        have eM30 := Option.some.inj eM30
        refine y_iast C g29 dX7_think_184 eM30 ?_
        refine y_aload_n C dX7_think_185 rfl ?_
        refine y_getr C fl_X7_34 g1 hq2 dX7_think_186 ?_
        obtain ⟨r31, hr31, h⟩ := ob h
        refine y_cV C [] (m_X0_settle K M30 q2) hr31 g4 cw_X7_155 rfl (by decide) ⟨rfl, rfl⟩ ⟨Nat.zero_le _, Nat.zero_le _⟩ (Nat.le_of_ble_eq_true rfl) rfl rfl rfl dX7_think_189 ?_
        refine y_goto C dX7_think_192 (tgt := 215) rfl ?_
        have e0 := Option.some.inj h
        subst e0
        exact y_vret C E (Nat.zero_le _) (Nat.zero_le _) dX7_think_215
      replace h := itF c13 h
      rcases Classical.em (x1 = (7 : Int32)) with c14 | c14
      · have h := itT c14 h
        refine y_tabIn C dX7_think_23 (off := 172) (tgt := 195) (by rw [c14]; decide) (by rw [c14]; decide) (by rw [c14]; rfl) rfl ?_
        refine y_aload_n C dX7_think_195 rfl ?_
        refine y_getr C fl_X7_34 g1 hq2 dX7_think_196 ?_
        obtain ⟨q32, hq32, h⟩ := ob h
        refine y_getr C fl_X7_132 g4 hq32 dX7_think_199 ?_
        refine y_iload_n C dX7_think_202 rfl ?_
        refine y_iload_n C dX7_think_203 rfl ?_
        obtain ⟨g33, h⟩ := gd h
        obtain ⟨M34, eM34, h⟩ := ob h
        have eM34 := Option.some.inj eM34
        refine y_iast C g33 dX7_think_204 eM34 ?_
        refine y_aload_n C dX7_think_205 rfl ?_
        refine y_getr C fl_X7_34 g1 hq2 dX7_think_206 ?_
        obtain ⟨r35, hr35, h⟩ := ob h
        refine y_cV C [] (m_X0_settle K M34 q2) hr35 g4 cw_X7_155 rfl (by decide) ⟨rfl, rfl⟩ ⟨Nat.zero_le _, Nat.zero_le _⟩ (Nat.le_of_ble_eq_true rfl) rfl rfl rfl dX7_think_209 ?_
        refine y_goto C dX7_think_212 (tgt := 215) rfl ?_
        have e0 := Option.some.inj h
        subst e0
        exact y_vret C E (Nat.zero_le _) (Nat.zero_le _) dX7_think_215
      replace h := itF c14 h
      rcases Classical.em (x1 = (8 : Int32)) with c15 | c15
      · have h := itT c15 h
        refine y_tabIn C dX7_think_23 (off := 121) (tgt := 144) (by rw [c15]; decide) (by rw [c15]; decide) (by rw [c15]; rfl) rfl ?_
        refine y_aload_n C dX7_think_144 rfl ?_
        refine y_getr C fl_X7_34 g1 hq2 dX7_think_145 ?_
        refine y_iload_n C dX7_think_148 rfl ?_
        obtain ⟨M36, eM36, h⟩ := ob h
        have eM36 := Option.some.inj eM36
        refine y_puti C fl_X7_73 rfl g4 rfl rfl dX7_think_149 eM36 ?_
        refine y_goto C dX7_think_152 (tgt := 215) rfl ?_
        have e0 := Option.some.inj h
        subst e0
        exact y_vret C E (Nat.zero_le _) (Nat.zero_le _) dX7_think_215
      replace h := itF c15 h
      refine y_tabOut C dX7_think_23 (tgt := 215) (by have q0 : (x1).toInt ≠ 1 := yNe c8; have q1 : (x1).toInt ≠ 2 := yNe c9; have q2 : (x1).toInt ≠ 3 := yNe c10; have q3 : (x1).toInt ≠ 4 := yNe c11; have q4 : (x1).toInt ≠ 5 := yNe c12; have q5 : (x1).toInt ≠ 6 := yNe c13; have q6 : (x1).toInt ≠ 7 := yNe c14; have q7 : (x1).toInt ≠ 8 := yNe c15; omega) rfl ?_
      have e0 := Option.some.inj h
      subst e0
      exact y_vret C E (Nat.zero_le _) (Nat.zero_le _) dX7_think_215
    · have h := itF c7 h
      have e0 := Option.some.inj h
      subst e0
      exact y_vret C E (Nat.zero_le _) (Nat.zero_le _) dX7_think_21
def b_X7_best_15 (K : yK) (t : Nat) (x_1 : Int32) (x_2 : Int32) (x_4 : Int32) (x_5 : Int32) : Nat → yM → Int32 → Int32 → Int32 → Option (Int32 × yM)
  | 0, _, _, _, _ => none
  | n + 1, M, u15_7, u15_8, u15_9 => (if gO K t 6 = true then (Option.bind (K.2.2 t 0) fun q2 => (if gO K q2 0 = true then (if (M q2 8) ≤ u15_9 then (some (u15_7, M)) else (Option.bind (b_X7_think K M t x_1 x_2 u15_9) fun r5 => (Option.bind (b_X7_passDays K r5 t x_4 ((0 : Int32)) ((0 : Int32)) ((0 : Int32))) fun r6 => (Option.bind (some (x_5 * r6.1)) fun v7 => (Option.bind (if v7 ≤ u15_8 then (some (u15_7, u15_8)) else (some (u15_9, v7))) fun j9 => (Option.bind (some (u15_9 + (1 : Int32))) fun v10 => (b_X7_best_15 K t x_1 x_2 x_4 x_5 n r6.2 j9.1 j9.2 v10))))))) else none)) else none)
set_option maxHeartbeats 4000000 in
set_option maxRecDepth 100000 in
theorem l_X7_best_15 {X : yX} {K : yK} {t : Nat} {x_1 : Int32} {x_2 : Int32} {x_4 : Int32} {x_5 : Int32} (C : yCx X cX7_best RX7 "best" rm_X7_best 11) : ∀ (n : Nat) (M : yM) (u15_7 : Int32) (u15_8 : Int32) (u15_9 : Int32) (x : (Int32 × yM)), b_X7_best_15 K t x_1 x_2 x_4 x_5 n M u15_7 u15_8 u15_9 = some x → ∀ (hX : Y X K x.2 0 0 70 [(7, .int x.1)] []), Y X K M 0 0 15 [(0, .ref t), (1, .int x_1), (2, .int x_2), (4, .int x_4), (5, .int x_5), (7, .int u15_7), (8, .int u15_8), (9, .int u15_9)] [] := by
  intro n
  induction n with
  | zero =>
    intro M u15_7 u15_8 u15_9 x h
    exact nomatch (show (none : Option _) = some x from h)
  | succ n ih =>
    intro M u15_7 u15_8 u15_9 x h hX
    rw [b_X7_best_15] at h
    refine y_iload C dX7_best_15 rfl ?_
    refine y_aload_n C dX7_best_17 rfl ?_
    obtain ⟨g1, h⟩ := gd h
    obtain ⟨q2, hq2, h⟩ := ob h
    refine y_getr C fl_X7_27 g1 hq2 dX7_best_18 ?_
    obtain ⟨g3, h⟩ := gd h
    refine y_geti C fl_X7_55 g3 dX7_best_21 ?_
    refine y_icmp_ge C dX7_best_24 (tgt := 70) rfl (fun c4 => ?_) (fun c4 => ?_)
    · have h := itT c4 h
      have e0 := Option.some.inj h
      subst e0
      exact y_sel [7] rfl hX
    · have h := itF c4 h
      refine y_aload_n C dX7_best_27 rfl ?_
      refine y_iload_n C dX7_best_28 rfl ?_
      refine y_iload_n C dX7_best_29 rfl ?_
      refine y_iload C dX7_best_30 rfl ?_
      obtain ⟨r5, hr5, h⟩ := ob h
      refine y_cV C [.int x_1, .int x_2, .int u15_9] (m_X7_think K M t x_1 x_2 u15_9) hr5 g1 cw_X7_191 rfl (by decide) ⟨rfl, rfl⟩ ⟨Nat.zero_le _, Nat.zero_le _⟩ (Nat.le_of_ble_eq_true rfl) rfl rfl rfl dX7_best_32 ?_
      refine y_iload C dX7_best_35 rfl ?_
      refine y_aload_n C dX7_best_37 rfl ?_
      refine y_iload C dX7_best_38 rfl ?_
      refine y_iconst C dX7_best_40 kc_0 ?_
      refine y_iconst C dX7_best_41 kc_0 ?_
      refine y_iconst C dX7_best_42 kc_0 ?_
      obtain ⟨r6, hr6, h⟩ := ob h
      refine y_cV C [.int x_4, .int (0 : Int32), .int (0 : Int32), .int (0 : Int32)] (m_X7_passDays K r5 t x_4 ((0 : Int32)) ((0 : Int32)) ((0 : Int32))) hr6 g1 cw_X7_195 rfl (by decide) ⟨rfl, rfl⟩ ⟨Nat.zero_le _, Nat.zero_le _⟩ (Nat.le_of_ble_eq_true rfl) rfl rfl rfl dX7_best_43 ?_
      refine y_imul C dX7_best_46 ?_
      obtain ⟨v7, ev7, h⟩ := ob h
      have ev7 := Option.some.inj ev7
      refine y_istore C dX7_best_47 (by decide) (L' := [(10, .int v7), (0, .ref t), (1, .int x_1), (2, .int x_2), (4, .int x_4), (5, .int x_5), (7, .int u15_7), (8, .int u15_8), (9, .int u15_9)]) (by subst ev7; rfl) ?_
      refine y_iload C dX7_best_49 rfl ?_
      refine y_iload C dX7_best_51 rfl ?_
      obtain ⟨j9, hj9, h⟩ := ob h
      have hJj9 : Y X K r6.2 0 0 64 [(0, .ref t), (1, .int x_1), (2, .int x_2), (4, .int x_4), (5, .int x_5), (7, .int j9.1), (8, .int j9.2), (9, .int u15_9)] [] := by
        obtain ⟨v10, ev10, h⟩ := ob h
        have ev10 := Option.some.inj ev10
        refine y_iinc C dX7_best_64 (by decide) rfl (v := v10) (by subst ev10; rfl) (L' := [(9, .int v10), (0, .ref t), (1, .int x_1), (2, .int x_2), (4, .int x_4), (5, .int x_5), (7, .int j9.1), (8, .int j9.2)]) rfl ?_
        refine y_goto C dX7_best_67 (tgt := 15) rfl ?_
        exact y_sel [0, 1, 2, 4, 5, 7, 8, 9] rfl (ih _ _ _ _ _  h hX)
      replace h := hj9
      refine y_icmp_le C dX7_best_53 (tgt := 64) rfl (fun c8 => ?_) (fun c8 => ?_)
      · have h := itT c8 h
        have e0 := Option.some.inj h
        subst e0
        exact y_sel [0, 1, 2, 4, 5, 7, 8, 9] rfl hJj9
      · have h := itF c8 h
        refine y_iload C dX7_best_56 rfl ?_
        refine y_istore C dX7_best_58 (by decide) (L' := [(8, .int v7), (10, .int v7), (0, .ref t), (1, .int x_1), (2, .int x_2), (4, .int x_4), (5, .int x_5), (7, .int u15_7), (9, .int u15_9)]) rfl ?_
        refine y_iload C dX7_best_60 rfl ?_
        refine y_istore C dX7_best_62 (by decide) (L' := [(7, .int u15_9), (8, .int v7), (10, .int v7), (0, .ref t), (1, .int x_1), (2, .int x_2), (4, .int x_4), (5, .int x_5), (9, .int u15_9)]) rfl ?_
        have e0 := Option.some.inj h
        subst e0
        exact y_sel [0, 1, 2, 4, 5, 7, 8, 9] rfl hJj9
set_option maxRecDepth 100000 in
def b_X7_best (K : yK) (M : yM) (t : Nat) (x1 : Int32) (x2 : Int32) (x3 : Int32) (x4 : Int32) (x5 : Int32) (x6 : Int32) : Option (Int32 × yM) := (Option.bind (some (x3 - (1 : Int32))) fun v1 => (Option.bind (some (x5 * x6)) fun v2 => (Option.bind (b_X7_best_15 K t x1 x2 x4 x5 1000 M v1 v2 x3) fun j3 => (some (j3.1, j3.2)))))
set_option maxHeartbeats 4000000 in
set_option maxRecDepth 100000 in
theorem m_X7_best (K : yK) (M : yM) (t : Nat) (x1 : Int32) (x2 : Int32) (x3 : Int32) (x4 : Int32) (x5 : Int32) (x6 : Int32) : yMet yX7_best cX7_best 11 (Option.some Jvm.ClassFile.FieldType.int) rm_X7_best K M [.ref t, .int x1, .int x2, .int x3, .int x4, .int x5, .int x6] (b_X7_best K M t x1 x2 x3 x4 x5 x6) (yGi K) := by
  refine yM_intro (by decide) (Nat.le_of_ble_eq_true rfl) (fun X r h C E => ?_)
  replace C : yCx X cX7_best RX7 "best" rm_X7_best 11 := C
  show Y X K M 0 0 0 [(0, .ref t), (1, .int x1), (2, .int x2), (3, .int x3), (4, .int x4), (5, .int x5), (6, .int x6)] []
  unfold b_X7_best at h
  refine y_iload_n C dX7_best_0 rfl ?_
  refine y_iconst C dX7_best_1 kc_1 ?_
  refine y_isub C dX7_best_2 ?_
  obtain ⟨v1, ev1, h⟩ := ob h
  have ev1 := Option.some.inj ev1
  refine y_istore C dX7_best_3 (by decide) (L' := [(7, .int v1), (0, .ref t), (1, .int x1), (2, .int x2), (3, .int x3), (4, .int x4), (5, .int x5), (6, .int x6)]) (by subst ev1; rfl) ?_
  refine y_iload C dX7_best_5 rfl ?_
  refine y_iload C dX7_best_7 rfl ?_
  refine y_imul C dX7_best_9 ?_
  obtain ⟨v2, ev2, h⟩ := ob h
  have ev2 := Option.some.inj ev2
  refine y_istore C dX7_best_10 (by decide) (L' := [(8, .int v2), (7, .int v1), (0, .ref t), (1, .int x1), (2, .int x2), (3, .int x3), (4, .int x4), (5, .int x5), (6, .int x6)]) (by subst ev2; rfl) ?_
  refine y_iload_n C dX7_best_12 rfl ?_
  refine y_istore C dX7_best_13 (by decide) (L' := [(9, .int x3), (8, .int v2), (7, .int v1), (0, .ref t), (1, .int x1), (2, .int x2), (3, .int x3), (4, .int x4), (5, .int x5), (6, .int x6)]) rfl ?_
  obtain ⟨j3, hj3, h⟩ := ob h
  refine y_sel [0, 1, 2, 4, 5, 7, 8, 9] rfl (l_X7_best_15 C 1000 _ _ _ _ _ hj3 ?_)
  refine y_iload C dX7_best_70 rfl ?_
  have e0 := Option.some.inj h
  subst e0
  exact y_iret C E (Nat.zero_le _) (Nat.zero_le _) dX7_best_72
set_option maxRecDepth 100000 in
def b_X7_isDays (K : yK) (M : yM) (x1 : Int32) : Option Bool := (if x1 < 0 then (some false) else (if (60 : Int32) < x1 then (some false) else (some true)))
set_option maxHeartbeats 4000000 in
set_option maxRecDepth 100000 in
theorem m_X7_isDays (K : yK) (M : yM) (x1 : Int32) : yMet yX7_isDays cX7_isDays 1 (Option.some Jvm.ClassFile.FieldType.boolean) rm_X7_isDays K M [.int x1] (b_X7_isDays K M x1) (yFb K M) := by
  refine yM_intro (by decide) (Nat.le_of_ble_eq_true rfl) (fun X r h C E => ?_)
  replace C : yCx X cX7_isDays RX7 "isDays" rm_X7_isDays 1 := C
  show Y X K M 0 0 0 [(0, .int x1)] []
  unfold b_X7_isDays at h
  refine y_iload_n C dX7_isDays_0 rfl ?_
  refine y_if_lt C dX7_isDays_1 (tgt := 14) rfl (fun c1 => ?_) (fun c1 => ?_)
  · have h := itT c1 h
    refine y_iconst C dX7_isDays_14 kc_0 ?_
    have e0 := Option.some.inj h
    subst e0
    exact y_bret (b := false) C E (Nat.zero_le _) (Nat.zero_le _) dX7_isDays_15
  · have h := itF c1 h
    refine y_iload_n C dX7_isDays_4 rfl ?_
    refine y_bipush C dX7_isDays_5 kb_60 ?_
    refine y_icmp_gt C dX7_isDays_7 (tgt := 14) rfl (fun c2 => ?_) (fun c2 => ?_)
    · have h := itT c2 h
      refine y_iconst C dX7_isDays_14 kc_0 ?_
      have e0 := Option.some.inj h
      subst e0
      exact y_bret (b := false) C E (Nat.zero_le _) (Nat.zero_le _) dX7_isDays_15
    · have h := itF c2 h
      refine y_iconst C dX7_isDays_10 kc_1 ?_
      refine y_goto C dX7_isDays_11 (tgt := 15) rfl ?_
      have e0 := Option.some.inj h
      subst e0
      exact y_bret (b := true) C E (Nat.zero_le _) (Nat.zero_le _) dX7_isDays_15
set_option maxRecDepth 100000 in
def b_X7_isZeroOrOne (K : yK) (M : yM) (x1 : Int32) : Option Bool := (if x1 = 0 then (some true) else (if x1 = (1 : Int32) then (some true) else (some false)))
set_option maxHeartbeats 4000000 in
set_option maxRecDepth 100000 in
theorem m_X7_isZeroOrOne (K : yK) (M : yM) (x1 : Int32) : yMet yX7_isZeroOrOne cX7_isZeroOrOne 1 (Option.some Jvm.ClassFile.FieldType.boolean) rm_X7_isZeroOrOne K M [.int x1] (b_X7_isZeroOrOne K M x1) (yFb K M) := by
  refine yM_intro (by decide) (Nat.le_of_ble_eq_true rfl) (fun X r h C E => ?_)
  replace C : yCx X cX7_isZeroOrOne RX7 "isZeroOrOne" rm_X7_isZeroOrOne 1 := C
  show Y X K M 0 0 0 [(0, .int x1)] []
  unfold b_X7_isZeroOrOne at h
  refine y_iload_n C dX7_isZeroOrOne_0 rfl ?_
  refine y_if_eq C dX7_isZeroOrOne_1 (tgt := 9) rfl (fun c1 => ?_) (fun c1 => ?_)
  · have h := itT c1 h
    refine y_iconst C dX7_isZeroOrOne_9 kc_1 ?_
    refine y_goto C dX7_isZeroOrOne_10 (tgt := 14) rfl ?_
    have e0 := Option.some.inj h
    subst e0
    exact y_bret (b := true) C E (Nat.zero_le _) (Nat.zero_le _) dX7_isZeroOrOne_14
  · have h := itF c1 h
    refine y_iload_n C dX7_isZeroOrOne_4 rfl ?_
    refine y_iconst C dX7_isZeroOrOne_5 kc_1 ?_
    refine y_icmp_ne C dX7_isZeroOrOne_6 (tgt := 13) rfl (fun c2 => ?_) (fun c2 => ?_)
    · have h := itF c2 h
      refine y_iconst C dX7_isZeroOrOne_13 kc_0 ?_
      have e0 := Option.some.inj h
      subst e0
      exact y_bret (b := false) C E (Nat.zero_le _) (Nat.zero_le _) dX7_isZeroOrOne_14
    · have h := itT c2 h
      refine y_iconst C dX7_isZeroOrOne_9 kc_1 ?_
      refine y_goto C dX7_isZeroOrOne_10 (tgt := 14) rfl ?_
      have e0 := Option.some.inj h
      subst e0
      exact y_bret (b := true) C E (Nat.zero_le _) (Nat.zero_le _) dX7_isZeroOrOne_14
set_option maxRecDepth 100000 in
def b_X7_worthIf (K : yK) (M : yM) (t : Nat) (x1 : Int32) (x2 : Int32) (x3 : Int32) (x4 : Int32) : Option (Int32 × yM) := (if gO K t 6 = true then (Option.bind (b_X7_think K M t x1 x2 x3) fun r2 => (Option.bind (b_X7_passDays K r2 t x4 ((0 : Int32)) ((0 : Int32)) ((0 : Int32))) fun r3 => (some (r3.1, r3.2)))) else none)
set_option maxHeartbeats 4000000 in
set_option maxRecDepth 100000 in
theorem m_X7_worthIf (K : yK) (M : yM) (t : Nat) (x1 : Int32) (x2 : Int32) (x3 : Int32) (x4 : Int32) : yMet yX7_worthIf cX7_worthIf 5 (Option.some Jvm.ClassFile.FieldType.int) rm_X7_worthIf K M [.ref t, .int x1, .int x2, .int x3, .int x4] (b_X7_worthIf K M t x1 x2 x3 x4) (yGi K) := by
  refine yM_intro (by decide) (Nat.le_of_ble_eq_true rfl) (fun X r h C E => ?_)
  replace C : yCx X cX7_worthIf RX7 "worthIf" rm_X7_worthIf 5 := C
  show Y X K M 0 0 0 [(0, .ref t), (1, .int x1), (2, .int x2), (3, .int x3), (4, .int x4)] []
  unfold b_X7_worthIf at h
  refine y_aload_n C dX7_worthIf_0 rfl ?_
  refine y_iload_n C dX7_worthIf_1 rfl ?_
  refine y_iload_n C dX7_worthIf_2 rfl ?_
  refine y_iload_n C dX7_worthIf_3 rfl ?_
  obtain ⟨g1, h⟩ := gd h
  obtain ⟨r2, hr2, h⟩ := ob h
  refine y_cV C [.int x1, .int x2, .int x3] (m_X7_think K M t x1 x2 x3) hr2 g1 cw_X7_191 rfl (by decide) ⟨rfl, rfl⟩ ⟨Nat.zero_le _, Nat.zero_le _⟩ (Nat.le_of_ble_eq_true rfl) rfl rfl rfl dX7_worthIf_4 ?_
  refine y_aload_n C dX7_worthIf_7 rfl ?_
  refine y_iload C dX7_worthIf_8 rfl ?_
  refine y_iconst C dX7_worthIf_10 kc_0 ?_
  refine y_iconst C dX7_worthIf_11 kc_0 ?_
  refine y_iconst C dX7_worthIf_12 kc_0 ?_
  obtain ⟨r3, hr3, h⟩ := ob h
  refine y_cV C [.int x4, .int (0 : Int32), .int (0 : Int32), .int (0 : Int32)] (m_X7_passDays K r2 t x4 ((0 : Int32)) ((0 : Int32)) ((0 : Int32))) hr3 g1 cw_X7_195 rfl (by decide) ⟨rfl, rfl⟩ ⟨Nat.zero_le _, Nat.zero_le _⟩ (Nat.le_of_ble_eq_true rfl) rfl rfl rfl dX7_worthIf_13 ?_
  have e0 := Option.some.inj h
  subst e0
  exact y_iret C E (Nat.zero_le _) (Nat.zero_le _) dX7_worthIf_16
set_option maxRecDepth 100000 in
def b_X7_begin (K : yK) (M : yM) (t : Nat) (x1 : Int32) (x2 : Int32) : Option (Int32 × yM) := (Option.bind (b_X7_isDays K M x1) fun r1 => (if r1 = true then (Option.bind (b_X7_isZeroOrOne K M x2) fun r3 => (if r3 = true then (if gO K t 6 = true then (Option.bind (b_X7_best K M t ((1 : Int32)) ((0 : Int32)) ((0 : Int32)) x1 ((1 : Int32)) ((-1 : Int32))) fun r6 => (if x2 = 0 then (some (r6.1, r6.2)) else (if 0 ≤ r6.1 then (Option.bind (b_X7_worthIf K r6.2 t ((1 : Int32)) ((0 : Int32)) r6.1 x1) fun r9 => (some (r9.1, r9.2))) else (some ((0 : Int32), r6.2))))) else none) else (some ((-2 : Int32), M)))) else (some ((-2 : Int32), M))))
set_option maxHeartbeats 4000000 in
set_option maxRecDepth 100000 in
theorem m_X7_begin (K : yK) (M : yM) (t : Nat) (x1 : Int32) (x2 : Int32) : yMet yX7_begin cX7_begin 4 (Option.some Jvm.ClassFile.FieldType.int) rm_X7_begin K M [.ref t, .int x1, .int x2] (b_X7_begin K M t x1 x2) (yGi K) := by
  refine yM_intro (by decide) (Nat.le_of_ble_eq_true rfl) (fun X r h C E => ?_)
  replace C : yCx X cX7_begin RX7 "begin" rm_X7_begin 4 := C
  show Y X K M 0 0 0 [(0, .ref t), (1, .int x1), (2, .int x2)] []
  unfold b_X7_begin at h
  refine y_iload_n C dX7_begin_0 rfl ?_
  obtain ⟨r1, hr1, h⟩ := ob h
  refine y_cS C [.int x1] (m_X7_isDays K M x1) hr1 cw_X7_188 rfl (by decide) ⟨rfl, rfl⟩ ⟨Nat.zero_le _, Nat.zero_le _⟩ (Nat.le_of_ble_eq_true rfl) rfl rfl rfl dX7_begin_1 ?_
  refine y_ifeqB C dX7_begin_4 (tgt := 14) rfl (fun c2 => ?_) (fun c2 => ?_)
  · have h := itFb c2 h
    refine y_bipush C dX7_begin_14 kb_m2 ?_
    have e0 := Option.some.inj h
    subst e0
    exact y_iret C E (Nat.zero_le _) (Nat.zero_le _) dX7_begin_16
  · have h := itT c2 h
    refine y_iload_n C dX7_begin_7 rfl ?_
    obtain ⟨r3, hr3, h⟩ := ob h
    refine y_cS C [.int x2] (m_X7_isZeroOrOne K M x2) hr3 cw_X7_179 rfl (by decide) ⟨rfl, rfl⟩ ⟨Nat.zero_le _, Nat.zero_le _⟩ (Nat.le_of_ble_eq_true rfl) rfl rfl rfl dX7_begin_8 ?_
    refine y_ifneB C dX7_begin_11 (tgt := 17) rfl (fun c4 => ?_) (fun c4 => ?_)
    · have h := itT c4 h
      refine y_aload_n C dX7_begin_17 rfl ?_
      refine y_iconst C dX7_begin_18 kc_1 ?_
      refine y_iconst C dX7_begin_19 kc_0 ?_
      refine y_iconst C dX7_begin_20 kc_0 ?_
      refine y_iload_n C dX7_begin_21 rfl ?_
      refine y_iconst C dX7_begin_22 kc_1 ?_
      refine y_iconst C dX7_begin_23 kc_m1 ?_
      obtain ⟨g5, h⟩ := gd h
      obtain ⟨r6, hr6, h⟩ := ob h
      refine y_cV C [.int (1 : Int32), .int (0 : Int32), .int (0 : Int32), .int x1, .int (1 : Int32), .int (-1 : Int32)] (m_X7_best K M t ((1 : Int32)) ((0 : Int32)) ((0 : Int32)) x1 ((1 : Int32)) ((-1 : Int32))) hr6 g5 cw_X7_198 rfl (by decide) ⟨rfl, rfl⟩ ⟨Nat.zero_le _, Nat.zero_le _⟩ (Nat.le_of_ble_eq_true rfl) rfl rfl rfl dX7_begin_24 ?_
      refine y_istore_n C dX7_begin_27 (by decide) (L' := [(3, .int r6.1), (0, .ref t), (1, .int x1), (2, .int x2)]) rfl ?_
      refine y_iload_n C dX7_begin_28 rfl ?_
      refine y_if_ne C dX7_begin_29 (tgt := 34) rfl (fun c7 => ?_) (fun c7 => ?_)
      · have h := itF c7 h
        refine y_iload_n C dX7_begin_34 rfl ?_
        refine y_if_ge C dX7_begin_35 (tgt := 42) rfl (fun c8 => ?_) (fun c8 => ?_)
        · have h := itT c8 h
          refine y_aload_n C dX7_begin_42 rfl ?_
          refine y_iconst C dX7_begin_43 kc_1 ?_
          refine y_iconst C dX7_begin_44 kc_0 ?_
          refine y_iload_n C dX7_begin_45 rfl ?_
          refine y_iload_n C dX7_begin_46 rfl ?_
          obtain ⟨r9, hr9, h⟩ := ob h
          refine y_cV C [.int (1 : Int32), .int (0 : Int32), .int r6.1, .int x1] (m_X7_worthIf K r6.2 t ((1 : Int32)) ((0 : Int32)) r6.1 x1) hr9 g5 cw_X7_202 rfl (by decide) ⟨rfl, rfl⟩ ⟨Nat.zero_le _, Nat.zero_le _⟩ (Nat.le_of_ble_eq_true rfl) rfl rfl rfl dX7_begin_47 ?_
          have e0 := Option.some.inj h
          subst e0
          exact y_iret C E (Nat.zero_le _) (Nat.zero_le _) dX7_begin_50
        · have h := itF c8 h
          refine y_iconst C dX7_begin_38 kc_0 ?_
          refine y_goto C dX7_begin_39 (tgt := 50) rfl ?_
          have e0 := Option.some.inj h
          subst e0
          exact y_iret C E (Nat.zero_le _) (Nat.zero_le _) dX7_begin_50
      · have h := itT c7 h
        refine y_iload_n C dX7_begin_32 rfl ?_
        have e0 := Option.some.inj h
        subst e0
        exact y_iret C E (Nat.zero_le _) (Nat.zero_le _) dX7_begin_33
    · have h := itFb c4 h
      refine y_bipush C dX7_begin_14 kb_m2 ?_
      have e0 := Option.some.inj h
      subst e0
      exact y_iret C E (Nat.zero_le _) (Nat.zero_le _) dX7_begin_16
def b_X7_firstOtherwise_2 (K : yK) (t : Nat) (t_1 : Nat) : Nat → yM → Int32 → Option (yM ⊕ (Int32 × yM))
  | 0, _, _ => none
  | n + 1, M, u2_2 => (if gO K t_1 4 = true then (if (M t_1 2) ≤ u2_2 then (some (.inl M)) else (if gO K t 6 = true then (Option.bind (K.2.2 t 2) fun q4 => (if gO K q4 0 = true then (Option.bind (b_X0_passDay K M q4) fun r6 => (Option.bind (b_X0_itself K r6 q4) fun r7 => (Option.bind (b_X0_held K r7.2 q4 r7.1) fun r8 => (Option.bind (K.2.2 t_1 0) fun q9 => (if gA K q9 u2_2 = true then (if r8 = (r7.2 q9 (u2_2).toNatClampNeg) then (Option.bind (some (u2_2 + (1 : Int32))) fun v12 => (b_X7_firstOtherwise_2 K t t_1 n r7.2 v12)) else (some (.inr (u2_2, r7.2)))) else none))))) else none)) else none)) else none)
set_option maxHeartbeats 4000000 in
set_option maxRecDepth 100000 in
theorem l_X7_firstOtherwise_2 {X : yX} {K : yK} {K0 : yK} {M0 : yM} {t : Nat} {t_1 : Nat} (C : yCx X cX7_firstOtherwise RX7 "firstOtherwise" rm_X7_firstOtherwise 3) : ∀ (n : Nat) (M : yM) (u2_2 : Int32) (x : (yM ⊕ (Int32 × yM))), b_X7_firstOtherwise_2 K t t_1 n M u2_2 = some x → ∀ (hX : ∀ x8, x = .inl x8 → Y X K x8 0 0 48 [] []), ∀ (hE : ∀ x9, x = .inr x9 → yRt X (Option.some Jvm.ClassFile.FieldType.int) K0 M0 ((yGi K) x9).1 ((yGi K) x9).2.1 ((yGi K) x9).2.2 0 0), Y X K M 0 0 2 [(0, .ref t), (1, .ref t_1), (2, .int u2_2)] [] := by
  intro n
  induction n with
  | zero =>
    intro M u2_2 x h
    exact nomatch (show (none : Option _) = some x from h)
  | succ n ih =>
    intro M u2_2 x h hX hE
    rw [b_X7_firstOtherwise_2] at h
    refine y_iload_n C dX7_firstOtherwise_2 rfl ?_
    refine y_aload_n C dX7_firstOtherwise_3 rfl ?_
    obtain ⟨g1, h⟩ := gd h
    refine y_geti C fl_X7_241 g1 dX7_firstOtherwise_4 ?_
    refine y_icmp_ge C dX7_firstOtherwise_7 (tgt := 48) rfl (fun c2 => ?_) (fun c2 => ?_)
    · have h := itT c2 h
      have e0 := Option.some.inj h
      subst e0
      exact y_sel [] rfl (hX _ rfl)
    · have h := itF c2 h
      refine y_aload_n C dX7_firstOtherwise_10 rfl ?_
      obtain ⟨g3, h⟩ := gd h
      obtain ⟨q4, hq4, h⟩ := ob h
      refine y_getr C fl_X7_34 g3 hq4 dX7_firstOtherwise_11 ?_
      obtain ⟨g5, h⟩ := gd h
      obtain ⟨r6, hr6, h⟩ := ob h
      refine y_cV C [] (m_X0_passDay K M q4) hr6 g5 cw_X7_158 rfl (by decide) ⟨rfl, rfl⟩ ⟨Nat.zero_le _, Nat.zero_le _⟩ (Nat.le_of_ble_eq_true rfl) rfl rfl rfl dX7_firstOtherwise_14 ?_
      refine y_aload_n C dX7_firstOtherwise_17 rfl ?_
      refine y_getr C fl_X7_34 g3 hq4 dX7_firstOtherwise_18 ?_
      refine y_aload_n C dX7_firstOtherwise_21 rfl ?_
      refine y_getr C fl_X7_34 g3 hq4 dX7_firstOtherwise_22 ?_
      obtain ⟨r7, hr7, h⟩ := ob h
      refine y_cV C [] (m_X0_itself K r6 q4) hr7 g5 cw_X7_164 rfl (by decide) ⟨rfl, rfl⟩ ⟨Nat.zero_le _, Nat.zero_le _⟩ (Nat.le_of_ble_eq_true rfl) rfl rfl rfl dX7_firstOtherwise_25 ?_
      obtain ⟨r8, hr8, h⟩ := ob h
      refine y_cV C [.int r7.1] (m_X0_held K r7.2 q4 r7.1) hr8 g5 cw_X7_167 rfl (by decide) ⟨rfl, rfl⟩ ⟨Nat.zero_le _, Nat.zero_le _⟩ (Nat.le_of_ble_eq_true rfl) rfl rfl rfl dX7_firstOtherwise_28 ?_
      refine y_aload_n C dX7_firstOtherwise_31 rfl ?_
      obtain ⟨q9, hq9, h⟩ := ob h
      refine y_getr C fl_X7_243 g1 hq9 dX7_firstOtherwise_32 ?_
      refine y_iload_n C dX7_firstOtherwise_35 rfl ?_
      obtain ⟨g10, h⟩ := gd h
      refine y_iald C g10 dX7_firstOtherwise_36 ?_
      refine y_icmp_eq C dX7_firstOtherwise_37 (tgt := 42) rfl (fun c11 => ?_) (fun c11 => ?_)
      · have h := itT c11 h
        obtain ⟨v12, ev12, h⟩ := ob h
        have ev12 := Option.some.inj ev12
        refine y_iinc C dX7_firstOtherwise_42 (by decide) rfl (v := v12) (by subst ev12; rfl) (L' := [(2, .int v12), (0, .ref t), (1, .ref t_1)]) rfl ?_
        refine y_goto C dX7_firstOtherwise_45 (tgt := 2) rfl ?_
        exact y_sel [0, 1, 2] rfl (ih _ _ _  h hX hE)
      · have h := itF c11 h
        refine y_iload_n C dX7_firstOtherwise_40 rfl ?_
        have e0 := Option.some.inj h
        subst e0
        have E := hE _ rfl
        exact y_iret C E (Nat.zero_le _) (Nat.zero_le _) dX7_firstOtherwise_41
set_option maxRecDepth 100000 in
def b_X7_firstOtherwise (K : yK) (M : yM) (t : Nat) (a1 : Nat) : Option (Int32 × yM) := (Option.bind (b_X7_firstOtherwise_2 K t a1 1000 M ((0 : Int32))) fun x9 => Sum.elim (fun j1 => (some ((-1 : Int32), j1))) (fun r9 => (some r9)) x9)
set_option maxHeartbeats 4000000 in
set_option maxRecDepth 100000 in
theorem m_X7_firstOtherwise (K : yK) (M : yM) (t : Nat) (a1 : Nat) : yMet yX7_firstOtherwise cX7_firstOtherwise 3 (Option.some Jvm.ClassFile.FieldType.int) rm_X7_firstOtherwise K M [.ref t, .ref a1] (b_X7_firstOtherwise K M t a1) (yGi K) := by
  refine yM_intro (by decide) (Nat.le_of_ble_eq_true rfl) (fun X r h C E => ?_)
  replace C : yCx X cX7_firstOtherwise RX7 "firstOtherwise" rm_X7_firstOtherwise 3 := C
  show Y X K M 0 0 0 [(0, .ref t), (1, .ref a1)] []
  unfold b_X7_firstOtherwise at h
  refine y_iconst C dX7_firstOtherwise_0 kc_0 ?_
  refine y_istore_n C dX7_firstOtherwise_1 (by decide) (L' := [(2, .int (0)), (0, .ref t), (1, .ref a1)]) rfl ?_
  obtain ⟨x9, hx9, h⟩ := ob h
  refine y_sel [0, 1, 2] rfl (l_X7_firstOtherwise_2 (K0 := K) (M0 := M) C 1000 _ _ _ hx9 (fun j1 e9 => ?_) (fun r9 e9 => ?_))
  · subst e9
    dsimp only [Sum.elim_inl] at h
    refine y_iconst C dX7_firstOtherwise_48 kc_m1 ?_
    have e0 := Option.some.inj h
    subst e0
    exact y_iret C E (Nat.zero_le _) (Nat.zero_le _) dX7_firstOtherwise_49
  · subst e9
    dsimp only [Sum.elim_inr] at h
    have e0 := Option.some.inj h
    subst e0
    exact E
def b_X7_fitting_7 (K : yK) (t : Nat) (t_1 : Nat) (x_2 : Int32) (x_3 : Int32) (x_4 : Int32) (x_5 : Int32) : Nat → yM → Int32 → Int32 → Option (Int32 × yM)
  | 0, _, _, _ => none
  | n + 1, M, u7_6, u7_7 => (if x_5 ≤ u7_7 then (some (u7_6, M)) else (if gO K t 6 = true then (Option.bind (b_X7_think K M t x_2 x_3 u7_7) fun r3 => (Option.bind (b_X7_firstOtherwise K r3 t t_1) fun r4 => (Option.bind (if r4.1 = (-1 : Int32) then (Option.bind (some (u7_6 ||| ((1 : Int32) <<< ((u7_7 - x_4) &&& 31)))) fun v7 => (some v7)) else (some u7_6)) fun j6 => (Option.bind (some (u7_7 + (1 : Int32))) fun v8 => (b_X7_fitting_7 K t t_1 x_2 x_3 x_4 x_5 n r4.2 j6 v8))))) else none))
set_option maxHeartbeats 4000000 in
set_option maxRecDepth 100000 in
theorem l_X7_fitting_7 {X : yX} {K : yK} {t : Nat} {t_1 : Nat} {x_2 : Int32} {x_3 : Int32} {x_4 : Int32} {x_5 : Int32} (C : yCx X cX7_fitting RX7 "fitting" rm_X7_fitting 8) : ∀ (n : Nat) (M : yM) (u7_6 : Int32) (u7_7 : Int32) (x : (Int32 × yM)), b_X7_fitting_7 K t t_1 x_2 x_3 x_4 x_5 n M u7_6 u7_7 = some x → ∀ (hX : Y X K x.2 0 0 49 [(6, .int x.1)] []), Y X K M 0 0 7 [(0, .ref t), (1, .ref t_1), (2, .int x_2), (3, .int x_3), (4, .int x_4), (5, .int x_5), (6, .int u7_6), (7, .int u7_7)] [] := by
  intro n
  induction n with
  | zero =>
    intro M u7_6 u7_7 x h
    exact nomatch (show (none : Option _) = some x from h)
  | succ n ih =>
    intro M u7_6 u7_7 x h hX
    rw [b_X7_fitting_7] at h
    refine y_iload C dX7_fitting_7 rfl ?_
    refine y_iload C dX7_fitting_9 rfl ?_
    refine y_icmp_ge C dX7_fitting_11 (tgt := 49) rfl (fun c1 => ?_) (fun c1 => ?_)
    · have h := itT c1 h
      have e0 := Option.some.inj h
      subst e0
      exact y_sel [6] rfl hX
    · have h := itF c1 h
      refine y_aload_n C dX7_fitting_14 rfl ?_
      refine y_iload_n C dX7_fitting_15 rfl ?_
      refine y_iload_n C dX7_fitting_16 rfl ?_
      refine y_iload C dX7_fitting_17 rfl ?_
      obtain ⟨g2, h⟩ := gd h
      obtain ⟨r3, hr3, h⟩ := ob h
      refine y_cV C [.int x_2, .int x_3, .int u7_7] (m_X7_think K M t x_2 x_3 u7_7) hr3 g2 cw_X7_191 rfl (by decide) ⟨rfl, rfl⟩ ⟨Nat.zero_le _, Nat.zero_le _⟩ (Nat.le_of_ble_eq_true rfl) rfl rfl rfl dX7_fitting_19 ?_
      refine y_aload_n C dX7_fitting_22 rfl ?_
      refine y_aload_n C dX7_fitting_23 rfl ?_
      obtain ⟨r4, hr4, h⟩ := ob h
      refine y_cV C [.ref t_1] (m_X7_firstOtherwise K r3 t t_1) hr4 g2 cw_X7_219 rfl (by decide) ⟨rfl, rfl⟩ ⟨Nat.zero_le _, Nat.zero_le _⟩ (Nat.le_of_ble_eq_true rfl) rfl rfl rfl dX7_fitting_24 ?_
      refine y_iconst C dX7_fitting_27 kc_m1 ?_
      obtain ⟨j6, hj6, h⟩ := ob h
      have hJj6 : Y X K r4.2 0 0 43 [(0, .ref t), (1, .ref t_1), (2, .int x_2), (3, .int x_3), (4, .int x_4), (5, .int x_5), (6, .int j6), (7, .int u7_7)] [] := by
        obtain ⟨v8, ev8, h⟩ := ob h
        have ev8 := Option.some.inj ev8
        refine y_iinc C dX7_fitting_43 (by decide) rfl (v := v8) (by subst ev8; rfl) (L' := [(7, .int v8), (0, .ref t), (1, .ref t_1), (2, .int x_2), (3, .int x_3), (4, .int x_4), (5, .int x_5), (6, .int j6)]) rfl ?_
        refine y_goto C dX7_fitting_46 (tgt := 7) rfl ?_
        exact y_sel [0, 1, 2, 3, 4, 5, 6, 7] rfl (ih _ _ _ _  h hX)
      replace h := hj6
      refine y_icmp_ne C dX7_fitting_28 (tgt := 43) rfl (fun c5 => ?_) (fun c5 => ?_)
      · have h := itF c5 h
        have e0 := Option.some.inj h
        subst e0
        exact y_sel [0, 1, 2, 3, 4, 5, 6, 7] rfl hJj6
      · have h := itT c5 h
        refine y_iload C dX7_fitting_31 rfl ?_
        refine y_iconst C dX7_fitting_33 kc_1 ?_
        refine y_iload C dX7_fitting_34 rfl ?_
        refine y_iload C dX7_fitting_36 rfl ?_
        refine y_isub C dX7_fitting_38 ?_
        refine y_ishl C dX7_fitting_39 ?_
        refine y_ior C dX7_fitting_40 ?_
        obtain ⟨v7, ev7, h⟩ := ob h
        have ev7 := Option.some.inj ev7
        refine y_istore C dX7_fitting_41 (by decide) (L' := [(6, .int v7), (0, .ref t), (1, .ref t_1), (2, .int x_2), (3, .int x_3), (4, .int x_4), (5, .int x_5), (7, .int u7_7)]) (by subst ev7; rfl) ?_
        have e0 := Option.some.inj h
        subst e0
        exact y_sel [0, 1, 2, 3, 4, 5, 6, 7] rfl hJj6
set_option maxRecDepth 100000 in
def b_X7_fitting (K : yK) (M : yM) (t : Nat) (a1 : Nat) (x2 : Int32) (x3 : Int32) (x4 : Int32) (x5 : Int32) : Option (Int32 × yM) := (Option.bind (b_X7_fitting_7 K t a1 x2 x3 x4 x5 1000 M ((0 : Int32)) x4) fun j1 => (some (j1.1, j1.2)))
set_option maxHeartbeats 4000000 in
set_option maxRecDepth 100000 in
theorem m_X7_fitting (K : yK) (M : yM) (t : Nat) (a1 : Nat) (x2 : Int32) (x3 : Int32) (x4 : Int32) (x5 : Int32) : yMet yX7_fitting cX7_fitting 8 (Option.some Jvm.ClassFile.FieldType.int) rm_X7_fitting K M [.ref t, .ref a1, .int x2, .int x3, .int x4, .int x5] (b_X7_fitting K M t a1 x2 x3 x4 x5) (yGi K) := by
  refine yM_intro (by decide) (Nat.le_of_ble_eq_true rfl) (fun X r h C E => ?_)
  replace C : yCx X cX7_fitting RX7 "fitting" rm_X7_fitting 8 := C
  show Y X K M 0 0 0 [(0, .ref t), (1, .ref a1), (2, .int x2), (3, .int x3), (4, .int x4), (5, .int x5)] []
  unfold b_X7_fitting at h
  refine y_iconst C dX7_fitting_0 kc_0 ?_
  refine y_istore C dX7_fitting_1 (by decide) (L' := [(6, .int (0)), (0, .ref t), (1, .ref a1), (2, .int x2), (3, .int x3), (4, .int x4), (5, .int x5)]) rfl ?_
  refine y_iload C dX7_fitting_3 rfl ?_
  refine y_istore C dX7_fitting_5 (by decide) (L' := [(7, .int x4), (6, .int (0)), (0, .ref t), (1, .ref a1), (2, .int x2), (3, .int x3), (4, .int x4), (5, .int x5)]) rfl ?_
  obtain ⟨j1, hj1, h⟩ := ob h
  refine y_sel [0, 1, 2, 3, 4, 5, 6, 7] rfl (l_X7_fitting_7 C 1000 _ _ _ _ hj1 ?_)
  refine y_iload C dX7_fitting_49 rfl ?_
  have e0 := Option.some.inj h
  subst e0
  exact y_iret C E (Nat.zero_le _) (Nat.zero_le _) dX7_fitting_51
set_option maxRecDepth 100000 in
def b_X7_isSheet (K : yK) (M : yM) (x1 : Int32) : Option Bool := (if x1 < 0 then (some false) else (if (4 : Int32) ≤ x1 then (some false) else (some true)))
set_option maxHeartbeats 4000000 in
set_option maxRecDepth 100000 in
theorem m_X7_isSheet (K : yK) (M : yM) (x1 : Int32) : yMet yX7_isSheet cX7_isSheet 1 (Option.some Jvm.ClassFile.FieldType.boolean) rm_X7_isSheet K M [.int x1] (b_X7_isSheet K M x1) (yFb K M) := by
  refine yM_intro (by decide) (Nat.le_of_ble_eq_true rfl) (fun X r h C E => ?_)
  replace C : yCx X cX7_isSheet RX7 "isSheet" rm_X7_isSheet 1 := C
  show Y X K M 0 0 0 [(0, .int x1)] []
  unfold b_X7_isSheet at h
  refine y_iload_n C dX7_isSheet_0 rfl ?_
  refine y_if_lt C dX7_isSheet_1 (tgt := 13) rfl (fun c1 => ?_) (fun c1 => ?_)
  · have h := itT c1 h
    refine y_iconst C dX7_isSheet_13 kc_0 ?_
    have e0 := Option.some.inj h
    subst e0
    exact y_bret (b := false) C E (Nat.zero_le _) (Nat.zero_le _) dX7_isSheet_14
  · have h := itF c1 h
    refine y_iload_n C dX7_isSheet_4 rfl ?_
    refine y_iconst C dX7_isSheet_5 kc_4 ?_
    refine y_icmp_ge C dX7_isSheet_6 (tgt := 13) rfl (fun c2 => ?_) (fun c2 => ?_)
    · have h := itT c2 h
      refine y_iconst C dX7_isSheet_13 kc_0 ?_
      have e0 := Option.some.inj h
      subst e0
      exact y_bret (b := false) C E (Nat.zero_le _) (Nat.zero_le _) dX7_isSheet_14
    · have h := itF c2 h
      refine y_iconst C dX7_isSheet_9 kc_1 ?_
      refine y_goto C dX7_isSheet_10 (tgt := 14) rfl ?_
      have e0 := Option.some.inj h
      subst e0
      exact y_bret (b := true) C E (Nat.zero_le _) (Nat.zero_le _) dX7_isSheet_14
set_option maxRecDepth 100000 in
def b_X7_refusalOf (K : yK) (M : yM) (t : Nat) (x1 : Int32) : Option Int32 := (Option.bind (b_X7_isSheet K M x1) fun r1 => (if r1 = true then (if gO K t 6 = true then (Option.bind (K.2.2 t 4) fun q4 => (if gQ K q4 2 x1 = true then (Option.bind (K.2.2 q4 (x1).toNatClampNeg) fun q6 => (if gO K q6 4 = true then (Option.bind (b_X5_isMissing K M q6) fun r8 => (if r8 = true then (some (-11 : Int32)) else (some (0 : Int32)))) else none)) else none)) else none) else (some (-2 : Int32))))
set_option maxHeartbeats 4000000 in
set_option maxRecDepth 100000 in
theorem m_X7_refusalOf (K : yK) (M : yM) (t : Nat) (x1 : Int32) : yMet yX7_refusalOf cX7_refusalOf 2 (Option.some Jvm.ClassFile.FieldType.int) rm_X7_refusalOf K M [.ref t, .int x1] (b_X7_refusalOf K M t x1) (yFi K M) := by
  refine yM_intro (by decide) (Nat.le_of_ble_eq_true rfl) (fun X r h C E => ?_)
  replace C : yCx X cX7_refusalOf RX7 "refusalOf" rm_X7_refusalOf 2 := C
  show Y X K M 0 0 0 [(0, .ref t), (1, .int x1)] []
  unfold b_X7_refusalOf at h
  refine y_iload_n C dX7_refusalOf_0 rfl ?_
  obtain ⟨r1, hr1, h⟩ := ob h
  refine y_cS C [.int x1] (m_X7_isSheet K M x1) hr1 cw_X7_227 rfl (by decide) ⟨rfl, rfl⟩ ⟨Nat.zero_le _, Nat.zero_le _⟩ (Nat.le_of_ble_eq_true rfl) rfl rfl rfl dX7_refusalOf_1 ?_
  refine y_ifneB C dX7_refusalOf_4 (tgt := 10) rfl (fun c2 => ?_) (fun c2 => ?_)
  · have h := itT c2 h
    refine y_aload_n C dX7_refusalOf_10 rfl ?_
    obtain ⟨g3, h⟩ := gd h
    obtain ⟨q4, hq4, h⟩ := ob h
    refine y_getr C fl_X7_46 g3 hq4 dX7_refusalOf_11 ?_
    refine y_iload_n C dX7_refusalOf_14 rfl ?_
    obtain ⟨g5, h⟩ := gd h
    obtain ⟨q6, hq6, h⟩ := ob h
    refine y_aald C (by decide) g5 hq6 dX7_refusalOf_15 ?_
    obtain ⟨g7, h⟩ := gd h
    obtain ⟨r8, hr8, h⟩ := ob h
    refine y_cV C [] (m_X5_isMissing K M q6) hr8 g7 cw_X7_237 rfl (by decide) ⟨rfl, rfl⟩ ⟨Nat.zero_le _, Nat.zero_le _⟩ (Nat.le_of_ble_eq_true rfl) rfl rfl rfl dX7_refusalOf_16 ?_
    refine y_ifeqB C dX7_refusalOf_19 (tgt := 27) rfl (fun c9 => ?_) (fun c9 => ?_)
    · have h := itFb c9 h
      refine y_iconst C dX7_refusalOf_27 kc_0 ?_
      have e0 := Option.some.inj h
      subst e0
      exact y_iret C E (Nat.zero_le _) (Nat.zero_le _) dX7_refusalOf_28
    · have h := itT c9 h
      refine y_bipush C dX7_refusalOf_22 kb_m11 ?_
      refine y_goto C dX7_refusalOf_24 (tgt := 28) rfl ?_
      have e0 := Option.some.inj h
      subst e0
      exact y_iret C E (Nat.zero_le _) (Nat.zero_le _) dX7_refusalOf_28
  · have h := itFb c2 h
    refine y_bipush C dX7_refusalOf_7 kb_m2 ?_
    have e0 := Option.some.inj h
    subst e0
    exact y_iret C E (Nat.zero_le _) (Nat.zero_le _) dX7_refusalOf_9
set_option maxRecDepth 100000 in
def b_X7_begins (K : yK) (M : yM) (t : Nat) (x1 : Int32) : Option (Int32 × yM) := (if gO K t 6 = true then (Option.bind (b_X7_refusalOf K M t x1) fun r2 => (if r2 = 0 then (Option.bind (K.2.2 t 4) fun q4 => (if gQ K q4 2 x1 = true then (Option.bind (K.2.2 q4 (x1).toNatClampNeg) fun q6 => (Option.bind (K.2.2 t 0) fun q7 => (if gO K q7 0 = true then (Option.bind (b_X7_fitting K M t q6 ((1 : Int32)) ((0 : Int32)) ((0 : Int32)) ((M q7 8))) fun r9 => (some (r9.1, r9.2))) else none))) else none)) else (some (r2, M)))) else none)
set_option maxHeartbeats 4000000 in
set_option maxRecDepth 100000 in
theorem m_X7_begins (K : yK) (M : yM) (t : Nat) (x1 : Int32) : yMet yX7_begins cX7_begins 3 (Option.some Jvm.ClassFile.FieldType.int) rm_X7_begins K M [.ref t, .int x1] (b_X7_begins K M t x1) (yGi K) := by
  refine yM_intro (by decide) (Nat.le_of_ble_eq_true rfl) (fun X r h C E => ?_)
  replace C : yCx X cX7_begins RX7 "begins" rm_X7_begins 3 := C
  show Y X K M 0 0 0 [(0, .ref t), (1, .int x1)] []
  unfold b_X7_begins at h
  refine y_aload_n C dX7_begins_0 rfl ?_
  refine y_iload_n C dX7_begins_1 rfl ?_
  obtain ⟨g1, h⟩ := gd h
  obtain ⟨r2, hr2, h⟩ := ob h
  refine y_cV C [.int x1] (m_X7_refusalOf K M t x1) hr2 g1 cw_X7_216 rfl (by decide) ⟨rfl, rfl⟩ ⟨Nat.zero_le _, Nat.zero_le _⟩ (Nat.le_of_ble_eq_true rfl) rfl rfl rfl dX7_begins_2 ?_
  refine y_istore_n C dX7_begins_5 (by decide) (L' := [(2, .int r2), (0, .ref t), (1, .int x1)]) rfl ?_
  refine y_iload_n C dX7_begins_6 rfl ?_
  refine y_if_eq C dX7_begins_7 (tgt := 14) rfl (fun c3 => ?_) (fun c3 => ?_)
  · have h := itT c3 h
    refine y_aload_n C dX7_begins_14 rfl ?_
    refine y_aload_n C dX7_begins_15 rfl ?_
    obtain ⟨q4, hq4, h⟩ := ob h
    refine y_getr C fl_X7_46 g1 hq4 dX7_begins_16 ?_
    refine y_iload_n C dX7_begins_19 rfl ?_
    obtain ⟨g5, h⟩ := gd h
    obtain ⟨q6, hq6, h⟩ := ob h
    refine y_aald C (by decide) g5 hq6 dX7_begins_20 ?_
    refine y_iconst C dX7_begins_21 kc_1 ?_
    refine y_iconst C dX7_begins_22 kc_0 ?_
    refine y_iconst C dX7_begins_23 kc_0 ?_
    refine y_aload_n C dX7_begins_24 rfl ?_
    obtain ⟨q7, hq7, h⟩ := ob h
    refine y_getr C fl_X7_27 g1 hq7 dX7_begins_25 ?_
    obtain ⟨g8, h⟩ := gd h
    refine y_geti C fl_X7_55 g8 dX7_begins_28 ?_
    obtain ⟨r9, hr9, h⟩ := ob h
    refine y_cV C [.ref q6, .int (1 : Int32), .int (0 : Int32), .int (0 : Int32), .int (M q7 8)] (m_X7_fitting K M t q6 ((1 : Int32)) ((0 : Int32)) ((0 : Int32)) ((M q7 8))) hr9 g1 cw_X7_223 rfl (by decide) ⟨rfl, rfl⟩ ⟨Nat.zero_le _, Nat.zero_le _⟩ (Nat.le_of_ble_eq_true rfl) rfl rfl rfl dX7_begins_31 ?_
    have e0 := Option.some.inj h
    subst e0
    exact y_iret C E (Nat.zero_le _) (Nat.zero_le _) dX7_begins_34
  · have h := itF c3 h
    refine y_iload_n C dX7_begins_10 rfl ?_
    refine y_goto C dX7_begins_11 (tgt := 34) rfl ?_
    have e0 := Option.some.inj h
    subst e0
    exact y_iret C E (Nat.zero_le _) (Nat.zero_le _) dX7_begins_34
set_option maxRecDepth 100000 in
def b_X7_cell (K : yK) (M : yM) (t : Nat) (x1 : Int32) (x2 : Int32) (x3 : Int32) : Option (Int32 × yM) := (if gO K t 6 = true then (Option.bind (b_X7_refusalOf K M t x1) fun r2 => (if r2 = 0 then (if x2 < 0 then (some ((-12 : Int32), M)) else (Option.bind (K.2.2 t 4) fun q5 => (if gQ K q5 2 x1 = true then (Option.bind (K.2.2 q5 (x1).toNatClampNeg) fun q7 => (if gO K q7 4 = true then (if x2 < (M q7 2) then (Option.bind (b_X5_write K M q7 x2 x3) fun r10 => (some ((1 : Int32), r10))) else (some ((-12 : Int32), M))) else none)) else none))) else (some (r2, M)))) else none)
set_option maxHeartbeats 4000000 in
set_option maxRecDepth 100000 in
theorem m_X7_cell (K : yK) (M : yM) (t : Nat) (x1 : Int32) (x2 : Int32) (x3 : Int32) : yMet yX7_cell cX7_cell 5 (Option.some Jvm.ClassFile.FieldType.int) rm_X7_cell K M [.ref t, .int x1, .int x2, .int x3] (b_X7_cell K M t x1 x2 x3) (yGi K) := by
  refine yM_intro (by decide) (Nat.le_of_ble_eq_true rfl) (fun X r h C E => ?_)
  replace C : yCx X cX7_cell RX7 "cell" rm_X7_cell 5 := C
  show Y X K M 0 0 0 [(0, .ref t), (1, .int x1), (2, .int x2), (3, .int x3)] []
  unfold b_X7_cell at h
  refine y_aload_n C dX7_cell_0 rfl ?_
  refine y_iload_n C dX7_cell_1 rfl ?_
  obtain ⟨g1, h⟩ := gd h
  obtain ⟨r2, hr2, h⟩ := ob h
  refine y_cV C [.int x1] (m_X7_refusalOf K M t x1) hr2 g1 cw_X7_216 rfl (by decide) ⟨rfl, rfl⟩ ⟨Nat.zero_le _, Nat.zero_le _⟩ (Nat.le_of_ble_eq_true rfl) rfl rfl rfl dX7_cell_2 ?_
  refine y_istore C dX7_cell_5 (by decide) (L' := [(4, .int r2), (0, .ref t), (1, .int x1), (2, .int x2), (3, .int x3)]) rfl ?_
  refine y_iload C dX7_cell_7 rfl ?_
  refine y_if_eq C dX7_cell_9 (tgt := 15) rfl (fun c3 => ?_) (fun c3 => ?_)
  · have h := itT c3 h
    refine y_iload_n C dX7_cell_15 rfl ?_
    refine y_if_lt C dX7_cell_16 (tgt := 32) rfl (fun c4 => ?_) (fun c4 => ?_)
    · have h := itT c4 h
      refine y_bipush C dX7_cell_32 kb_m12 ?_
      have e0 := Option.some.inj h
      subst e0
      exact y_iret C E (Nat.zero_le _) (Nat.zero_le _) dX7_cell_34
    · have h := itF c4 h
      refine y_iload_n C dX7_cell_19 rfl ?_
      refine y_aload_n C dX7_cell_20 rfl ?_
      obtain ⟨q5, hq5, h⟩ := ob h
      refine y_getr C fl_X7_46 g1 hq5 dX7_cell_21 ?_
      refine y_iload_n C dX7_cell_24 rfl ?_
      obtain ⟨g6, h⟩ := gd h
      obtain ⟨q7, hq7, h⟩ := ob h
      refine y_aald C (by decide) g6 hq7 dX7_cell_25 ?_
      obtain ⟨g8, h⟩ := gd h
      refine y_geti C fl_X7_241 g8 dX7_cell_26 ?_
      refine y_icmp_lt C dX7_cell_29 (tgt := 35) rfl (fun c9 => ?_) (fun c9 => ?_)
      · have h := itT c9 h
        refine y_aload_n C dX7_cell_35 rfl ?_
        refine y_getr C fl_X7_46 g1 hq5 dX7_cell_36 ?_
        refine y_iload_n C dX7_cell_39 rfl ?_
        refine y_aald C (by decide) g6 hq7 dX7_cell_40 ?_
        refine y_iload_n C dX7_cell_41 rfl ?_
        refine y_iload_n C dX7_cell_42 rfl ?_
        obtain ⟨r10, hr10, h⟩ := ob h
        refine y_cV C [.int x2, .int x3] (m_X5_write K M q7 x2 x3) hr10 g8 cw_X7_234 rfl (by decide) ⟨rfl, rfl⟩ ⟨Nat.zero_le _, Nat.zero_le _⟩ (Nat.le_of_ble_eq_true rfl) rfl rfl rfl dX7_cell_43 ?_
        refine y_iconst C dX7_cell_46 kc_1 ?_
        have e0 := Option.some.inj h
        subst e0
        exact y_iret C E (Nat.zero_le _) (Nat.zero_le _) dX7_cell_47
      · have h := itF c9 h
        refine y_bipush C dX7_cell_32 kb_m12 ?_
        have e0 := Option.some.inj h
        subst e0
        exact y_iret C E (Nat.zero_le _) (Nat.zero_le _) dX7_cell_34
  · have h := itF c3 h
    refine y_iload C dX7_cell_12 rfl ?_
    have e0 := Option.some.inj h
    subst e0
    exact y_iret C E (Nat.zero_le _) (Nat.zero_le _) dX7_cell_14
set_option maxRecDepth 100000 in
def b_X7_chain (K : yK) (M : yM) (t : Nat) (x1 : Int32) : Option Int32 := (if gO K t 6 = true then (Option.bind (K.2.2 t 0) fun q2 => (if gO K q2 0 = true then (Option.bind (b_X0_has K M q2 x1) fun r4 => (if r4 = true then (Option.bind (K.2.2 q2 6) fun q6 => (if gA K q6 x1 = true then (some (M q6 (x1).toNatClampNeg)) else none)) else (some (-5 : Int32)))) else none)) else none)
set_option maxHeartbeats 4000000 in
set_option maxRecDepth 100000 in
theorem m_X7_chain (K : yK) (M : yM) (t : Nat) (x1 : Int32) : yMet yX7_chain cX7_chain 2 (Option.some Jvm.ClassFile.FieldType.int) rm_X7_chain K M [.ref t, .int x1] (b_X7_chain K M t x1) (yFi K M) := by
  refine yM_intro (by decide) (Nat.le_of_ble_eq_true rfl) (fun X r h C E => ?_)
  replace C : yCx X cX7_chain RX7 "chain" rm_X7_chain 2 := C
  show Y X K M 0 0 0 [(0, .ref t), (1, .int x1)] []
  unfold b_X7_chain at h
  refine y_aload_n C dX7_chain_0 rfl ?_
  obtain ⟨g1, h⟩ := gd h
  obtain ⟨q2, hq2, h⟩ := ob h
  refine y_getr C fl_X7_27 g1 hq2 dX7_chain_1 ?_
  refine y_iload_n C dX7_chain_4 rfl ?_
  obtain ⟨g3, h⟩ := gd h
  obtain ⟨r4, hr4, h⟩ := ob h
  refine y_cV C [.int x1] (m_X0_has K M q2 x1) hr4 g3 cw_X7_118 rfl (by decide) ⟨rfl, rfl⟩ ⟨Nat.zero_le _, Nat.zero_le _⟩ (Nat.le_of_ble_eq_true rfl) rfl rfl rfl dX7_chain_5 ?_
  refine y_ifeqB C dX7_chain_8 (tgt := 23) rfl (fun c5 => ?_) (fun c5 => ?_)
  · have h := itFb c5 h
    refine y_bipush C dX7_chain_23 kb_m5 ?_
    have e0 := Option.some.inj h
    subst e0
    exact y_iret C E (Nat.zero_le _) (Nat.zero_le _) dX7_chain_25
  · have h := itT c5 h
    refine y_aload_n C dX7_chain_11 rfl ?_
    refine y_getr C fl_X7_27 g1 hq2 dX7_chain_12 ?_
    obtain ⟨q6, hq6, h⟩ := ob h
    refine y_getr C fl_X7_205 g3 hq6 dX7_chain_15 ?_
    refine y_iload_n C dX7_chain_18 rfl ?_
    obtain ⟨g7, h⟩ := gd h
    refine y_iald C g7 dX7_chain_19 ?_
    refine y_goto C dX7_chain_20 (tgt := 25) rfl ?_
    have e0 := Option.some.inj h
    subst e0
    exact y_iret C E (Nat.zero_le _) (Nat.zero_le _) dX7_chain_25
set_option maxRecDepth 100000 in
def b_X7_copy (K : yK) (M : yM) (t : Nat) (x1 : Int32) (x2 : Int32) (x3 : Int32) (x4 : Int32) (x5 : Int32) : Option (Int32 × yM) := (Option.bind (b_X7_isSheet K M x1) fun r1 => (if r1 = true then (Option.bind (b_X7_isSheet K M x3) fun r3 => (if r3 = true then (if gO K t 6 = true then (Option.bind (K.2.2 t 4) fun q6 => (if gQ K q6 2 x1 = true then (Option.bind (K.2.2 q6 (x1).toNatClampNeg) fun q8 => (if gO K q8 4 = true then (Option.bind (b_X5_isMissing K M q8) fun r10 => (if r10 = true then (some ((-11 : Int32), M)) else (if gQ K q6 2 x3 = true then (Option.bind (K.2.2 q6 (x3).toNatClampNeg) fun q13 => (if gO K q13 4 = true then (Option.bind (b_X5_isMissing K M q13) fun r15 => (if r15 = true then (some ((-11 : Int32), M)) else (if (M q8 1) = (M q13 1) then (Option.bind (b_X5_hasRow K M q8 x2 x5) fun r18 => (if r18 = true then (Option.bind (b_X5_hasRow K M q13 x4 x5) fun r20 => (if r20 = true then (Option.bind (K.2.2 q8 0) fun q22 => (Option.bind (K.2.2 q13 0) fun q23 => (if gC K q22 x2 q23 x4 x5 = true then (Option.bind (some (yCp M q22 x2 q23 x4 x5)) fun M25 => (some (x5, M25))) else none))) else (some ((-12 : Int32), M)))) else (some ((-12 : Int32), M)))) else (some ((-13 : Int32), M))))) else none)) else none))) else none)) else none)) else none) else (some ((-2 : Int32), M)))) else (some ((-2 : Int32), M))))
set_option maxHeartbeats 4000000 in
set_option maxRecDepth 100000 in
theorem m_X7_copy (K : yK) (M : yM) (t : Nat) (x1 : Int32) (x2 : Int32) (x3 : Int32) (x4 : Int32) (x5 : Int32) : yMet yX7_copy cX7_copy 6 (Option.some Jvm.ClassFile.FieldType.int) rm_X7_copy K M [.ref t, .int x1, .int x2, .int x3, .int x4, .int x5] (b_X7_copy K M t x1 x2 x3 x4 x5) (yGi K) := by
  refine yM_intro (by decide) (Nat.le_of_ble_eq_true rfl) (fun X r h C E => ?_)
  replace C : yCx X cX7_copy RX7 "copy" rm_X7_copy 6 := C
  show Y X K M 0 0 0 [(0, .ref t), (1, .int x1), (2, .int x2), (3, .int x3), (4, .int x4), (5, .int x5)] []
  unfold b_X7_copy at h
  refine y_iload_n C dX7_copy_0 rfl ?_
  obtain ⟨r1, hr1, h⟩ := ob h
  refine y_cS C [.int x1] (m_X7_isSheet K M x1) hr1 cw_X7_227 rfl (by decide) ⟨rfl, rfl⟩ ⟨Nat.zero_le _, Nat.zero_le _⟩ (Nat.le_of_ble_eq_true rfl) rfl rfl rfl dX7_copy_1 ?_
  refine y_ifeqB C dX7_copy_4 (tgt := 14) rfl (fun c2 => ?_) (fun c2 => ?_)
  · have h := itFb c2 h
    refine y_bipush C dX7_copy_14 kb_m2 ?_
    have e0 := Option.some.inj h
    subst e0
    exact y_iret C E (Nat.zero_le _) (Nat.zero_le _) dX7_copy_16
  · have h := itT c2 h
    refine y_iload_n C dX7_copy_7 rfl ?_
    obtain ⟨r3, hr3, h⟩ := ob h
    refine y_cS C [.int x3] (m_X7_isSheet K M x3) hr3 cw_X7_227 rfl (by decide) ⟨rfl, rfl⟩ ⟨Nat.zero_le _, Nat.zero_le _⟩ (Nat.le_of_ble_eq_true rfl) rfl rfl rfl dX7_copy_8 ?_
    refine y_ifneB C dX7_copy_11 (tgt := 17) rfl (fun c4 => ?_) (fun c4 => ?_)
    · have h := itT c4 h
      refine y_aload_n C dX7_copy_17 rfl ?_
      obtain ⟨g5, h⟩ := gd h
      obtain ⟨q6, hq6, h⟩ := ob h
      refine y_getr C fl_X7_46 g5 hq6 dX7_copy_18 ?_
      refine y_iload_n C dX7_copy_21 rfl ?_
      obtain ⟨g7, h⟩ := gd h
      obtain ⟨q8, hq8, h⟩ := ob h
      refine y_aald C (by decide) g7 hq8 dX7_copy_22 ?_
      obtain ⟨g9, h⟩ := gd h
      obtain ⟨r10, hr10, h⟩ := ob h
      refine y_cV C [] (m_X5_isMissing K M q8) hr10 g9 cw_X7_237 rfl (by decide) ⟨rfl, rfl⟩ ⟨Nat.zero_le _, Nat.zero_le _⟩ (Nat.le_of_ble_eq_true rfl) rfl rfl rfl dX7_copy_23 ?_
      refine y_ifneB C dX7_copy_26 (tgt := 41) rfl (fun c11 => ?_) (fun c11 => ?_)
      · have h := itT c11 h
        refine y_bipush C dX7_copy_41 kb_m11 ?_
        have e0 := Option.some.inj h
        subst e0
        exact y_iret C E (Nat.zero_le _) (Nat.zero_le _) dX7_copy_43
      · have h := itFb c11 h
        refine y_aload_n C dX7_copy_29 rfl ?_
        refine y_getr C fl_X7_46 g5 hq6 dX7_copy_30 ?_
        refine y_iload_n C dX7_copy_33 rfl ?_
        obtain ⟨g12, h⟩ := gd h
        obtain ⟨q13, hq13, h⟩ := ob h
        refine y_aald C (by decide) g12 hq13 dX7_copy_34 ?_
        obtain ⟨g14, h⟩ := gd h
        obtain ⟨r15, hr15, h⟩ := ob h
        refine y_cV C [] (m_X5_isMissing K M q13) hr15 g14 cw_X7_237 rfl (by decide) ⟨rfl, rfl⟩ ⟨Nat.zero_le _, Nat.zero_le _⟩ (Nat.le_of_ble_eq_true rfl) rfl rfl rfl dX7_copy_35 ?_
        refine y_ifeqB C dX7_copy_38 (tgt := 44) rfl (fun c16 => ?_) (fun c16 => ?_)
        · have h := itFb c16 h
          refine y_aload_n C dX7_copy_44 rfl ?_
          refine y_getr C fl_X7_46 g5 hq6 dX7_copy_45 ?_
          refine y_iload_n C dX7_copy_48 rfl ?_
          refine y_aald C (by decide) g7 hq8 dX7_copy_49 ?_
          refine y_geti C fl_X7_263 g9 dX7_copy_50 ?_
          refine y_aload_n C dX7_copy_53 rfl ?_
          refine y_getr C fl_X7_46 g5 hq6 dX7_copy_54 ?_
          refine y_iload_n C dX7_copy_57 rfl ?_
          refine y_aald C (by decide) g12 hq13 dX7_copy_58 ?_
          refine y_geti C fl_X7_263 g14 dX7_copy_59 ?_
          refine y_icmp_eq C dX7_copy_62 (tgt := 68) rfl (fun c17 => ?_) (fun c17 => ?_)
          · have h := itT c17 h
            refine y_aload_n C dX7_copy_68 rfl ?_
            refine y_getr C fl_X7_46 g5 hq6 dX7_copy_69 ?_
            refine y_iload_n C dX7_copy_72 rfl ?_
            refine y_aald C (by decide) g7 hq8 dX7_copy_73 ?_
            refine y_iload_n C dX7_copy_74 rfl ?_
            refine y_iload C dX7_copy_75 rfl ?_
            obtain ⟨r18, hr18, h⟩ := ob h
            refine y_cV C [.int x2, .int x5] (m_X5_hasRow K M q8 x2 x5) hr18 g9 cw_X7_266 rfl (by decide) ⟨rfl, rfl⟩ ⟨Nat.zero_le _, Nat.zero_le _⟩ (Nat.le_of_ble_eq_true rfl) rfl rfl rfl dX7_copy_77 ?_
            refine y_ifeqB C dX7_copy_80 (tgt := 99) rfl (fun c19 => ?_) (fun c19 => ?_)
            · have h := itFb c19 h
              refine y_bipush C dX7_copy_99 kb_m12 ?_
              have e0 := Option.some.inj h
              subst e0
              exact y_iret C E (Nat.zero_le _) (Nat.zero_le _) dX7_copy_101
            · have h := itT c19 h
              refine y_aload_n C dX7_copy_83 rfl ?_
              refine y_getr C fl_X7_46 g5 hq6 dX7_copy_84 ?_
              refine y_iload_n C dX7_copy_87 rfl ?_
              refine y_aald C (by decide) g12 hq13 dX7_copy_88 ?_
              refine y_iload C dX7_copy_89 rfl ?_
              refine y_iload C dX7_copy_91 rfl ?_
              obtain ⟨r20, hr20, h⟩ := ob h
              refine y_cV C [.int x4, .int x5] (m_X5_hasRow K M q13 x4 x5) hr20 g14 cw_X7_266 rfl (by decide) ⟨rfl, rfl⟩ ⟨Nat.zero_le _, Nat.zero_le _⟩ (Nat.le_of_ble_eq_true rfl) rfl rfl rfl dX7_copy_93 ?_
              refine y_ifneB C dX7_copy_96 (tgt := 102) rfl (fun c21 => ?_) (fun c21 => ?_)
              · have h := itT c21 h
                refine y_aload_n C dX7_copy_102 rfl ?_
                refine y_getr C fl_X7_46 g5 hq6 dX7_copy_103 ?_
                refine y_iload_n C dX7_copy_106 rfl ?_
                refine y_aald C (by decide) g7 hq8 dX7_copy_107 ?_
                obtain ⟨q22, hq22, h⟩ := ob h
                refine y_getr C fl_X7_243 g9 hq22 dX7_copy_108 ?_
                refine y_iload_n C dX7_copy_111 rfl ?_
                refine y_aload_n C dX7_copy_112 rfl ?_
                refine y_getr C fl_X7_46 g5 hq6 dX7_copy_113 ?_
                refine y_iload_n C dX7_copy_116 rfl ?_
                refine y_aald C (by decide) g12 hq13 dX7_copy_117 ?_
                obtain ⟨q23, hq23, h⟩ := ob h
                refine y_getr C fl_X7_243 g14 hq23 dX7_copy_118 ?_
                refine y_iload C dX7_copy_121 rfl ?_
                refine y_iload C dX7_copy_123 rfl ?_
                obtain ⟨g24, h⟩ := gd h
                obtain ⟨M25, eM25, h⟩ := ob h
                have eM25 := Option.some.inj eM25
                refine y_copy C jm_X7_270 ⟨by decide, Nat.le_of_ble_eq_true rfl⟩ g24 dX7_copy_125 eM25 ?_
                refine y_iload C dX7_copy_128 rfl ?_
                have e0 := Option.some.inj h
                subst e0
                exact y_iret C E (Nat.zero_le _) (Nat.zero_le _) dX7_copy_130
              · have h := itFb c21 h
                refine y_bipush C dX7_copy_99 kb_m12 ?_
                have e0 := Option.some.inj h
                subst e0
                exact y_iret C E (Nat.zero_le _) (Nat.zero_le _) dX7_copy_101
          · have h := itF c17 h
            refine y_bipush C dX7_copy_65 kb_m13 ?_
            have e0 := Option.some.inj h
            subst e0
            exact y_iret C E (Nat.zero_le _) (Nat.zero_le _) dX7_copy_67
        · have h := itT c16 h
          refine y_bipush C dX7_copy_41 kb_m11 ?_
          have e0 := Option.some.inj h
          subst e0
          exact y_iret C E (Nat.zero_le _) (Nat.zero_le _) dX7_copy_43
    · have h := itFb c4 h
      refine y_bipush C dX7_copy_14 kb_m2 ?_
      have e0 := Option.some.inj h
      subst e0
      exact y_iret C E (Nat.zero_le _) (Nat.zero_le _) dX7_copy_16
set_option maxRecDepth 100000 in
def b_X7_count (K : yK) (M : yM) (t : Nat) (x1 : Int32) : Option Int32 := (if x1 = (0 : Int32) then (if gO K t 6 = true then (Option.bind (K.2.2 t 0) fun q11 => (if gO K q11 0 = true then (some (M q11 8)) else none)) else none) else (if x1 = (1 : Int32) then (if gO K t 6 = true then (Option.bind (K.2.2 t 0) fun q14 => (if gO K q14 0 = true then (some (M q14 9)) else none)) else none) else (if x1 = (2 : Int32) then (if gO K t 6 = true then (Option.bind (K.2.2 t 0) fun q17 => (if gO K q17 0 = true then (some (M q17 10)) else none)) else none) else (if x1 = (3 : Int32) then (if gO K t 6 = true then (Option.bind (K.2.2 t 0) fun q20 => (if gO K q20 0 = true then (some (M q20 11)) else none)) else none) else (if x1 = (4 : Int32) then (if gO K t 6 = true then (Option.bind (K.2.2 t 0) fun q23 => (if gO K q23 0 = true then (some (M q23 12)) else none)) else none) else (if x1 = (5 : Int32) then (if gO K t 6 = true then (Option.bind (K.2.2 t 0) fun q26 => (if gO K q26 0 = true then (some (M q26 13)) else none)) else none) else (if x1 = (6 : Int32) then (if gO K t 6 = true then (some (M t 7)) else none) else (if x1 = (7 : Int32) then (if gO K t 6 = true then (Option.bind (K.2.2 t 0) fun q30 => (if gO K q30 0 = true then (some (M q30 15)) else none)) else none) else (if x1 = (8 : Int32) then (if gO K t 6 = true then (some (M t 6)) else none) else (some (-2 : Int32)))))))))))
set_option maxHeartbeats 4000000 in
set_option maxRecDepth 100000 in
theorem m_X7_count (K : yK) (M : yM) (t : Nat) (x1 : Int32) : yMet yX7_count cX7_count 2 (Option.some Jvm.ClassFile.FieldType.int) rm_X7_count K M [.ref t, .int x1] (b_X7_count K M t x1) (yFi K M) := by
  refine yM_intro (by decide) (Nat.le_of_ble_eq_true rfl) (fun X r h C E => ?_)
  replace C : yCx X cX7_count RX7 "count" rm_X7_count 2 := C
  show Y X K M 0 0 0 [(0, .ref t), (1, .int x1)] []
  unfold b_X7_count at h
  refine y_iload_n C dX7_count_0 rfl ?_
  rcases Classical.em (x1 = (0 : Int32)) with c1 | c1
  · have h := itT c1 h
    refine y_tabIn C dX7_count_1 (off := 51) (tgt := 52) (by rw [c1]; decide) (by rw [c1]; decide) (by rw [c1]; rfl) rfl ?_
    refine y_aload_n C dX7_count_52 rfl ?_
    obtain ⟨g10, h⟩ := gd h
    obtain ⟨q11, hq11, h⟩ := ob h
    refine y_getr C fl_X7_27 g10 hq11 dX7_count_53 ?_
    obtain ⟨g12, h⟩ := gd h
    refine y_geti C fl_X7_55 g12 dX7_count_56 ?_
    have e0 := Option.some.inj h
    subst e0
    exact y_iret C E (Nat.zero_le _) (Nat.zero_le _) dX7_count_59
  replace h := itF c1 h
  rcases Classical.em (x1 = (1 : Int32)) with c2 | c2
  · have h := itT c2 h
    refine y_tabIn C dX7_count_1 (off := 59) (tgt := 60) (by rw [c2]; decide) (by rw [c2]; decide) (by rw [c2]; rfl) rfl ?_
    refine y_aload_n C dX7_count_60 rfl ?_
    obtain ⟨g13, h⟩ := gd h
    obtain ⟨q14, hq14, h⟩ := ob h
    refine y_getr C fl_X7_27 g13 hq14 dX7_count_61 ?_
    obtain ⟨g15, h⟩ := gd h
    refine y_geti C fl_X7_58 g15 dX7_count_64 ?_
    have e0 := Option.some.inj h
    subst e0
    exact y_iret C E (Nat.zero_le _) (Nat.zero_le _) dX7_count_67
  replace h := itF c2 h
  rcases Classical.em (x1 = (2 : Int32)) with c3 | c3
  · have h := itT c3 h
    refine y_tabIn C dX7_count_1 (off := 67) (tgt := 68) (by rw [c3]; decide) (by rw [c3]; decide) (by rw [c3]; rfl) rfl ?_
    refine y_aload_n C dX7_count_68 rfl ?_
    obtain ⟨g16, h⟩ := gd h
    obtain ⟨q17, hq17, h⟩ := ob h
    refine y_getr C fl_X7_27 g16 hq17 dX7_count_69 ?_
    obtain ⟨g18, h⟩ := gd h
    refine y_geti C fl_X7_61 g18 dX7_count_72 ?_
    have e0 := Option.some.inj h
    subst e0
    exact y_iret C E (Nat.zero_le _) (Nat.zero_le _) dX7_count_75
  replace h := itF c3 h
  rcases Classical.em (x1 = (3 : Int32)) with c4 | c4
  · have h := itT c4 h
    refine y_tabIn C dX7_count_1 (off := 75) (tgt := 76) (by rw [c4]; decide) (by rw [c4]; decide) (by rw [c4]; rfl) rfl ?_
    refine y_aload_n C dX7_count_76 rfl ?_
    obtain ⟨g19, h⟩ := gd h
    obtain ⟨q20, hq20, h⟩ := ob h
    refine y_getr C fl_X7_27 g19 hq20 dX7_count_77 ?_
    obtain ⟨g21, h⟩ := gd h
    refine y_geti C fl_X7_64 g21 dX7_count_80 ?_
    have e0 := Option.some.inj h
    subst e0
    exact y_iret C E (Nat.zero_le _) (Nat.zero_le _) dX7_count_83
  replace h := itF c4 h
  rcases Classical.em (x1 = (4 : Int32)) with c5 | c5
  · have h := itT c5 h
    refine y_tabIn C dX7_count_1 (off := 83) (tgt := 84) (by rw [c5]; decide) (by rw [c5]; decide) (by rw [c5]; rfl) rfl ?_
    refine y_aload_n C dX7_count_84 rfl ?_
    obtain ⟨g22, h⟩ := gd h
    obtain ⟨q23, hq23, h⟩ := ob h
    refine y_getr C fl_X7_27 g22 hq23 dX7_count_85 ?_
    obtain ⟨g24, h⟩ := gd h
    refine y_geti C fl_X7_67 g24 dX7_count_88 ?_
    have e0 := Option.some.inj h
    subst e0
    exact y_iret C E (Nat.zero_le _) (Nat.zero_le _) dX7_count_91
  replace h := itF c5 h
  rcases Classical.em (x1 = (5 : Int32)) with c6 | c6
  · have h := itT c6 h
    refine y_tabIn C dX7_count_1 (off := 91) (tgt := 92) (by rw [c6]; decide) (by rw [c6]; decide) (by rw [c6]; rfl) rfl ?_
    refine y_aload_n C dX7_count_92 rfl ?_
    obtain ⟨g25, h⟩ := gd h
    obtain ⟨q26, hq26, h⟩ := ob h
    refine y_getr C fl_X7_27 g25 hq26 dX7_count_93 ?_
    obtain ⟨g27, h⟩ := gd h
    refine y_geti C fl_X7_70 g27 dX7_count_96 ?_
    have e0 := Option.some.inj h
    subst e0
    exact y_iret C E (Nat.zero_le _) (Nat.zero_le _) dX7_count_99
  replace h := itF c6 h
  rcases Classical.em (x1 = (6 : Int32)) with c7 | c7
  · have h := itT c7 h
    refine y_tabIn C dX7_count_1 (off := 99) (tgt := 100) (by rw [c7]; decide) (by rw [c7]; decide) (by rw [c7]; rfl) rfl ?_
    refine y_aload_n C dX7_count_100 rfl ?_
    obtain ⟨g28, h⟩ := gd h
    refine y_geti C fl_X7_15 g28 dX7_count_101 ?_
    have e0 := Option.some.inj h
    subst e0
    exact y_iret C E (Nat.zero_le _) (Nat.zero_le _) dX7_count_104
  replace h := itF c7 h
  rcases Classical.em (x1 = (7 : Int32)) with c8 | c8
  · have h := itT c8 h
    refine y_tabIn C dX7_count_1 (off := 104) (tgt := 105) (by rw [c8]; decide) (by rw [c8]; decide) (by rw [c8]; rfl) rfl ?_
    refine y_aload_n C dX7_count_105 rfl ?_
    obtain ⟨g29, h⟩ := gd h
    obtain ⟨q30, hq30, h⟩ := ob h
    refine y_getr C fl_X7_27 g29 hq30 dX7_count_106 ?_
    obtain ⟨g31, h⟩ := gd h
    refine y_geti C fl_X7_73 g31 dX7_count_109 ?_
    have e0 := Option.some.inj h
    subst e0
    exact y_iret C E (Nat.zero_le _) (Nat.zero_le _) dX7_count_112
  replace h := itF c8 h
  rcases Classical.em (x1 = (8 : Int32)) with c9 | c9
  · have h := itT c9 h
    refine y_tabIn C dX7_count_1 (off := 112) (tgt := 113) (by rw [c9]; decide) (by rw [c9]; decide) (by rw [c9]; rfl) rfl ?_
    refine y_aload_n C dX7_count_113 rfl ?_
    obtain ⟨g32, h⟩ := gd h
    refine y_geti C fl_X7_76 g32 dX7_count_114 ?_
    have e0 := Option.some.inj h
    subst e0
    exact y_iret C E (Nat.zero_le _) (Nat.zero_le _) dX7_count_117
  replace h := itF c9 h
  refine y_tabOut C dX7_count_1 (tgt := 118) (by have q0 : (x1).toInt ≠ 0 := yNe c1; have q1 : (x1).toInt ≠ 1 := yNe c2; have q2 : (x1).toInt ≠ 2 := yNe c3; have q3 : (x1).toInt ≠ 3 := yNe c4; have q4 : (x1).toInt ≠ 4 := yNe c5; have q5 : (x1).toInt ≠ 5 := yNe c6; have q6 : (x1).toInt ≠ 6 := yNe c7; have q7 : (x1).toInt ≠ 7 := yNe c8; have q8 : (x1).toInt ≠ 8 := yNe c9; omega) rfl ?_
  refine y_bipush C dX7_count_118 kb_m2 ?_
  have e0 := Option.some.inj h
  subst e0
  exact y_iret C E (Nat.zero_le _) (Nat.zero_le _) dX7_count_120
set_option maxRecDepth 100000 in
def b_X7_deed (K : yK) (M : yM) (t : Nat) (x1 : Int32) : Option (Int32 × yM) := (if x1 < (1 : Int32) then (some ((-2 : Int32), M)) else (if gO K t 6 = true then (Option.bind (K.2.2 t 0) fun q3 => (if gO K q3 0 = true then (Option.bind (b_X0_allEntries K M q3) fun r5 => (if x1 ≤ r5 then (Option.bind (b_X0_addDeed K M q3 x1) fun r7 => (if r7.1 = true then (some (((r7.2 q3 9) - (1 : Int32)), r7.2)) else (some ((-4 : Int32), r7.2)))) else (some ((-2 : Int32), M)))) else none)) else none))
set_option maxHeartbeats 4000000 in
set_option maxRecDepth 100000 in
theorem m_X7_deed (K : yK) (M : yM) (t : Nat) (x1 : Int32) : yMet yX7_deed cX7_deed 2 (Option.some Jvm.ClassFile.FieldType.int) rm_X7_deed K M [.ref t, .int x1] (b_X7_deed K M t x1) (yGi K) := by
  refine yM_intro (by decide) (Nat.le_of_ble_eq_true rfl) (fun X r h C E => ?_)
  replace C : yCx X cX7_deed RX7 "deed" rm_X7_deed 2 := C
  show Y X K M 0 0 0 [(0, .ref t), (1, .int x1)] []
  unfold b_X7_deed at h
  refine y_iload_n C dX7_deed_0 rfl ?_
  refine y_iconst C dX7_deed_1 kc_1 ?_
  refine y_icmp_lt C dX7_deed_2 (tgt := 16) rfl (fun c1 => ?_) (fun c1 => ?_)
  · have h := itT c1 h
    refine y_bipush C dX7_deed_16 kb_m2 ?_
    have e0 := Option.some.inj h
    subst e0
    exact y_iret C E (Nat.zero_le _) (Nat.zero_le _) dX7_deed_18
  · have h := itF c1 h
    refine y_iload_n C dX7_deed_5 rfl ?_
    refine y_aload_n C dX7_deed_6 rfl ?_
    obtain ⟨g2, h⟩ := gd h
    obtain ⟨q3, hq3, h⟩ := ob h
    refine y_getr C fl_X7_27 g2 hq3 dX7_deed_7 ?_
    obtain ⟨g4, h⟩ := gd h
    obtain ⟨r5, hr5, h⟩ := ob h
    refine y_cV C [] (m_X0_allEntries K M q3) hr5 g4 cw_X7_96 rfl (by decide) ⟨rfl, rfl⟩ ⟨Nat.zero_le _, Nat.zero_le _⟩ (Nat.le_of_ble_eq_true rfl) rfl rfl rfl dX7_deed_10 ?_
    refine y_icmp_le C dX7_deed_13 (tgt := 19) rfl (fun c6 => ?_) (fun c6 => ?_)
    · have h := itT c6 h
      refine y_aload_n C dX7_deed_19 rfl ?_
      refine y_getr C fl_X7_27 g2 hq3 dX7_deed_20 ?_
      refine y_iload_n C dX7_deed_23 rfl ?_
      obtain ⟨r7, hr7, h⟩ := ob h
      refine y_cV C [.int x1] (m_X0_addDeed K M q3 x1) hr7 g4 cw_X7_170 rfl (by decide) ⟨rfl, rfl⟩ ⟨Nat.zero_le _, Nat.zero_le _⟩ (Nat.le_of_ble_eq_true rfl) rfl rfl rfl dX7_deed_24 ?_
      refine y_ifeqB C dX7_deed_27 (tgt := 42) rfl (fun c8 => ?_) (fun c8 => ?_)
      · have h := itFb c8 h
        refine y_bipush C dX7_deed_42 kb_m4 ?_
        have e0 := Option.some.inj h
        subst e0
        exact y_iret C E (Nat.zero_le _) (Nat.zero_le _) dX7_deed_44
      · have h := itT c8 h
        refine y_aload_n C dX7_deed_30 rfl ?_
        refine y_getr C fl_X7_27 g2 hq3 dX7_deed_31 ?_
        refine y_geti C fl_X7_58 g4 dX7_deed_34 ?_
        refine y_iconst C dX7_deed_37 kc_1 ?_
        refine y_isub C dX7_deed_38 ?_
        refine y_goto C dX7_deed_39 (tgt := 44) rfl ?_
        have e0 := Option.some.inj h
        subst e0
        exact y_iret C E (Nat.zero_le _) (Nat.zero_le _) dX7_deed_44
    · have h := itF c6 h
      refine y_bipush C dX7_deed_16 kb_m2 ?_
      have e0 := Option.some.inj h
      subst e0
      exact y_iret C E (Nat.zero_le _) (Nat.zero_le _) dX7_deed_18
set_option maxRecDepth 100000 in
def b_X7_done (K : yK) (M : yM) (t : Nat) (x1 : Int32) : Option (Int32 × yM) := (Option.bind (b_X7_isZeroOrOne K M x1) fun r1 => (if r1 = true then (if gO K t 6 = true then (Option.bind (K.2.2 t 0) fun q4 => (if gO K q4 0 = true then (Option.bind (b_X0_itself K M q4) fun r6 => (Option.bind (b_X0_held K r6.2 q4 r6.1) fun r7 => (Option.bind (b_X0_canDo K r6.2 q4 r7) fun r8 => (if x1 = 0 then (some (r8, r6.2)) else (Option.bind (b_X0_worthOf K r6.2 q4 r8) fun r10 => (some (r10.1, r10.2))))))) else none)) else none) else (some ((-2 : Int32), M))))
set_option maxHeartbeats 4000000 in
set_option maxRecDepth 100000 in
theorem m_X7_done (K : yK) (M : yM) (t : Nat) (x1 : Int32) : yMet yX7_done cX7_done 3 (Option.some Jvm.ClassFile.FieldType.int) rm_X7_done K M [.ref t, .int x1] (b_X7_done K M t x1) (yGi K) := by
  refine yM_intro (by decide) (Nat.le_of_ble_eq_true rfl) (fun X r h C E => ?_)
  replace C : yCx X cX7_done RX7 "done" rm_X7_done 3 := C
  show Y X K M 0 0 0 [(0, .ref t), (1, .int x1)] []
  unfold b_X7_done at h
  refine y_iload_n C dX7_done_0 rfl ?_
  obtain ⟨r1, hr1, h⟩ := ob h
  refine y_cS C [.int x1] (m_X7_isZeroOrOne K M x1) hr1 cw_X7_179 rfl (by decide) ⟨rfl, rfl⟩ ⟨Nat.zero_le _, Nat.zero_le _⟩ (Nat.le_of_ble_eq_true rfl) rfl rfl rfl dX7_done_1 ?_
  refine y_ifneB C dX7_done_4 (tgt := 10) rfl (fun c2 => ?_) (fun c2 => ?_)
  · have h := itT c2 h
    refine y_aload_n C dX7_done_10 rfl ?_
    obtain ⟨g3, h⟩ := gd h
    obtain ⟨q4, hq4, h⟩ := ob h
    refine y_getr C fl_X7_27 g3 hq4 dX7_done_11 ?_
    refine y_aload_n C dX7_done_14 rfl ?_
    refine y_getr C fl_X7_27 g3 hq4 dX7_done_15 ?_
    refine y_aload_n C dX7_done_18 rfl ?_
    refine y_getr C fl_X7_27 g3 hq4 dX7_done_19 ?_
    obtain ⟨g5, h⟩ := gd h
    obtain ⟨r6, hr6, h⟩ := ob h
    refine y_cV C [] (m_X0_itself K M q4) hr6 g5 cw_X7_164 rfl (by decide) ⟨rfl, rfl⟩ ⟨Nat.zero_le _, Nat.zero_le _⟩ (Nat.le_of_ble_eq_true rfl) rfl rfl rfl dX7_done_22 ?_
    obtain ⟨r7, hr7, h⟩ := ob h
    refine y_cV C [.int r6.1] (m_X0_held K r6.2 q4 r6.1) hr7 g5 cw_X7_167 rfl (by decide) ⟨rfl, rfl⟩ ⟨Nat.zero_le _, Nat.zero_le _⟩ (Nat.le_of_ble_eq_true rfl) rfl rfl rfl dX7_done_25 ?_
    obtain ⟨r8, hr8, h⟩ := ob h
    refine y_cV C [.int r7] (m_X0_canDo K r6.2 q4 r7) hr8 g5 cw_X7_182 rfl (by decide) ⟨rfl, rfl⟩ ⟨Nat.zero_le _, Nat.zero_le _⟩ (Nat.le_of_ble_eq_true rfl) rfl rfl rfl dX7_done_28 ?_
    refine y_istore_n C dX7_done_31 (by decide) (L' := [(2, .int r8), (0, .ref t), (1, .int x1)]) rfl ?_
    refine y_iload_n C dX7_done_32 rfl ?_
    refine y_if_ne C dX7_done_33 (tgt := 40) rfl (fun c9 => ?_) (fun c9 => ?_)
    · have h := itF c9 h
      refine y_aload_n C dX7_done_40 rfl ?_
      refine y_getr C fl_X7_27 g3 hq4 dX7_done_41 ?_
      refine y_iload_n C dX7_done_44 rfl ?_
      obtain ⟨r10, hr10, h⟩ := ob h
      refine y_cV C [.int r8] (m_X0_worthOf K r6.2 q4 r8) hr10 g5 cw_X7_185 rfl (by decide) ⟨rfl, rfl⟩ ⟨Nat.zero_le _, Nat.zero_le _⟩ (Nat.le_of_ble_eq_true rfl) rfl rfl rfl dX7_done_45 ?_
      have e0 := Option.some.inj h
      subst e0
      exact y_iret C E (Nat.zero_le _) (Nat.zero_le _) dX7_done_48
    · have h := itT c9 h
      refine y_iload_n C dX7_done_36 rfl ?_
      refine y_goto C dX7_done_37 (tgt := 48) rfl ?_
      have e0 := Option.some.inj h
      subst e0
      exact y_iret C E (Nat.zero_le _) (Nat.zero_le _) dX7_done_48
  · have h := itFb c2 h
    refine y_bipush C dX7_done_7 kb_m2 ?_
    have e0 := Option.some.inj h
    subst e0
    exact y_iret C E (Nat.zero_le _) (Nat.zero_le _) dX7_done_9
set_option maxRecDepth 100000 in
def b_X7_isSeed (K : yK) (M : yM) (x1 : Int32) : Option Bool := (if x1 < 0 then (some false) else (if (99999 : Int32) < x1 then (some false) else (some true)))
set_option maxHeartbeats 4000000 in
set_option maxRecDepth 100000 in
theorem m_X7_isSeed (K : yK) (M : yM) (x1 : Int32) : yMet yX7_isSeed cX7_isSeed 1 (Option.some Jvm.ClassFile.FieldType.boolean) rm_X7_isSeed K M [.int x1] (b_X7_isSeed K M x1) (yFb K M) := by
  refine yM_intro (by decide) (Nat.le_of_ble_eq_true rfl) (fun X r h C E => ?_)
  replace C : yCx X cX7_isSeed RX7 "isSeed" rm_X7_isSeed 1 := C
  show Y X K M 0 0 0 [(0, .int x1)] []
  unfold b_X7_isSeed at h
  refine y_iload_n C dX7_isSeed_0 rfl ?_
  refine y_if_lt C dX7_isSeed_1 (tgt := 15) rfl (fun c1 => ?_) (fun c1 => ?_)
  · have h := itT c1 h
    refine y_iconst C dX7_isSeed_15 kc_0 ?_
    have e0 := Option.some.inj h
    subst e0
    exact y_bret (b := false) C E (Nat.zero_le _) (Nat.zero_le _) dX7_isSeed_16
  · have h := itF c1 h
    refine y_iload_n C dX7_isSeed_4 rfl ?_
    refine y_ldcw C wd_768 dX7_isSeed_5 ?_
    refine y_icmp_gt C dX7_isSeed_8 (tgt := 15) rfl (fun c2 => ?_) (fun c2 => ?_)
    · have h := itT c2 h
      refine y_iconst C dX7_isSeed_15 kc_0 ?_
      have e0 := Option.some.inj h
      subst e0
      exact y_bret (b := false) C E (Nat.zero_le _) (Nat.zero_le _) dX7_isSeed_16
    · have h := itF c2 h
      refine y_iconst C dX7_isSeed_11 kc_1 ?_
      refine y_goto C dX7_isSeed_12 (tgt := 16) rfl ?_
      have e0 := Option.some.inj h
      subst e0
      exact y_bret (b := true) C E (Nat.zero_le _) (Nat.zero_le _) dX7_isSeed_16
set_option maxRecDepth 100000 in
def b_X7_drawn (K : yK) (M : yM) (t : Nat) (x1 : Int32) (x2 : Int32) (x3 : Int32) : Option (Int32 × yM) := (Option.bind (b_X7_isSeed K M x1) fun r1 => (if r1 = true then (Option.bind (b_X7_isDays K M x2) fun r3 => (if r3 = true then (if x3 < 0 then (some ((-2 : Int32), M)) else (if (100 : Int32) < (x3 / (10 : Int32)) then (some ((-2 : Int32), M)) else (if (x3 - x3 / (10 : Int32) * (10 : Int32)) ≤ (4 : Int32) then (if gO K t 6 = true then (Option.bind (b_X7_think K M t ((0 : Int32)) ((0 : Int32)) ((0 : Int32))) fun r9 => (Option.bind (b_X7_passDays K r9 t x2 ((x3 - x3 / (10 : Int32) * (10 : Int32))) x1 ((x3 / (10 : Int32)))) fun r10 => (some (r10.1, r10.2)))) else none) else (some ((-2 : Int32), M))))) else (some ((-2 : Int32), M)))) else (some ((-2 : Int32), M))))
set_option maxHeartbeats 4000000 in
set_option maxRecDepth 100000 in
theorem m_X7_drawn (K : yK) (M : yM) (t : Nat) (x1 : Int32) (x2 : Int32) (x3 : Int32) : yMet yX7_drawn cX7_drawn 4 (Option.some Jvm.ClassFile.FieldType.int) rm_X7_drawn K M [.ref t, .int x1, .int x2, .int x3] (b_X7_drawn K M t x1 x2 x3) (yGi K) := by
  refine yM_intro (by decide) (Nat.le_of_ble_eq_true rfl) (fun X r h C E => ?_)
  replace C : yCx X cX7_drawn RX7 "drawn" rm_X7_drawn 4 := C
  show Y X K M 0 0 0 [(0, .ref t), (1, .int x1), (2, .int x2), (3, .int x3)] []
  unfold b_X7_drawn at h
  refine y_iload_n C dX7_drawn_0 rfl ?_
  obtain ⟨r1, hr1, h⟩ := ob h
  refine y_cS C [.int x1] (m_X7_isSeed K M x1) hr1 cw_X7_246 rfl (by decide) ⟨rfl, rfl⟩ ⟨Nat.zero_le _, Nat.zero_le _⟩ (Nat.le_of_ble_eq_true rfl) rfl rfl rfl dX7_drawn_1 ?_
  refine y_ifeqB C dX7_drawn_4 (tgt := 35) rfl (fun c2 => ?_) (fun c2 => ?_)
  · have h := itFb c2 h
    refine y_bipush C dX7_drawn_35 kb_m2 ?_
    have e0 := Option.some.inj h
    subst e0
    exact y_iret C E (Nat.zero_le _) (Nat.zero_le _) dX7_drawn_37
  · have h := itT c2 h
    refine y_iload_n C dX7_drawn_7 rfl ?_
    obtain ⟨r3, hr3, h⟩ := ob h
    refine y_cS C [.int x2] (m_X7_isDays K M x2) hr3 cw_X7_188 rfl (by decide) ⟨rfl, rfl⟩ ⟨Nat.zero_le _, Nat.zero_le _⟩ (Nat.le_of_ble_eq_true rfl) rfl rfl rfl dX7_drawn_8 ?_
    refine y_ifeqB C dX7_drawn_11 (tgt := 35) rfl (fun c4 => ?_) (fun c4 => ?_)
    · have h := itFb c4 h
      refine y_bipush C dX7_drawn_35 kb_m2 ?_
      have e0 := Option.some.inj h
      subst e0
      exact y_iret C E (Nat.zero_le _) (Nat.zero_le _) dX7_drawn_37
    · have h := itT c4 h
      refine y_iload_n C dX7_drawn_14 rfl ?_
      refine y_if_lt C dX7_drawn_15 (tgt := 35) rfl (fun c5 => ?_) (fun c5 => ?_)
      · have h := itT c5 h
        refine y_bipush C dX7_drawn_35 kb_m2 ?_
        have e0 := Option.some.inj h
        subst e0
        exact y_iret C E (Nat.zero_le _) (Nat.zero_le _) dX7_drawn_37
      · have h := itF c5 h
        refine y_iload_n C dX7_drawn_18 rfl ?_
        refine y_bipush C dX7_drawn_19 kb_10 ?_
        refine y_idiv C dX7_drawn_21 (by decide) ?_
        refine y_bipush C dX7_drawn_22 kb_100 ?_
        refine y_icmp_gt C dX7_drawn_24 (tgt := 35) rfl (fun c6 => ?_) (fun c6 => ?_)
        · have h := itT c6 h
          refine y_bipush C dX7_drawn_35 kb_m2 ?_
          have e0 := Option.some.inj h
          subst e0
          exact y_iret C E (Nat.zero_le _) (Nat.zero_le _) dX7_drawn_37
        · have h := itF c6 h
          refine y_iload_n C dX7_drawn_27 rfl ?_
          refine y_bipush C dX7_drawn_28 kb_10 ?_
          refine y_irem C dX7_drawn_30 (by decide) ?_
          refine y_iconst C dX7_drawn_31 kc_4 ?_
          refine y_icmp_le C dX7_drawn_32 (tgt := 38) rfl (fun c7 => ?_) (fun c7 => ?_)
          · have h := itT c7 h
            refine y_aload_n C dX7_drawn_38 rfl ?_
            refine y_iconst C dX7_drawn_39 kc_0 ?_
            refine y_iconst C dX7_drawn_40 kc_0 ?_
            refine y_iconst C dX7_drawn_41 kc_0 ?_
            obtain ⟨g8, h⟩ := gd h
            obtain ⟨r9, hr9, h⟩ := ob h
            refine y_cV C [.int (0 : Int32), .int (0 : Int32), .int (0 : Int32)] (m_X7_think K M t ((0 : Int32)) ((0 : Int32)) ((0 : Int32))) hr9 g8 cw_X7_191 rfl (by decide) ⟨rfl, rfl⟩ ⟨Nat.zero_le _, Nat.zero_le _⟩ (Nat.le_of_ble_eq_true rfl) rfl rfl rfl dX7_drawn_42 ?_
            refine y_aload_n C dX7_drawn_45 rfl ?_
            refine y_iload_n C dX7_drawn_46 rfl ?_
            refine y_iload_n C dX7_drawn_47 rfl ?_
            refine y_bipush C dX7_drawn_48 kb_10 ?_
            refine y_irem C dX7_drawn_50 (by decide) ?_
            refine y_iload_n C dX7_drawn_51 rfl ?_
            refine y_iload_n C dX7_drawn_52 rfl ?_
            refine y_bipush C dX7_drawn_53 kb_10 ?_
            refine y_idiv C dX7_drawn_55 (by decide) ?_
            obtain ⟨r10, hr10, h⟩ := ob h
            refine y_cV C [.int x2, .int (x3 - x3 / (10 : Int32) * (10 : Int32)), .int x1, .int (x3 / (10 : Int32))] (m_X7_passDays K r9 t x2 ((x3 - x3 / (10 : Int32) * (10 : Int32))) x1 ((x3 / (10 : Int32)))) hr10 g8 cw_X7_195 rfl (by decide) ⟨rfl, rfl⟩ ⟨Nat.zero_le _, Nat.zero_le _⟩ (Nat.le_of_ble_eq_true rfl) rfl rfl rfl dX7_drawn_56 ?_
            have e0 := Option.some.inj h
            subst e0
            exact y_iret C E (Nat.zero_le _) (Nat.zero_le _) dX7_drawn_59
          · have h := itF c7 h
            refine y_bipush C dX7_drawn_35 kb_m2 ?_
            have e0 := Option.some.inj h
            subst e0
            exact y_iret C E (Nat.zero_le _) (Nat.zero_le _) dX7_drawn_37
set_option maxRecDepth 100000 in
def b_X7_isByte (K : yK) (M : yM) (x1 : Int32) : Option Bool := (if x1 < 0 then (some false) else (if (255 : Int32) < x1 then (some false) else (some true)))
set_option maxHeartbeats 4000000 in
set_option maxRecDepth 100000 in
theorem m_X7_isByte (K : yK) (M : yM) (x1 : Int32) : yMet yX7_isByte cX7_isByte 1 (Option.some Jvm.ClassFile.FieldType.boolean) rm_X7_isByte K M [.int x1] (b_X7_isByte K M x1) (yFb K M) := by
  refine yM_intro (by decide) (Nat.le_of_ble_eq_true rfl) (fun X r h C E => ?_)
  replace C : yCx X cX7_isByte RX7 "isByte" rm_X7_isByte 1 := C
  show Y X K M 0 0 0 [(0, .int x1)] []
  unfold b_X7_isByte at h
  refine y_iload_n C dX7_isByte_0 rfl ?_
  refine y_if_lt C dX7_isByte_1 (tgt := 15) rfl (fun c1 => ?_) (fun c1 => ?_)
  · have h := itT c1 h
    refine y_iconst C dX7_isByte_15 kc_0 ?_
    have e0 := Option.some.inj h
    subst e0
    exact y_bret (b := false) C E (Nat.zero_le _) (Nat.zero_le _) dX7_isByte_16
  · have h := itF c1 h
    refine y_iload_n C dX7_isByte_4 rfl ?_
    refine y_sipush C dX7_isByte_5 ks_255 ?_
    refine y_icmp_gt C dX7_isByte_8 (tgt := 15) rfl (fun c2 => ?_) (fun c2 => ?_)
    · have h := itT c2 h
      refine y_iconst C dX7_isByte_15 kc_0 ?_
      have e0 := Option.some.inj h
      subst e0
      exact y_bret (b := false) C E (Nat.zero_le _) (Nat.zero_le _) dX7_isByte_16
    · have h := itF c2 h
      refine y_iconst C dX7_isByte_11 kc_1 ?_
      refine y_goto C dX7_isByte_12 (tgt := 16) rfl ?_
      have e0 := Option.some.inj h
      subst e0
      exact y_bret (b := true) C E (Nat.zero_le _) (Nat.zero_le _) dX7_isByte_16
set_option maxRecDepth 100000 in
def b_X7_feed (K : yK) (M : yM) (t : Nat) (x1 : Int32) (x2 : Int32) (x3 : Int32) (x4 : Int32) (x5 : Int32) (x6 : Int32) : Option (Int32 × yM) := (if x1 < (1 : Int32) then (some ((-2 : Int32), M)) else (if (5 : Int32) < x1 then (some ((-2 : Int32), M)) else (Option.bind (b_X7_isByte K M x2) fun r3 => (if r3 = true then (Option.bind (b_X7_isByte K M x3) fun r5 => (if r5 = true then (Option.bind (b_X7_isByte K M x4) fun r7 => (if r7 = true then (Option.bind (b_X7_isByte K M x5) fun r9 => (if r9 = true then (Option.bind (b_X7_isByte K M x6) fun r11 => (if r11 = true then (if gO K t 6 = true then (if (M t 6) ≤ ((160 : Int32) - x1) then (Option.bind (if x1 ≤ 0 then (some false) else (some true)) fun j16 => (Option.bind (b_X7_appendByte K M t x2 j16) fun r17 => (Option.bind (if x1 ≤ (1 : Int32) then (some false) else (some true)) fun j19 => (Option.bind (b_X7_appendByte K r17 t x3 j19) fun r20 => (Option.bind (if x1 ≤ (2 : Int32) then (some false) else (some true)) fun j22 => (Option.bind (b_X7_appendByte K r20 t x4 j22) fun r23 => (Option.bind (if x1 ≤ (3 : Int32) then (some false) else (some true)) fun j25 => (Option.bind (b_X7_appendByte K r23 t x5 j25) fun r26 => (Option.bind (if x1 ≤ (4 : Int32) then (some false) else (some true)) fun j28 => (Option.bind (b_X7_appendByte K r26 t x6 j28) fun r29 => (some ((r29 t 6), r29)))))))))))) else (some ((-4 : Int32), M))) else none) else (some ((-2 : Int32), M)))) else (some ((-2 : Int32), M)))) else (some ((-2 : Int32), M)))) else (some ((-2 : Int32), M)))) else (some ((-2 : Int32), M))))))
set_option maxHeartbeats 4000000 in
set_option maxRecDepth 100000 in
theorem m_X7_feed (K : yK) (M : yM) (t : Nat) (x1 : Int32) (x2 : Int32) (x3 : Int32) (x4 : Int32) (x5 : Int32) (x6 : Int32) : yMet yX7_feed cX7_feed 7 (Option.some Jvm.ClassFile.FieldType.int) rm_X7_feed K M [.ref t, .int x1, .int x2, .int x3, .int x4, .int x5, .int x6] (b_X7_feed K M t x1 x2 x3 x4 x5 x6) (yGi K) := by
  refine yM_intro (by decide) (Nat.le_of_ble_eq_true rfl) (fun X r h C E => ?_)
  replace C : yCx X cX7_feed RX7 "feed" rm_X7_feed 7 := C
  show Y X K M 0 0 0 [(0, .ref t), (1, .int x1), (2, .int x2), (3, .int x3), (4, .int x4), (5, .int x5), (6, .int x6)] []
  unfold b_X7_feed at h
  refine y_iload_n C dX7_feed_0 rfl ?_
  refine y_iconst C dX7_feed_1 kc_1 ?_
  refine y_icmp_lt C dX7_feed_2 (tgt := 48) rfl (fun c1 => ?_) (fun c1 => ?_)
  · have h := itT c1 h
    refine y_bipush C dX7_feed_48 kb_m2 ?_
    have e0 := Option.some.inj h
    subst e0
    exact y_iret C E (Nat.zero_le _) (Nat.zero_le _) dX7_feed_50
  · have h := itF c1 h
    refine y_iload_n C dX7_feed_5 rfl ?_
    refine y_iconst C dX7_feed_6 kc_5 ?_
    refine y_icmp_gt C dX7_feed_7 (tgt := 48) rfl (fun c2 => ?_) (fun c2 => ?_)
    · have h := itT c2 h
      refine y_bipush C dX7_feed_48 kb_m2 ?_
      have e0 := Option.some.inj h
      subst e0
      exact y_iret C E (Nat.zero_le _) (Nat.zero_le _) dX7_feed_50
    · have h := itF c2 h
      refine y_iload_n C dX7_feed_10 rfl ?_
      obtain ⟨r3, hr3, h⟩ := ob h
      refine y_cS C [.int x2] (m_X7_isByte K M x2) hr3 cw_X7_99 rfl (by decide) ⟨rfl, rfl⟩ ⟨Nat.zero_le _, Nat.zero_le _⟩ (Nat.le_of_ble_eq_true rfl) rfl rfl rfl dX7_feed_11 ?_
      refine y_ifeqB C dX7_feed_14 (tgt := 48) rfl (fun c4 => ?_) (fun c4 => ?_)
      · have h := itFb c4 h
        refine y_bipush C dX7_feed_48 kb_m2 ?_
        have e0 := Option.some.inj h
        subst e0
        exact y_iret C E (Nat.zero_le _) (Nat.zero_le _) dX7_feed_50
      · have h := itT c4 h
        refine y_iload_n C dX7_feed_17 rfl ?_
        obtain ⟨r5, hr5, h⟩ := ob h
        refine y_cS C [.int x3] (m_X7_isByte K M x3) hr5 cw_X7_99 rfl (by decide) ⟨rfl, rfl⟩ ⟨Nat.zero_le _, Nat.zero_le _⟩ (Nat.le_of_ble_eq_true rfl) rfl rfl rfl dX7_feed_18 ?_
        refine y_ifeqB C dX7_feed_21 (tgt := 48) rfl (fun c6 => ?_) (fun c6 => ?_)
        · have h := itFb c6 h
          refine y_bipush C dX7_feed_48 kb_m2 ?_
          have e0 := Option.some.inj h
          subst e0
          exact y_iret C E (Nat.zero_le _) (Nat.zero_le _) dX7_feed_50
        · have h := itT c6 h
          refine y_iload C dX7_feed_24 rfl ?_
          obtain ⟨r7, hr7, h⟩ := ob h
          refine y_cS C [.int x4] (m_X7_isByte K M x4) hr7 cw_X7_99 rfl (by decide) ⟨rfl, rfl⟩ ⟨Nat.zero_le _, Nat.zero_le _⟩ (Nat.le_of_ble_eq_true rfl) rfl rfl rfl dX7_feed_26 ?_
          refine y_ifeqB C dX7_feed_29 (tgt := 48) rfl (fun c8 => ?_) (fun c8 => ?_)
          · have h := itFb c8 h
            refine y_bipush C dX7_feed_48 kb_m2 ?_
            have e0 := Option.some.inj h
            subst e0
            exact y_iret C E (Nat.zero_le _) (Nat.zero_le _) dX7_feed_50
          · have h := itT c8 h
            refine y_iload C dX7_feed_32 rfl ?_
            obtain ⟨r9, hr9, h⟩ := ob h
            refine y_cS C [.int x5] (m_X7_isByte K M x5) hr9 cw_X7_99 rfl (by decide) ⟨rfl, rfl⟩ ⟨Nat.zero_le _, Nat.zero_le _⟩ (Nat.le_of_ble_eq_true rfl) rfl rfl rfl dX7_feed_34 ?_
            refine y_ifeqB C dX7_feed_37 (tgt := 48) rfl (fun c10 => ?_) (fun c10 => ?_)
            · have h := itFb c10 h
              refine y_bipush C dX7_feed_48 kb_m2 ?_
              have e0 := Option.some.inj h
              subst e0
              exact y_iret C E (Nat.zero_le _) (Nat.zero_le _) dX7_feed_50
            · have h := itT c10 h
              refine y_iload C dX7_feed_40 rfl ?_
              obtain ⟨r11, hr11, h⟩ := ob h
              refine y_cS C [.int x6] (m_X7_isByte K M x6) hr11 cw_X7_99 rfl (by decide) ⟨rfl, rfl⟩ ⟨Nat.zero_le _, Nat.zero_le _⟩ (Nat.le_of_ble_eq_true rfl) rfl rfl rfl dX7_feed_42 ?_
              refine y_ifneB C dX7_feed_45 (tgt := 51) rfl (fun c12 => ?_) (fun c12 => ?_)
              · have h := itT c12 h
                refine y_aload_n C dX7_feed_51 rfl ?_
                obtain ⟨g13, h⟩ := gd h
                refine y_geti C fl_X7_76 g13 dX7_feed_52 ?_
                refine y_sipush C dX7_feed_55 ks_160 ?_
                refine y_iload_n C dX7_feed_58 rfl ?_
                refine y_isub C dX7_feed_59 ?_
                refine y_icmp_le C dX7_feed_60 (tgt := 66) rfl (fun c14 => ?_) (fun c14 => ?_)
                · have h := itT c14 h
                  refine y_aload_n C dX7_feed_66 rfl ?_
                  refine y_iload_n C dX7_feed_67 rfl ?_
                  refine y_iload_n C dX7_feed_68 rfl ?_
                  obtain ⟨j16, hj16, h⟩ := ob h
                  have hJj16 : Y X K M 0 0 77 [(0, .ref t), (1, .int x1), (3, .int x3), (4, .int x4), (5, .int x5), (6, .int x6)] [.int (bI j16), .int x2, .ref t] := by
                    obtain ⟨r17, hr17, h⟩ := ob h
                    refine y_cV C [.int x2, .int (bI j16)] (m_X7_appendByte K M t x2 j16) hr17 g13 cw_X7_103 rfl (by decide) ⟨rfl, rfl⟩ ⟨Nat.zero_le _, Nat.zero_le _⟩ (Nat.le_of_ble_eq_true rfl) rfl rfl rfl dX7_feed_77 ?_
                    refine y_aload_n C dX7_feed_80 rfl ?_
                    refine y_iload_n C dX7_feed_81 rfl ?_
                    refine y_iload_n C dX7_feed_82 rfl ?_
                    refine y_iconst C dX7_feed_83 kc_1 ?_
                    obtain ⟨j19, hj19, h⟩ := ob h
                    have hJj19 : Y X K r17 0 0 92 [(0, .ref t), (1, .int x1), (4, .int x4), (5, .int x5), (6, .int x6)] [.int (bI j19), .int x3, .ref t] := by
                      obtain ⟨r20, hr20, h⟩ := ob h
                      refine y_cV C [.int x3, .int (bI j19)] (m_X7_appendByte K r17 t x3 j19) hr20 g13 cw_X7_103 rfl (by decide) ⟨rfl, rfl⟩ ⟨Nat.zero_le _, Nat.zero_le _⟩ (Nat.le_of_ble_eq_true rfl) rfl rfl rfl dX7_feed_92 ?_
                      refine y_aload_n C dX7_feed_95 rfl ?_
                      refine y_iload C dX7_feed_96 rfl ?_
                      refine y_iload_n C dX7_feed_98 rfl ?_
                      refine y_iconst C dX7_feed_99 kc_2 ?_
                      obtain ⟨j22, hj22, h⟩ := ob h
                      have hJj22 : Y X K r20 0 0 108 [(0, .ref t), (1, .int x1), (5, .int x5), (6, .int x6)] [.int (bI j22), .int x4, .ref t] := by
                        obtain ⟨r23, hr23, h⟩ := ob h
                        refine y_cV C [.int x4, .int (bI j22)] (m_X7_appendByte K r20 t x4 j22) hr23 g13 cw_X7_103 rfl (by decide) ⟨rfl, rfl⟩ ⟨Nat.zero_le _, Nat.zero_le _⟩ (Nat.le_of_ble_eq_true rfl) rfl rfl rfl dX7_feed_108 ?_
                        refine y_aload_n C dX7_feed_111 rfl ?_
                        refine y_iload C dX7_feed_112 rfl ?_
                        refine y_iload_n C dX7_feed_114 rfl ?_
                        refine y_iconst C dX7_feed_115 kc_3 ?_
                        obtain ⟨j25, hj25, h⟩ := ob h
                        have hJj25 : Y X K r23 0 0 124 [(0, .ref t), (1, .int x1), (6, .int x6)] [.int (bI j25), .int x5, .ref t] := by
                          obtain ⟨r26, hr26, h⟩ := ob h
                          refine y_cV C [.int x5, .int (bI j25)] (m_X7_appendByte K r23 t x5 j25) hr26 g13 cw_X7_103 rfl (by decide) ⟨rfl, rfl⟩ ⟨Nat.zero_le _, Nat.zero_le _⟩ (Nat.le_of_ble_eq_true rfl) rfl rfl rfl dX7_feed_124 ?_
                          refine y_aload_n C dX7_feed_127 rfl ?_
                          refine y_iload C dX7_feed_128 rfl ?_
                          refine y_iload_n C dX7_feed_130 rfl ?_
                          refine y_iconst C dX7_feed_131 kc_4 ?_
                          obtain ⟨j28, hj28, h⟩ := ob h
                          have hJj28 : Y X K r26 0 0 140 [(0, .ref t)] [.int (bI j28), .int x6, .ref t] := by
                            obtain ⟨r29, hr29, h⟩ := ob h
                            refine y_cV C [.int x6, .int (bI j28)] (m_X7_appendByte K r26 t x6 j28) hr29 g13 cw_X7_103 rfl (by decide) ⟨rfl, rfl⟩ ⟨Nat.zero_le _, Nat.zero_le _⟩ (Nat.le_of_ble_eq_true rfl) rfl rfl rfl dX7_feed_140 ?_
                            refine y_aload_n C dX7_feed_143 rfl ?_
                            refine y_geti C fl_X7_76 g13 dX7_feed_144 ?_
                            have e0 := Option.some.inj h
                            subst e0
                            exact y_iret C E (Nat.zero_le _) (Nat.zero_le _) dX7_feed_147
                          replace h := hj28
                          refine y_icmp_le C dX7_feed_132 (tgt := 139) rfl (fun c27 => ?_) (fun c27 => ?_)
                          · have h := itT c27 h
                            refine y_iconst C dX7_feed_139 kc_0 ?_
                            have e0 := Option.some.inj h
                            subst e0
                            exact y_sel [0] rfl hJj28
                          · have h := itF c27 h
                            refine y_iconst C dX7_feed_135 kc_1 ?_
                            refine y_goto C dX7_feed_136 (tgt := 140) rfl ?_
                            have e0 := Option.some.inj h
                            subst e0
                            exact y_sel [0] rfl hJj28
                        replace h := hj25
                        refine y_icmp_le C dX7_feed_116 (tgt := 123) rfl (fun c24 => ?_) (fun c24 => ?_)
                        · have h := itT c24 h
                          refine y_iconst C dX7_feed_123 kc_0 ?_
                          have e0 := Option.some.inj h
                          subst e0
                          exact y_sel [0, 1, 6] rfl hJj25
                        · have h := itF c24 h
                          refine y_iconst C dX7_feed_119 kc_1 ?_
                          refine y_goto C dX7_feed_120 (tgt := 124) rfl ?_
                          have e0 := Option.some.inj h
                          subst e0
                          exact y_sel [0, 1, 6] rfl hJj25
                      replace h := hj22
                      refine y_icmp_le C dX7_feed_100 (tgt := 107) rfl (fun c21 => ?_) (fun c21 => ?_)
                      · have h := itT c21 h
                        refine y_iconst C dX7_feed_107 kc_0 ?_
                        have e0 := Option.some.inj h
                        subst e0
                        exact y_sel [0, 1, 5, 6] rfl hJj22
                      · have h := itF c21 h
                        refine y_iconst C dX7_feed_103 kc_1 ?_
                        refine y_goto C dX7_feed_104 (tgt := 108) rfl ?_
                        have e0 := Option.some.inj h
                        subst e0
                        exact y_sel [0, 1, 5, 6] rfl hJj22
                    replace h := hj19
                    refine y_icmp_le C dX7_feed_84 (tgt := 91) rfl (fun c18 => ?_) (fun c18 => ?_)
                    · have h := itT c18 h
                      refine y_iconst C dX7_feed_91 kc_0 ?_
                      have e0 := Option.some.inj h
                      subst e0
                      exact y_sel [0, 1, 4, 5, 6] rfl hJj19
                    · have h := itF c18 h
                      refine y_iconst C dX7_feed_87 kc_1 ?_
                      refine y_goto C dX7_feed_88 (tgt := 92) rfl ?_
                      have e0 := Option.some.inj h
                      subst e0
                      exact y_sel [0, 1, 4, 5, 6] rfl hJj19
                  replace h := hj16
                  refine y_if_le C dX7_feed_69 (tgt := 76) rfl (fun c15 => ?_) (fun c15 => ?_)
                  · have h := itT c15 h
                    refine y_iconst C dX7_feed_76 kc_0 ?_
                    have e0 := Option.some.inj h
                    subst e0
                    exact y_sel [0, 1, 3, 4, 5, 6] rfl hJj16
                  · have h := itF c15 h
                    refine y_iconst C dX7_feed_72 kc_1 ?_
                    refine y_goto C dX7_feed_73 (tgt := 77) rfl ?_
                    have e0 := Option.some.inj h
                    subst e0
                    exact y_sel [0, 1, 3, 4, 5, 6] rfl hJj16
                · have h := itF c14 h
                  refine y_bipush C dX7_feed_63 kb_m4 ?_
                  have e0 := Option.some.inj h
                  subst e0
                  exact y_iret C E (Nat.zero_le _) (Nat.zero_le _) dX7_feed_65
              · have h := itFb c12 h
                refine y_bipush C dX7_feed_48 kb_m2 ?_
                have e0 := Option.some.inj h
                subst e0
                exact y_iret C E (Nat.zero_le _) (Nat.zero_le _) dX7_feed_50
def b_X7_film_40 (K : yK) (t : Nat) (x_1 : Int32) (x_2 : Int32) : Nat → yM → Int32 → Option yM
  | 0, _, _ => none
  | n + 1, M, u40_3 => (if x_2 ≤ u40_3 then (some M) else (if gO K t 6 = true then (Option.bind (K.2.2 t 2) fun q3 => (if gO K q3 0 = true then (Option.bind (b_X0_passDay K M q3) fun r5 => (Option.bind (K.2.2 t 4) fun q6 => (if gQ K q6 2 x_1 = true then (Option.bind (K.2.2 q6 (x_1).toNatClampNeg) fun q8 => (Option.bind (b_X0_itself K r5 q3) fun r9 => (Option.bind (b_X0_held K r9.2 q3 r9.1) fun r10 => (if gO K q8 4 = true then (Option.bind (b_X5_write K r9.2 q8 u40_3 r10) fun r12 => (Option.bind (some (u40_3 + (1 : Int32))) fun v13 => (b_X7_film_40 K t x_1 x_2 n r12 v13))) else none)))) else none))) else none)) else none))
set_option maxHeartbeats 4000000 in
set_option maxRecDepth 100000 in
theorem l_X7_film_40 {X : yX} {K : yK} {t : Nat} {x_1 : Int32} {x_2 : Int32} (C : yCx X cX7_film RX7 "film" rm_X7_film 4) : ∀ (n : Nat) (M : yM) (u40_3 : Int32) (x : yM), b_X7_film_40 K t x_1 x_2 n M u40_3 = some x → ∀ (hX : Y X K x 0 0 82 [(2, .int x_2)] []), Y X K M 0 0 40 [(0, .ref t), (1, .int x_1), (2, .int x_2), (3, .int u40_3)] [] := by
  intro n
  induction n with
  | zero =>
    intro M u40_3 x h
    exact nomatch (show (none : Option _) = some x from h)
  | succ n ih =>
    intro M u40_3 x h hX
    rw [b_X7_film_40] at h
    refine y_iload_n C dX7_film_40 rfl ?_
    refine y_iload_n C dX7_film_41 rfl ?_
    refine y_icmp_ge C dX7_film_42 (tgt := 82) rfl (fun c1 => ?_) (fun c1 => ?_)
    · have h := itT c1 h
      have e0 := Option.some.inj h
      subst e0
      exact y_sel [2] rfl hX
    · have h := itF c1 h
      refine y_aload_n C dX7_film_45 rfl ?_
      obtain ⟨g2, h⟩ := gd h
      obtain ⟨q3, hq3, h⟩ := ob h
      refine y_getr C fl_X7_34 g2 hq3 dX7_film_46 ?_
      obtain ⟨g4, h⟩ := gd h
      obtain ⟨r5, hr5, h⟩ := ob h
      refine y_cV C [] (m_X0_passDay K M q3) hr5 g4 cw_X7_158 rfl (by decide) ⟨rfl, rfl⟩ ⟨Nat.zero_le _, Nat.zero_le _⟩ (Nat.le_of_ble_eq_true rfl) rfl rfl rfl dX7_film_49 ?_
      refine y_aload_n C dX7_film_52 rfl ?_
      obtain ⟨q6, hq6, h⟩ := ob h
      refine y_getr C fl_X7_46 g2 hq6 dX7_film_53 ?_
      refine y_iload_n C dX7_film_56 rfl ?_
      obtain ⟨g7, h⟩ := gd h
      obtain ⟨q8, hq8, h⟩ := ob h
      refine y_aald C (by decide) g7 hq8 dX7_film_57 ?_
      refine y_iload_n C dX7_film_58 rfl ?_
      refine y_aload_n C dX7_film_59 rfl ?_
      refine y_getr C fl_X7_34 g2 hq3 dX7_film_60 ?_
      refine y_aload_n C dX7_film_63 rfl ?_
      refine y_getr C fl_X7_34 g2 hq3 dX7_film_64 ?_
      obtain ⟨r9, hr9, h⟩ := ob h
      refine y_cV C [] (m_X0_itself K r5 q3) hr9 g4 cw_X7_164 rfl (by decide) ⟨rfl, rfl⟩ ⟨Nat.zero_le _, Nat.zero_le _⟩ (Nat.le_of_ble_eq_true rfl) rfl rfl rfl dX7_film_67 ?_
      obtain ⟨r10, hr10, h⟩ := ob h
      refine y_cV C [.int r9.1] (m_X0_held K r9.2 q3 r9.1) hr10 g4 cw_X7_167 rfl (by decide) ⟨rfl, rfl⟩ ⟨Nat.zero_le _, Nat.zero_le _⟩ (Nat.le_of_ble_eq_true rfl) rfl rfl rfl dX7_film_70 ?_
      obtain ⟨g11, h⟩ := gd h
      obtain ⟨r12, hr12, h⟩ := ob h
      refine y_cV C [.int u40_3, .int r10] (m_X5_write K r9.2 q8 u40_3 r10) hr12 g11 cw_X7_234 rfl (by decide) ⟨rfl, rfl⟩ ⟨Nat.zero_le _, Nat.zero_le _⟩ (Nat.le_of_ble_eq_true rfl) rfl rfl rfl dX7_film_73 ?_
      obtain ⟨v13, ev13, h⟩ := ob h
      have ev13 := Option.some.inj ev13
      refine y_iinc C dX7_film_76 (by decide) rfl (v := v13) (by subst ev13; rfl) (L' := [(3, .int v13), (0, .ref t), (1, .int x_1), (2, .int x_2)]) rfl ?_
      refine y_goto C dX7_film_79 (tgt := 40) rfl ?_
      exact y_sel [0, 1, 2, 3] rfl (ih _ _ _  h hX)
set_option maxRecDepth 100000 in
def b_X7_film (K : yK) (M : yM) (t : Nat) (x1 : Int32) (x2 : Int32) : Option (Int32 × yM) := (Option.bind (b_X7_isSheet K M x1) fun r1 => (if r1 = true then (if x2 < 0 then (some ((-2 : Int32), M)) else (if x2 ≤ (40 : Int32) then (if gO K t 6 = true then (Option.bind (K.2.2 t 4) fun q6 => (if gQ K q6 2 x1 = true then (Option.bind (K.2.2 q6 (x1).toNatClampNeg) fun q8 => (if gO K q8 4 = true then (Option.bind (b_X5_become K M q8 ((1 : Int32)) x2) fun r10 => (Option.bind (b_X7_think K r10 t ((0 : Int32)) ((0 : Int32)) ((0 : Int32))) fun r11 => (Option.bind (b_X7_film_40 K t x1 x2 1000 r11 ((0 : Int32))) fun j12 => (some (x2, j12))))) else none)) else none)) else none) else (some ((-2 : Int32), M)))) else (some ((-2 : Int32), M))))
set_option maxHeartbeats 4000000 in
set_option maxRecDepth 100000 in
theorem m_X7_film (K : yK) (M : yM) (t : Nat) (x1 : Int32) (x2 : Int32) : yMet yX7_film cX7_film 4 (Option.some Jvm.ClassFile.FieldType.int) rm_X7_film K M [.ref t, .int x1, .int x2] (b_X7_film K M t x1 x2) (yGi K) := by
  refine yM_intro (by decide) (Nat.le_of_ble_eq_true rfl) (fun X r h C E => ?_)
  replace C : yCx X cX7_film RX7 "film" rm_X7_film 4 := C
  show Y X K M 0 0 0 [(0, .ref t), (1, .int x1), (2, .int x2)] []
  unfold b_X7_film at h
  refine y_iload_n C dX7_film_0 rfl ?_
  obtain ⟨r1, hr1, h⟩ := ob h
  refine y_cS C [.int x1] (m_X7_isSheet K M x1) hr1 cw_X7_227 rfl (by decide) ⟨rfl, rfl⟩ ⟨Nat.zero_le _, Nat.zero_le _⟩ (Nat.le_of_ble_eq_true rfl) rfl rfl rfl dX7_film_1 ?_
  refine y_ifeqB C dX7_film_4 (tgt := 17) rfl (fun c2 => ?_) (fun c2 => ?_)
  · have h := itFb c2 h
    refine y_bipush C dX7_film_17 kb_m2 ?_
    have e0 := Option.some.inj h
    subst e0
    exact y_iret C E (Nat.zero_le _) (Nat.zero_le _) dX7_film_19
  · have h := itT c2 h
    refine y_iload_n C dX7_film_7 rfl ?_
    refine y_if_lt C dX7_film_8 (tgt := 17) rfl (fun c3 => ?_) (fun c3 => ?_)
    · have h := itT c3 h
      refine y_bipush C dX7_film_17 kb_m2 ?_
      have e0 := Option.some.inj h
      subst e0
      exact y_iret C E (Nat.zero_le _) (Nat.zero_le _) dX7_film_19
    · have h := itF c3 h
      refine y_iload_n C dX7_film_11 rfl ?_
      refine y_bipush C dX7_film_12 kb_40 ?_
      refine y_icmp_le C dX7_film_14 (tgt := 20) rfl (fun c4 => ?_) (fun c4 => ?_)
      · have h := itT c4 h
        refine y_aload_n C dX7_film_20 rfl ?_
        obtain ⟨g5, h⟩ := gd h
        obtain ⟨q6, hq6, h⟩ := ob h
        refine y_getr C fl_X7_46 g5 hq6 dX7_film_21 ?_
        refine y_iload_n C dX7_film_24 rfl ?_
        obtain ⟨g7, h⟩ := gd h
        obtain ⟨q8, hq8, h⟩ := ob h
        refine y_aald C (by decide) g7 hq8 dX7_film_25 ?_
        refine y_iconst C dX7_film_26 kc_1 ?_
        refine y_iload_n C dX7_film_27 rfl ?_
        obtain ⟨g9, h⟩ := gd h
        obtain ⟨r10, hr10, h⟩ := ob h
        refine y_cV C [.int (1 : Int32), .int x2] (m_X5_become K M q8 ((1 : Int32)) x2) hr10 g9 cw_X7_230 rfl (by decide) ⟨rfl, rfl⟩ ⟨Nat.zero_le _, Nat.zero_le _⟩ (Nat.le_of_ble_eq_true rfl) rfl rfl rfl dX7_film_28 ?_
        refine y_aload_n C dX7_film_31 rfl ?_
        refine y_iconst C dX7_film_32 kc_0 ?_
        refine y_iconst C dX7_film_33 kc_0 ?_
        refine y_iconst C dX7_film_34 kc_0 ?_
        obtain ⟨r11, hr11, h⟩ := ob h
        refine y_cV C [.int (0 : Int32), .int (0 : Int32), .int (0 : Int32)] (m_X7_think K r10 t ((0 : Int32)) ((0 : Int32)) ((0 : Int32))) hr11 g5 cw_X7_191 rfl (by decide) ⟨rfl, rfl⟩ ⟨Nat.zero_le _, Nat.zero_le _⟩ (Nat.le_of_ble_eq_true rfl) rfl rfl rfl dX7_film_35 ?_
        refine y_iconst C dX7_film_38 kc_0 ?_
        refine y_istore_n C dX7_film_39 (by decide) (L' := [(3, .int (0)), (0, .ref t), (1, .int x1), (2, .int x2)]) rfl ?_
        obtain ⟨j12, hj12, h⟩ := ob h
        refine y_sel [0, 1, 2, 3] rfl (l_X7_film_40 C 1000 _ _ _ hj12 ?_)
        refine y_iload_n C dX7_film_82 rfl ?_
        have e0 := Option.some.inj h
        subst e0
        exact y_iret C E (Nat.zero_le _) (Nat.zero_le _) dX7_film_83
      · have h := itF c4 h
        refine y_bipush C dX7_film_17 kb_m2 ?_
        have e0 := Option.some.inj h
        subst e0
        exact y_iret C E (Nat.zero_le _) (Nat.zero_le _) dX7_film_19
set_option maxRecDepth 100000 in
def b_X7_force (K : yK) (M : yM) (t : Nat) (x1 : Int32) : Option (Int32 × yM) := (if x1 < 0 then (some ((-2 : Int32), M)) else (if gO K t 6 = true then (if x1 < (M t 7) then (Option.bind (K.2.2 t 0) fun q4 => (if gO K q4 0 = true then (Option.bind (some (M q4 15)) fun v6 => (Option.bind (some (yS M q4 15 x1)) fun M7 => (some (v6, M7)))) else none)) else (some ((-2 : Int32), M))) else none))
set_option maxHeartbeats 4000000 in
set_option maxRecDepth 100000 in
theorem m_X7_force (K : yK) (M : yM) (t : Nat) (x1 : Int32) : yMet yX7_force cX7_force 3 (Option.some Jvm.ClassFile.FieldType.int) rm_X7_force K M [.ref t, .int x1] (b_X7_force K M t x1) (yGi K) := by
  refine yM_intro (by decide) (Nat.le_of_ble_eq_true rfl) (fun X r h C E => ?_)
  replace C : yCx X cX7_force RX7 "force" rm_X7_force 3 := C
  show Y X K M 0 0 0 [(0, .ref t), (1, .int x1)] []
  unfold b_X7_force at h
  refine y_iload_n C dX7_force_0 rfl ?_
  refine y_if_lt C dX7_force_1 (tgt := 12) rfl (fun c1 => ?_) (fun c1 => ?_)
  · have h := itT c1 h
    refine y_bipush C dX7_force_12 kb_m2 ?_
    have e0 := Option.some.inj h
    subst e0
    exact y_iret C E (Nat.zero_le _) (Nat.zero_le _) dX7_force_14
  · have h := itF c1 h
    refine y_iload_n C dX7_force_4 rfl ?_
    refine y_aload_n C dX7_force_5 rfl ?_
    obtain ⟨g2, h⟩ := gd h
    refine y_geti C fl_X7_15 g2 dX7_force_6 ?_
    refine y_icmp_lt C dX7_force_9 (tgt := 15) rfl (fun c3 => ?_) (fun c3 => ?_)
    · have h := itT c3 h
      refine y_aload_n C dX7_force_15 rfl ?_
      obtain ⟨q4, hq4, h⟩ := ob h
      refine y_getr C fl_X7_27 g2 hq4 dX7_force_16 ?_
      obtain ⟨g5, h⟩ := gd h
      refine y_geti C fl_X7_73 g5 dX7_force_19 ?_
      obtain ⟨v6, ev6, h⟩ := ob h
      have ev6 := Option.some.inj ev6
      refine y_istore_n C dX7_force_22 (by decide) (L' := [(2, .int v6), (0, .ref t), (1, .int x1)]) (by subst ev6; rfl) ?_
      refine y_aload_n C dX7_force_23 rfl ?_
      refine y_getr C fl_X7_27 g2 hq4 dX7_force_24 ?_
      refine y_iload_n C dX7_force_27 rfl ?_
      obtain ⟨M7, eM7, h⟩ := ob h
      have eM7 := Option.some.inj eM7
      refine y_puti C fl_X7_73 rfl g5 rfl rfl dX7_force_28 eM7 ?_
      refine y_iload_n C dX7_force_31 rfl ?_
      have e0 := Option.some.inj h
      subst e0
      exact y_iret C E (Nat.zero_le _) (Nat.zero_le _) dX7_force_32
    · have h := itF c3 h
      refine y_bipush C dX7_force_12 kb_m2 ?_
      have e0 := Option.some.inj h
      subst e0
      exact y_iret C E (Nat.zero_le _) (Nat.zero_le _) dX7_force_14
set_option maxRecDepth 100000 in
def b_X7_image (K : yK) (M : yM) (t : Nat) : Option (Int32 × yM) := (if gO K t 6 = true then (Option.bind (K.2.2 t 1) fun q2 => (Option.bind (K.2.2 t 0) fun q3 => (if gO K q2 0 = true then (Option.bind (b_X0_takeFrom K M q2 q3) fun r5 => (Option.bind (some (yS r5 t 8 (1 : Int32))) fun M6 => (if gO K q3 0 = true then (some ((M6 q3 8), M6)) else none))) else none))) else none)
set_option maxHeartbeats 4000000 in
set_option maxRecDepth 100000 in
theorem m_X7_image (K : yK) (M : yM) (t : Nat) : yMet yX7_image cX7_image 1 (Option.some Jvm.ClassFile.FieldType.int) rm_X7_image K M [.ref t] (b_X7_image K M t) (yGi K) := by
  refine yM_intro (by decide) (Nat.le_of_ble_eq_true rfl) (fun X r h C E => ?_)
  replace C : yCx X cX7_image RX7 "image" rm_X7_image 1 := C
  show Y X K M 0 0 0 [(0, .ref t)] []
  unfold b_X7_image at h
  refine y_aload_n C dX7_image_0 rfl ?_
  obtain ⟨g1, h⟩ := gd h
  obtain ⟨q2, hq2, h⟩ := ob h
  refine y_getr C fl_X7_31 g1 hq2 dX7_image_1 ?_
  refine y_aload_n C dX7_image_4 rfl ?_
  obtain ⟨q3, hq3, h⟩ := ob h
  refine y_getr C fl_X7_27 g1 hq3 dX7_image_5 ?_
  obtain ⟨g4, h⟩ := gd h
  obtain ⟨r5, hr5, h⟩ := ob h
  refine y_cV C [.ref q3] (m_X0_takeFrom K M q2 q3) hr5 g4 cw_X7_255 rfl (by decide) ⟨rfl, rfl⟩ ⟨Nat.zero_le _, Nat.zero_le _⟩ (Nat.le_of_ble_eq_true rfl) rfl rfl rfl dX7_image_8 ?_
  refine y_aload_n C dX7_image_11 rfl ?_
  refine y_iconst C dX7_image_12 kc_1 ?_
  obtain ⟨M6, eM6, h⟩ := ob h
  have eM6 := Option.some.inj eM6
  refine y_puti C fl_X7_259 rfl g1 rfl rfl dX7_image_13 eM6 ?_
  refine y_aload_n C dX7_image_16 rfl ?_
  refine y_getr C fl_X7_27 g1 hq3 dX7_image_17 ?_
  obtain ⟨g7, h⟩ := gd h
  refine y_geti C fl_X7_55 g7 dX7_image_20 ?_
  have e0 := Option.some.inj h
  subst e0
  exact y_iret C E (Nat.zero_le _) (Nat.zero_le _) dX7_image_23
def b_X7_inLowestTerms_2 (K : yK) (M : yM) (x_0 : Int32) (x_1 : Int32) (x_2 : Int32) : Nat → Int32 → Option (Unit ⊕ Int32)
  | 0, _ => none
  | n + 1, u2_3 => (if u2_3 ≤ (1 : Int32) then (some (.inl ())) else (if ¬ u2_3 = 0 then (if (x_1 - x_1 / u2_3 * u2_3) = 0 then (if (x_2 - x_2 / u2_3 * u2_3) = 0 then (some (.inr (x_0 / u2_3))) else (Option.bind (some (u2_3 + (-1 : Int32))) fun v6 => (b_X7_inLowestTerms_2 K M x_0 x_1 x_2 n v6))) else (Option.bind (some (u2_3 + (-1 : Int32))) fun v4 => (b_X7_inLowestTerms_2 K M x_0 x_1 x_2 n v4))) else none))
set_option maxHeartbeats 4000000 in
set_option maxRecDepth 100000 in
theorem l_X7_inLowestTerms_2 {X : yX} {K : yK} {M : yM} {K0 : yK} {M0 : yM} {x_0 : Int32} {x_1 : Int32} {x_2 : Int32} (C : yCx X cX7_inLowestTerms RX7 "inLowestTerms" rm_X7_inLowestTerms 4) : ∀ (n : Nat) (u2_3 : Int32) (x : (Unit ⊕ Int32)), b_X7_inLowestTerms_2 K M x_0 x_1 x_2 n u2_3 = some x → ∀ (hX : ∀ x8, x = .inl x8 → Y X K M 0 0 29 [(0, .int x_0)] []), ∀ (hE : ∀ x9, x = .inr x9 → yRt X (Option.some Jvm.ClassFile.FieldType.int) K0 M0 ((yFi K M) x9).1 ((yFi K M) x9).2.1 ((yFi K M) x9).2.2 0 0), Y X K M 0 0 2 [(0, .int x_0), (1, .int x_1), (2, .int x_2), (3, .int u2_3)] [] := by
  intro n
  induction n with
  | zero =>
    intro u2_3 x h
    exact nomatch (show (none : Option _) = some x from h)
  | succ n ih =>
    intro u2_3 x h hX hE
    rw [b_X7_inLowestTerms_2] at h
    refine y_iload_n C dX7_inLowestTerms_2 rfl ?_
    refine y_iconst C dX7_inLowestTerms_3 kc_1 ?_
    refine y_icmp_le C dX7_inLowestTerms_4 (tgt := 29) rfl (fun c1 => ?_) (fun c1 => ?_)
    · have h := itT c1 h
      have e0 := Option.some.inj h
      subst e0
      exact y_sel [0] rfl (hX _ rfl)
    · have h := itF c1 h
      refine y_iload_n C dX7_inLowestTerms_7 rfl ?_
      refine y_iload_n C dX7_inLowestTerms_8 rfl ?_
      obtain ⟨g2, h⟩ := gp h
      refine y_irem C dX7_inLowestTerms_9 g2 ?_
      refine y_if_ne C dX7_inLowestTerms_10 (tgt := 23) rfl (fun c3 => ?_) (fun c3 => ?_)
      · have h := itF c3 h
        obtain ⟨v4, ev4, h⟩ := ob h
        have ev4 := Option.some.inj ev4
        refine y_iinc C dX7_inLowestTerms_23 (by decide) rfl (v := v4) (by subst ev4; rfl) (L' := [(3, .int v4), (0, .int x_0), (1, .int x_1), (2, .int x_2)]) rfl ?_
        refine y_goto C dX7_inLowestTerms_26 (tgt := 2) rfl ?_
        exact y_sel [0, 1, 2, 3] rfl (ih _ _  h hX hE)
      · have h := itT c3 h
        refine y_iload_n C dX7_inLowestTerms_13 rfl ?_
        refine y_iload_n C dX7_inLowestTerms_14 rfl ?_
        refine y_irem C dX7_inLowestTerms_15 g2 ?_
        refine y_if_ne C dX7_inLowestTerms_16 (tgt := 23) rfl (fun c5 => ?_) (fun c5 => ?_)
        · have h := itF c5 h
          obtain ⟨v6, ev6, h⟩ := ob h
          have ev6 := Option.some.inj ev6
          refine y_iinc C dX7_inLowestTerms_23 (by decide) rfl (v := v6) (by subst ev6; rfl) (L' := [(3, .int v6), (0, .int x_0), (1, .int x_1), (2, .int x_2)]) rfl ?_
          refine y_goto C dX7_inLowestTerms_26 (tgt := 2) rfl ?_
          exact y_sel [0, 1, 2, 3] rfl (ih _ _  h hX hE)
        · have h := itT c5 h
          refine y_iload_n C dX7_inLowestTerms_19 rfl ?_
          refine y_iload_n C dX7_inLowestTerms_20 rfl ?_
          refine y_idiv C dX7_inLowestTerms_21 g2 ?_
          have e0 := Option.some.inj h
          subst e0
          have E := hE _ rfl
          exact y_iret C E (Nat.zero_le _) (Nat.zero_le _) dX7_inLowestTerms_22
set_option maxRecDepth 100000 in
def b_X7_inLowestTerms (K : yK) (M : yM) (x1 : Int32) (x2 : Int32) (x3 : Int32) : Option Int32 := (Option.bind (b_X7_inLowestTerms_2 K M x1 x2 x3 1000 x3) fun x9 => Sum.elim (fun j1 => (some x1)) (fun r9 => (some r9)) x9)
set_option maxHeartbeats 4000000 in
set_option maxRecDepth 100000 in
theorem m_X7_inLowestTerms (K : yK) (M : yM) (x1 : Int32) (x2 : Int32) (x3 : Int32) : yMet yX7_inLowestTerms cX7_inLowestTerms 4 (Option.some Jvm.ClassFile.FieldType.int) rm_X7_inLowestTerms K M [.int x1, .int x2, .int x3] (b_X7_inLowestTerms K M x1 x2 x3) (yFi K M) := by
  refine yM_intro (by decide) (Nat.le_of_ble_eq_true rfl) (fun X r h C E => ?_)
  replace C : yCx X cX7_inLowestTerms RX7 "inLowestTerms" rm_X7_inLowestTerms 4 := C
  show Y X K M 0 0 0 [(0, .int x1), (1, .int x2), (2, .int x3)] []
  unfold b_X7_inLowestTerms at h
  refine y_iload_n C dX7_inLowestTerms_0 rfl ?_
  refine y_istore_n C dX7_inLowestTerms_1 (by decide) (L' := [(3, .int x3), (0, .int x1), (1, .int x2), (2, .int x3)]) rfl ?_
  obtain ⟨x9, hx9, h⟩ := ob h
  refine y_sel [0, 1, 2, 3] rfl (l_X7_inLowestTerms_2 (K0 := K) (M0 := M) C 1000 _ _ hx9 (fun j1 e9 => ?_) (fun r9 e9 => ?_))
  · subst e9
    dsimp only [Sum.elim_inl] at h
    refine y_iload_n C dX7_inLowestTerms_29 rfl ?_
    have e0 := Option.some.inj h
    subst e0
    exact y_iret C E (Nat.zero_le _) (Nat.zero_le _) dX7_inLowestTerms_30
  · subst e9
    dsimp only [Sum.elim_inr] at h
    have e0 := Option.some.inj h
    subst e0
    exact E
set_option maxRecDepth 100000 in
def b_X7_judge (K : yK) (M : yM) (t : Nat) (x1 : Int32) : Option (Int32 × yM) := (if gO K t 6 = true then (Option.bind (b_X7_refusalOf K M t x1) fun r2 => (if r2 = 0 then (Option.bind (b_X7_think K M t ((0 : Int32)) ((0 : Int32)) ((0 : Int32))) fun r4 => (Option.bind (K.2.2 t 4) fun q5 => (if gQ K q5 2 x1 = true then (Option.bind (K.2.2 q5 (x1).toNatClampNeg) fun q7 => (Option.bind (b_X7_firstOtherwise K r4 t q7) fun r8 => (some (r8.1, r8.2)))) else none))) else (some (r2, M)))) else none)
set_option maxHeartbeats 4000000 in
set_option maxRecDepth 100000 in
theorem m_X7_judge (K : yK) (M : yM) (t : Nat) (x1 : Int32) : yMet yX7_judge cX7_judge 3 (Option.some Jvm.ClassFile.FieldType.int) rm_X7_judge K M [.ref t, .int x1] (b_X7_judge K M t x1) (yGi K) := by
  refine yM_intro (by decide) (Nat.le_of_ble_eq_true rfl) (fun X r h C E => ?_)
  replace C : yCx X cX7_judge RX7 "judge" rm_X7_judge 3 := C
  show Y X K M 0 0 0 [(0, .ref t), (1, .int x1)] []
  unfold b_X7_judge at h
  refine y_aload_n C dX7_judge_0 rfl ?_
  refine y_iload_n C dX7_judge_1 rfl ?_
  obtain ⟨g1, h⟩ := gd h
  obtain ⟨r2, hr2, h⟩ := ob h
  refine y_cV C [.int x1] (m_X7_refusalOf K M t x1) hr2 g1 cw_X7_216 rfl (by decide) ⟨rfl, rfl⟩ ⟨Nat.zero_le _, Nat.zero_le _⟩ (Nat.le_of_ble_eq_true rfl) rfl rfl rfl dX7_judge_2 ?_
  refine y_istore_n C dX7_judge_5 (by decide) (L' := [(2, .int r2), (0, .ref t), (1, .int x1)]) rfl ?_
  refine y_iload_n C dX7_judge_6 rfl ?_
  refine y_if_eq C dX7_judge_7 (tgt := 12) rfl (fun c3 => ?_) (fun c3 => ?_)
  · have h := itT c3 h
    refine y_aload_n C dX7_judge_12 rfl ?_
    refine y_iconst C dX7_judge_13 kc_0 ?_
    refine y_iconst C dX7_judge_14 kc_0 ?_
    refine y_iconst C dX7_judge_15 kc_0 ?_
    obtain ⟨r4, hr4, h⟩ := ob h
    refine y_cV C [.int (0 : Int32), .int (0 : Int32), .int (0 : Int32)] (m_X7_think K M t ((0 : Int32)) ((0 : Int32)) ((0 : Int32))) hr4 g1 cw_X7_191 rfl (by decide) ⟨rfl, rfl⟩ ⟨Nat.zero_le _, Nat.zero_le _⟩ (Nat.le_of_ble_eq_true rfl) rfl rfl rfl dX7_judge_16 ?_
    refine y_aload_n C dX7_judge_19 rfl ?_
    refine y_aload_n C dX7_judge_20 rfl ?_
    obtain ⟨q5, hq5, h⟩ := ob h
    refine y_getr C fl_X7_46 g1 hq5 dX7_judge_21 ?_
    refine y_iload_n C dX7_judge_24 rfl ?_
    obtain ⟨g6, h⟩ := gd h
    obtain ⟨q7, hq7, h⟩ := ob h
    refine y_aald C (by decide) g6 hq7 dX7_judge_25 ?_
    obtain ⟨r8, hr8, h⟩ := ob h
    refine y_cV C [.ref q7] (m_X7_firstOtherwise K r4 t q7) hr8 g1 cw_X7_219 rfl (by decide) ⟨rfl, rfl⟩ ⟨Nat.zero_le _, Nat.zero_le _⟩ (Nat.le_of_ble_eq_true rfl) rfl rfl rfl dX7_judge_26 ?_
    have e0 := Option.some.inj h
    subst e0
    exact y_iret C E (Nat.zero_le _) (Nat.zero_le _) dX7_judge_29
  · have h := itF c3 h
    refine y_iload_n C dX7_judge_10 rfl ?_
    have e0 := Option.some.inj h
    subst e0
    exact y_iret C E (Nat.zero_le _) (Nat.zero_le _) dX7_judge_11
set_option maxRecDepth 100000 in
def b_X7_kinds (K : yK) (M : yM) (t : Nat) (x1 : Int32) (x2 : Int32) (x3 : Int32) : Option (Int32 × yM) := (if gO K t 6 = true then (Option.bind (b_X7_refusalOf K M t x1) fun r2 => (if r2 = 0 then (Option.bind (K.2.2 t 0) fun q4 => (if gO K q4 0 = true then (Option.bind (b_X0_has K M q4 x2) fun r6 => (if r6 = true then (if x3 = (0 : Int32) then (Option.bind (K.2.2 t 4) fun q11 => (if gQ K q11 2 x1 = true then (Option.bind (K.2.2 q11 (x1).toNatClampNeg) fun q13 => (Option.bind (b_X7_fitting K M t q13 ((6 : Int32)) x2 ((0 : Int32)) ((6 : Int32))) fun r14 => (some (r14.1, r14.2)))) else none)) else (if x3 = (1 : Int32) then (Option.bind (K.2.2 t 4) fun q15 => (if gQ K q15 2 x1 = true then (Option.bind (K.2.2 q15 (x1).toNatClampNeg) fun q17 => (Option.bind (b_X7_fitting K M t q17 ((7 : Int32)) x2 ((0 : Int32)) ((10 : Int32))) fun r18 => (some (r18.1, r18.2)))) else none)) else (if x3 = (2 : Int32) then (Option.bind (K.2.2 t 4) fun q19 => (if gQ K q19 2 x1 = true then (Option.bind (K.2.2 q19 (x1).toNatClampNeg) fun q21 => (Option.bind (b_X7_fitting K M t q21 ((5 : Int32)) x2 ((-1 : Int32)) ((M q4 8))) fun r22 => (some (r22.1, r22.2)))) else none)) else (some ((-7 : Int32), M))))) else (some ((-5 : Int32), M)))) else none)) else (some (r2, M)))) else none)
set_option maxHeartbeats 4000000 in
set_option maxRecDepth 100000 in
theorem m_X7_kinds (K : yK) (M : yM) (t : Nat) (x1 : Int32) (x2 : Int32) (x3 : Int32) : yMet yX7_kinds cX7_kinds 5 (Option.some Jvm.ClassFile.FieldType.int) rm_X7_kinds K M [.ref t, .int x1, .int x2, .int x3] (b_X7_kinds K M t x1 x2 x3) (yGi K) := by
  refine yM_intro (by decide) (Nat.le_of_ble_eq_true rfl) (fun X r h C E => ?_)
  replace C : yCx X cX7_kinds RX7 "kinds" rm_X7_kinds 5 := C
  show Y X K M 0 0 0 [(0, .ref t), (1, .int x1), (2, .int x2), (3, .int x3)] []
  unfold b_X7_kinds at h
  refine y_aload_n C dX7_kinds_0 rfl ?_
  refine y_iload_n C dX7_kinds_1 rfl ?_
  obtain ⟨g1, h⟩ := gd h
  obtain ⟨r2, hr2, h⟩ := ob h
  refine y_cV C [.int x1] (m_X7_refusalOf K M t x1) hr2 g1 cw_X7_216 rfl (by decide) ⟨rfl, rfl⟩ ⟨Nat.zero_le _, Nat.zero_le _⟩ (Nat.le_of_ble_eq_true rfl) rfl rfl rfl dX7_kinds_2 ?_
  refine y_istore C dX7_kinds_5 (by decide) (L' := [(4, .int r2), (0, .ref t), (1, .int x1), (2, .int x2), (3, .int x3)]) rfl ?_
  refine y_iload C dX7_kinds_7 rfl ?_
  refine y_if_eq C dX7_kinds_9 (tgt := 15) rfl (fun c3 => ?_) (fun c3 => ?_)
  · have h := itT c3 h
    refine y_aload_n C dX7_kinds_15 rfl ?_
    obtain ⟨q4, hq4, h⟩ := ob h
    refine y_getr C fl_X7_27 g1 hq4 dX7_kinds_16 ?_
    refine y_iload_n C dX7_kinds_19 rfl ?_
    obtain ⟨g5, h⟩ := gd h
    obtain ⟨r6, hr6, h⟩ := ob h
    refine y_cV C [.int x2] (m_X0_has K M q4 x2) hr6 g5 cw_X7_118 rfl (by decide) ⟨rfl, rfl⟩ ⟨Nat.zero_le _, Nat.zero_le _⟩ (Nat.le_of_ble_eq_true rfl) rfl rfl rfl dX7_kinds_20 ?_
    refine y_ifneB C dX7_kinds_23 (tgt := 29) rfl (fun c7 => ?_) (fun c7 => ?_)
    · have h := itT c7 h
      refine y_iload_n C dX7_kinds_29 rfl ?_
      rcases Classical.em (x3 = (0 : Int32)) with c8 | c8
      · have h := itT c8 h
        refine y_tabIn C dX7_kinds_30 (off := 26) (tgt := 56) (by rw [c8]; decide) (by rw [c8]; decide) (by rw [c8]; rfl) rfl ?_
        refine y_aload_n C dX7_kinds_56 rfl ?_
        refine y_aload_n C dX7_kinds_57 rfl ?_
        obtain ⟨q11, hq11, h⟩ := ob h
        refine y_getr C fl_X7_46 g1 hq11 dX7_kinds_58 ?_
        refine y_iload_n C dX7_kinds_61 rfl ?_
        obtain ⟨g12, h⟩ := gd h
        obtain ⟨q13, hq13, h⟩ := ob h
        refine y_aald C (by decide) g12 hq13 dX7_kinds_62 ?_
        refine y_bipush C dX7_kinds_63 kb_6 ?_
        refine y_iload_n C dX7_kinds_65 rfl ?_
        refine y_iconst C dX7_kinds_66 kc_0 ?_
        refine y_bipush C dX7_kinds_67 kb_6 ?_
        obtain ⟨r14, hr14, h⟩ := ob h
        refine y_cV C [.ref q13, .int (6 : Int32), .int x2, .int (0 : Int32), .int (6 : Int32)] (m_X7_fitting K M t q13 ((6 : Int32)) x2 ((0 : Int32)) ((6 : Int32))) hr14 g1 cw_X7_223 rfl (by decide) ⟨rfl, rfl⟩ ⟨Nat.zero_le _, Nat.zero_le _⟩ (Nat.le_of_ble_eq_true rfl) rfl rfl rfl dX7_kinds_69 ?_
        have e0 := Option.some.inj h
        subst e0
        exact y_iret C E (Nat.zero_le _) (Nat.zero_le _) dX7_kinds_72
      replace h := itF c8 h
      rcases Classical.em (x3 = (1 : Int32)) with c9 | c9
      · have h := itT c9 h
        refine y_tabIn C dX7_kinds_30 (off := 43) (tgt := 73) (by rw [c9]; decide) (by rw [c9]; decide) (by rw [c9]; rfl) rfl ?_
        refine y_aload_n C dX7_kinds_73 rfl ?_
        refine y_aload_n C dX7_kinds_74 rfl ?_
        obtain ⟨q15, hq15, h⟩ := ob h
        refine y_getr C fl_X7_46 g1 hq15 dX7_kinds_75 ?_
        refine y_iload_n C dX7_kinds_78 rfl ?_
        obtain ⟨g16, h⟩ := gd h
        obtain ⟨q17, hq17, h⟩ := ob h
        refine y_aald C (by decide) g16 hq17 dX7_kinds_79 ?_
        refine y_bipush C dX7_kinds_80 kb_7 ?_
        refine y_iload_n C dX7_kinds_82 rfl ?_
        refine y_iconst C dX7_kinds_83 kc_0 ?_
        refine y_bipush C dX7_kinds_84 kb_10 ?_
        obtain ⟨r18, hr18, h⟩ := ob h
        refine y_cV C [.ref q17, .int (7 : Int32), .int x2, .int (0 : Int32), .int (10 : Int32)] (m_X7_fitting K M t q17 ((7 : Int32)) x2 ((0 : Int32)) ((10 : Int32))) hr18 g1 cw_X7_223 rfl (by decide) ⟨rfl, rfl⟩ ⟨Nat.zero_le _, Nat.zero_le _⟩ (Nat.le_of_ble_eq_true rfl) rfl rfl rfl dX7_kinds_86 ?_
        have e0 := Option.some.inj h
        subst e0
        exact y_iret C E (Nat.zero_le _) (Nat.zero_le _) dX7_kinds_89
      replace h := itF c9 h
      rcases Classical.em (x3 = (2 : Int32)) with c10 | c10
      · have h := itT c10 h
        refine y_tabIn C dX7_kinds_30 (off := 60) (tgt := 90) (by rw [c10]; decide) (by rw [c10]; decide) (by rw [c10]; rfl) rfl ?_
        refine y_aload_n C dX7_kinds_90 rfl ?_
        refine y_aload_n C dX7_kinds_91 rfl ?_
        obtain ⟨q19, hq19, h⟩ := ob h
        refine y_getr C fl_X7_46 g1 hq19 dX7_kinds_92 ?_
        refine y_iload_n C dX7_kinds_95 rfl ?_
        obtain ⟨g20, h⟩ := gd h
        obtain ⟨q21, hq21, h⟩ := ob h
        refine y_aald C (by decide) g20 hq21 dX7_kinds_96 ?_
        refine y_iconst C dX7_kinds_97 kc_5 ?_
        refine y_iload_n C dX7_kinds_98 rfl ?_
        refine y_iconst C dX7_kinds_99 kc_m1 ?_
        refine y_aload_n C dX7_kinds_100 rfl ?_
        refine y_getr C fl_X7_27 g1 hq4 dX7_kinds_101 ?_
        refine y_geti C fl_X7_55 g5 dX7_kinds_104 ?_
        obtain ⟨r22, hr22, h⟩ := ob h
        refine y_cV C [.ref q21, .int (5 : Int32), .int x2, .int (-1 : Int32), .int (M q4 8)] (m_X7_fitting K M t q21 ((5 : Int32)) x2 ((-1 : Int32)) ((M q4 8))) hr22 g1 cw_X7_223 rfl (by decide) ⟨rfl, rfl⟩ ⟨Nat.zero_le _, Nat.zero_le _⟩ (Nat.le_of_ble_eq_true rfl) rfl rfl rfl dX7_kinds_107 ?_
        have e0 := Option.some.inj h
        subst e0
        exact y_iret C E (Nat.zero_le _) (Nat.zero_le _) dX7_kinds_110
      replace h := itF c10 h
      refine y_tabOut C dX7_kinds_30 (tgt := 111) (by have q0 : (x3).toInt ≠ 0 := yNe c8; have q1 : (x3).toInt ≠ 1 := yNe c9; have q2 : (x3).toInt ≠ 2 := yNe c10; omega) rfl ?_
      refine y_bipush C dX7_kinds_111 kb_m7 ?_
      have e0 := Option.some.inj h
      subst e0
      exact y_iret C E (Nat.zero_le _) (Nat.zero_le _) dX7_kinds_113
    · have h := itFb c7 h
      refine y_bipush C dX7_kinds_26 kb_m5 ?_
      have e0 := Option.some.inj h
      subst e0
      exact y_iret C E (Nat.zero_le _) (Nat.zero_le _) dX7_kinds_28
  · have h := itF c3 h
    refine y_iload C dX7_kinds_12 rfl ?_
    have e0 := Option.some.inj h
    subst e0
    exact y_iret C E (Nat.zero_le _) (Nat.zero_le _) dX7_kinds_14
set_option maxRecDepth 100000 in
def b_X7_laws (K : yK) (M : yM) (t : Nat) (x1 : Int32) : Option (Int32 × yM) := (if gO K t 6 = true then (Option.bind (b_X7_refusalOf K M t x1) fun r2 => (if r2 = 0 then (Option.bind (K.2.2 t 4) fun q4 => (if gQ K q4 2 x1 = true then (Option.bind (K.2.2 q4 (x1).toNatClampNeg) fun q6 => (Option.bind (b_X7_fitting K M t q6 ((8 : Int32)) ((0 : Int32)) ((0 : Int32)) ((M t 7))) fun r7 => (some (r7.1, r7.2)))) else none)) else (some (r2, M)))) else none)
set_option maxHeartbeats 4000000 in
set_option maxRecDepth 100000 in
theorem m_X7_laws (K : yK) (M : yM) (t : Nat) (x1 : Int32) : yMet yX7_laws cX7_laws 3 (Option.some Jvm.ClassFile.FieldType.int) rm_X7_laws K M [.ref t, .int x1] (b_X7_laws K M t x1) (yGi K) := by
  refine yM_intro (by decide) (Nat.le_of_ble_eq_true rfl) (fun X r h C E => ?_)
  replace C : yCx X cX7_laws RX7 "laws" rm_X7_laws 3 := C
  show Y X K M 0 0 0 [(0, .ref t), (1, .int x1)] []
  unfold b_X7_laws at h
  refine y_aload_n C dX7_laws_0 rfl ?_
  refine y_iload_n C dX7_laws_1 rfl ?_
  obtain ⟨g1, h⟩ := gd h
  obtain ⟨r2, hr2, h⟩ := ob h
  refine y_cV C [.int x1] (m_X7_refusalOf K M t x1) hr2 g1 cw_X7_216 rfl (by decide) ⟨rfl, rfl⟩ ⟨Nat.zero_le _, Nat.zero_le _⟩ (Nat.le_of_ble_eq_true rfl) rfl rfl rfl dX7_laws_2 ?_
  refine y_istore_n C dX7_laws_5 (by decide) (L' := [(2, .int r2), (0, .ref t), (1, .int x1)]) rfl ?_
  refine y_iload_n C dX7_laws_6 rfl ?_
  refine y_if_eq C dX7_laws_7 (tgt := 14) rfl (fun c3 => ?_) (fun c3 => ?_)
  · have h := itT c3 h
    refine y_aload_n C dX7_laws_14 rfl ?_
    refine y_aload_n C dX7_laws_15 rfl ?_
    obtain ⟨q4, hq4, h⟩ := ob h
    refine y_getr C fl_X7_46 g1 hq4 dX7_laws_16 ?_
    refine y_iload_n C dX7_laws_19 rfl ?_
    obtain ⟨g5, h⟩ := gd h
    obtain ⟨q6, hq6, h⟩ := ob h
    refine y_aald C (by decide) g5 hq6 dX7_laws_20 ?_
    refine y_bipush C dX7_laws_21 kb_8 ?_
    refine y_iconst C dX7_laws_23 kc_0 ?_
    refine y_iconst C dX7_laws_24 kc_0 ?_
    refine y_aload_n C dX7_laws_25 rfl ?_
    refine y_geti C fl_X7_15 g1 dX7_laws_26 ?_
    obtain ⟨r7, hr7, h⟩ := ob h
    refine y_cV C [.ref q6, .int (8 : Int32), .int (0 : Int32), .int (0 : Int32), .int (M t 7)] (m_X7_fitting K M t q6 ((8 : Int32)) ((0 : Int32)) ((0 : Int32)) ((M t 7))) hr7 g1 cw_X7_223 rfl (by decide) ⟨rfl, rfl⟩ ⟨Nat.zero_le _, Nat.zero_le _⟩ (Nat.le_of_ble_eq_true rfl) rfl rfl rfl dX7_laws_29 ?_
    have e0 := Option.some.inj h
    subst e0
    exact y_iret C E (Nat.zero_le _) (Nat.zero_le _) dX7_laws_32
  · have h := itF c3 h
    refine y_iload_n C dX7_laws_10 rfl ?_
    refine y_goto C dX7_laws_11 (tgt := 32) rfl ?_
    have e0 := Option.some.inj h
    subst e0
    exact y_iret C E (Nat.zero_le _) (Nat.zero_le _) dX7_laws_32
set_option maxRecDepth 100000 in
def b_X7_live (K : yK) (M : yM) (t : Nat) : Option (Int32 × yM) := (if gO K t 6 = true then (Option.bind (K.2.2 t 0) fun q2 => (if gO K q2 0 = true then (if (M q2 11) < (999 : Int32) then (Option.bind (b_X0_passDay K M q2) fun r5 => (some ((r5 q2 14), r5))) else (some ((-4 : Int32), M))) else none)) else none)
set_option maxHeartbeats 4000000 in
set_option maxRecDepth 100000 in
theorem m_X7_live (K : yK) (M : yM) (t : Nat) : yMet yX7_live cX7_live 1 (Option.some Jvm.ClassFile.FieldType.int) rm_X7_live K M [.ref t] (b_X7_live K M t) (yGi K) := by
  refine yM_intro (by decide) (Nat.le_of_ble_eq_true rfl) (fun X r h C E => ?_)
  replace C : yCx X cX7_live RX7 "live" rm_X7_live 1 := C
  show Y X K M 0 0 0 [(0, .ref t)] []
  unfold b_X7_live at h
  refine y_aload_n C dX7_live_0 rfl ?_
  obtain ⟨g1, h⟩ := gd h
  obtain ⟨q2, hq2, h⟩ := ob h
  refine y_getr C fl_X7_27 g1 hq2 dX7_live_1 ?_
  obtain ⟨g3, h⟩ := gd h
  refine y_geti C fl_X7_64 g3 dX7_live_4 ?_
  refine y_sipush C dX7_live_7 ks_999 ?_
  refine y_icmp_lt C dX7_live_10 (tgt := 16) rfl (fun c4 => ?_) (fun c4 => ?_)
  · have h := itT c4 h
    refine y_aload_n C dX7_live_16 rfl ?_
    refine y_getr C fl_X7_27 g1 hq2 dX7_live_17 ?_
    obtain ⟨r5, hr5, h⟩ := ob h
    refine y_cV C [] (m_X0_passDay K M q2) hr5 g3 cw_X7_158 rfl (by decide) ⟨rfl, rfl⟩ ⟨Nat.zero_le _, Nat.zero_le _⟩ (Nat.le_of_ble_eq_true rfl) rfl rfl rfl dX7_live_20 ?_
    refine y_aload_n C dX7_live_23 rfl ?_
    refine y_getr C fl_X7_27 g1 hq2 dX7_live_24 ?_
    refine y_geti C fl_X7_161 g3 dX7_live_27 ?_
    have e0 := Option.some.inj h
    subst e0
    exact y_iret C E (Nat.zero_le _) (Nat.zero_le _) dX7_live_30
  · have h := itF c4 h
    refine y_bipush C dX7_live_13 kb_m4 ?_
    have e0 := Option.some.inj h
    subst e0
    exact y_iret C E (Nat.zero_le _) (Nat.zero_le _) dX7_live_15
set_option maxRecDepth 100000 in
def b_X7_lobby (K : yK) (M : yM) (t : Nat) (x1 : Int32) (x2 : Int32) : Option (Int32 × yM) := (Option.bind (b_X7_isDays K M x1) fun r1 => (if r1 = true then (Option.bind (b_X7_isZeroOrOne K M x2) fun r3 => (if r3 = true then (if gO K t 6 = true then (Option.bind (b_X7_worthIf K M t ((0 : Int32)) ((0 : Int32)) ((0 : Int32)) x1) fun r6 => (Option.bind (b_X7_best K r6.2 t ((2 : Int32)) ((0 : Int32)) ((0 : Int32)) x1 ((1 : Int32)) r6.1) fun r7 => (if x2 = 0 then (some (r7.1, r7.2)) else (if 0 ≤ r7.1 then (Option.bind (b_X7_worthIf K r7.2 t ((2 : Int32)) ((0 : Int32)) r7.1 x1) fun r10 => (some (r10.1, r10.2))) else (some (r6.1, r7.2)))))) else none) else (some ((-2 : Int32), M)))) else (some ((-2 : Int32), M))))
set_option maxHeartbeats 4000000 in
set_option maxRecDepth 100000 in
theorem m_X7_lobby (K : yK) (M : yM) (t : Nat) (x1 : Int32) (x2 : Int32) : yMet yX7_lobby cX7_lobby 5 (Option.some Jvm.ClassFile.FieldType.int) rm_X7_lobby K M [.ref t, .int x1, .int x2] (b_X7_lobby K M t x1 x2) (yGi K) := by
  refine yM_intro (by decide) (Nat.le_of_ble_eq_true rfl) (fun X r h C E => ?_)
  replace C : yCx X cX7_lobby RX7 "lobby" rm_X7_lobby 5 := C
  show Y X K M 0 0 0 [(0, .ref t), (1, .int x1), (2, .int x2)] []
  unfold b_X7_lobby at h
  refine y_iload_n C dX7_lobby_0 rfl ?_
  obtain ⟨r1, hr1, h⟩ := ob h
  refine y_cS C [.int x1] (m_X7_isDays K M x1) hr1 cw_X7_188 rfl (by decide) ⟨rfl, rfl⟩ ⟨Nat.zero_le _, Nat.zero_le _⟩ (Nat.le_of_ble_eq_true rfl) rfl rfl rfl dX7_lobby_1 ?_
  refine y_ifeqB C dX7_lobby_4 (tgt := 14) rfl (fun c2 => ?_) (fun c2 => ?_)
  · have h := itFb c2 h
    refine y_bipush C dX7_lobby_14 kb_m2 ?_
    have e0 := Option.some.inj h
    subst e0
    exact y_iret C E (Nat.zero_le _) (Nat.zero_le _) dX7_lobby_16
  · have h := itT c2 h
    refine y_iload_n C dX7_lobby_7 rfl ?_
    obtain ⟨r3, hr3, h⟩ := ob h
    refine y_cS C [.int x2] (m_X7_isZeroOrOne K M x2) hr3 cw_X7_179 rfl (by decide) ⟨rfl, rfl⟩ ⟨Nat.zero_le _, Nat.zero_le _⟩ (Nat.le_of_ble_eq_true rfl) rfl rfl rfl dX7_lobby_8 ?_
    refine y_ifneB C dX7_lobby_11 (tgt := 17) rfl (fun c4 => ?_) (fun c4 => ?_)
    · have h := itT c4 h
      refine y_aload_n C dX7_lobby_17 rfl ?_
      refine y_iconst C dX7_lobby_18 kc_0 ?_
      refine y_iconst C dX7_lobby_19 kc_0 ?_
      refine y_iconst C dX7_lobby_20 kc_0 ?_
      refine y_iload_n C dX7_lobby_21 rfl ?_
      obtain ⟨g5, h⟩ := gd h
      obtain ⟨r6, hr6, h⟩ := ob h
      refine y_cV C [.int (0 : Int32), .int (0 : Int32), .int (0 : Int32), .int x1] (m_X7_worthIf K M t ((0 : Int32)) ((0 : Int32)) ((0 : Int32)) x1) hr6 g5 cw_X7_202 rfl (by decide) ⟨rfl, rfl⟩ ⟨Nat.zero_le _, Nat.zero_le _⟩ (Nat.le_of_ble_eq_true rfl) rfl rfl rfl dX7_lobby_22 ?_
      refine y_istore_n C dX7_lobby_25 (by decide) (L' := [(3, .int r6.1), (0, .ref t), (1, .int x1), (2, .int x2)]) rfl ?_
      refine y_aload_n C dX7_lobby_26 rfl ?_
      refine y_iconst C dX7_lobby_27 kc_2 ?_
      refine y_iconst C dX7_lobby_28 kc_0 ?_
      refine y_iconst C dX7_lobby_29 kc_0 ?_
      refine y_iload_n C dX7_lobby_30 rfl ?_
      refine y_iconst C dX7_lobby_31 kc_1 ?_
      refine y_iload_n C dX7_lobby_32 rfl ?_
      obtain ⟨r7, hr7, h⟩ := ob h
      refine y_cV C [.int (2 : Int32), .int (0 : Int32), .int (0 : Int32), .int x1, .int (1 : Int32), .int r6.1] (m_X7_best K r6.2 t ((2 : Int32)) ((0 : Int32)) ((0 : Int32)) x1 ((1 : Int32)) r6.1) hr7 g5 cw_X7_198 rfl (by decide) ⟨rfl, rfl⟩ ⟨Nat.zero_le _, Nat.zero_le _⟩ (Nat.le_of_ble_eq_true rfl) rfl rfl rfl dX7_lobby_33 ?_
      refine y_istore C dX7_lobby_36 (by decide) (L' := [(4, .int r7.1), (3, .int r6.1), (0, .ref t), (1, .int x1), (2, .int x2)]) rfl ?_
      refine y_iload_n C dX7_lobby_38 rfl ?_
      refine y_if_ne C dX7_lobby_39 (tgt := 45) rfl (fun c8 => ?_) (fun c8 => ?_)
      · have h := itF c8 h
        refine y_iload C dX7_lobby_45 rfl ?_
        refine y_if_ge C dX7_lobby_47 (tgt := 54) rfl (fun c9 => ?_) (fun c9 => ?_)
        · have h := itT c9 h
          refine y_aload_n C dX7_lobby_54 rfl ?_
          refine y_iconst C dX7_lobby_55 kc_2 ?_
          refine y_iconst C dX7_lobby_56 kc_0 ?_
          refine y_iload C dX7_lobby_57 rfl ?_
          refine y_iload_n C dX7_lobby_59 rfl ?_
          obtain ⟨r10, hr10, h⟩ := ob h
          refine y_cV C [.int (2 : Int32), .int (0 : Int32), .int r7.1, .int x1] (m_X7_worthIf K r7.2 t ((2 : Int32)) ((0 : Int32)) r7.1 x1) hr10 g5 cw_X7_202 rfl (by decide) ⟨rfl, rfl⟩ ⟨Nat.zero_le _, Nat.zero_le _⟩ (Nat.le_of_ble_eq_true rfl) rfl rfl rfl dX7_lobby_60 ?_
          have e0 := Option.some.inj h
          subst e0
          exact y_iret C E (Nat.zero_le _) (Nat.zero_le _) dX7_lobby_63
        · have h := itF c9 h
          refine y_iload_n C dX7_lobby_50 rfl ?_
          refine y_goto C dX7_lobby_51 (tgt := 63) rfl ?_
          have e0 := Option.some.inj h
          subst e0
          exact y_iret C E (Nat.zero_le _) (Nat.zero_le _) dX7_lobby_63
      · have h := itT c8 h
        refine y_iload C dX7_lobby_42 rfl ?_
        have e0 := Option.some.inj h
        subst e0
        exact y_iret C E (Nat.zero_le _) (Nat.zero_le _) dX7_lobby_44
    · have h := itFb c4 h
      refine y_bipush C dX7_lobby_14 kb_m2 ?_
      have e0 := Option.some.inj h
      subst e0
      exact y_iret C E (Nat.zero_le _) (Nat.zero_le _) dX7_lobby_16
def b_X7_longest_17 (K : yK) (M : yM) (t : Nat) (x_1 : Int32) : Nat → Int32 → Int32 → Int32 → Option (Int32 × Int32)
  | 0, _, _, _ => none
  | n + 1, u17_2, u17_3, u17_4 => (if gO K t 6 = true then (Option.bind (K.2.2 t 0) fun q2 => (if gO K q2 0 = true then (if (M q2 8) ≤ u17_4 then (some (u17_2, u17_3)) else (Option.bind (K.2.2 q2 6) fun q5 => (if gA K q5 u17_4 = true then (Option.bind (b_J6_bitCount_0f7a4 K M ((M q5 (u17_4).toNatClampNeg))) fun r7 => (Option.bind (if r7 ≤ u17_3 then (some (u17_2, u17_3)) else (some (u17_4, r7))) fun j9 => (Option.bind (some (u17_4 + (1 : Int32))) fun v10 => (b_X7_longest_17 K M t x_1 n j9.1 j9.2 v10)))) else none))) else none)) else none)
set_option maxHeartbeats 4000000 in
set_option maxRecDepth 100000 in
theorem l_X7_longest_17 {X : yX} {K : yK} {M : yM} {t : Nat} {x_1 : Int32} (C : yCx X cX7_longest RX7 "longest" rm_X7_longest 6) : ∀ (n : Nat) (u17_2 : Int32) (u17_3 : Int32) (u17_4 : Int32) (x : (Int32 × Int32)), b_X7_longest_17 K M t x_1 n u17_2 u17_3 u17_4 = some x → ∀ (hX : Y X K M 0 0 62 [(1, .int x_1), (2, .int x.1), (3, .int x.2)] []), Y X K M 0 0 17 [(0, .ref t), (1, .int x_1), (2, .int u17_2), (3, .int u17_3), (4, .int u17_4)] [] := by
  intro n
  induction n with
  | zero =>
    intro u17_2 u17_3 u17_4 x h
    exact nomatch (show (none : Option _) = some x from h)
  | succ n ih =>
    intro u17_2 u17_3 u17_4 x h hX
    rw [b_X7_longest_17] at h
    refine y_iload C dX7_longest_17 rfl ?_
    refine y_aload_n C dX7_longest_19 rfl ?_
    obtain ⟨g1, h⟩ := gd h
    obtain ⟨q2, hq2, h⟩ := ob h
    refine y_getr C fl_X7_27 g1 hq2 dX7_longest_20 ?_
    obtain ⟨g3, h⟩ := gd h
    refine y_geti C fl_X7_55 g3 dX7_longest_23 ?_
    refine y_icmp_ge C dX7_longest_26 (tgt := 62) rfl (fun c4 => ?_) (fun c4 => ?_)
    · have h := itT c4 h
      have e0 := Option.some.inj h
      subst e0
      exact y_sel [1, 2, 3] rfl hX
    · have h := itF c4 h
      refine y_aload_n C dX7_longest_29 rfl ?_
      refine y_getr C fl_X7_27 g1 hq2 dX7_longest_30 ?_
      obtain ⟨q5, hq5, h⟩ := ob h
      refine y_getr C fl_X7_205 g3 hq5 dX7_longest_33 ?_
      refine y_iload C dX7_longest_36 rfl ?_
      obtain ⟨g6, h⟩ := gd h
      refine y_iald C g6 dX7_longest_38 ?_
      obtain ⟨r7, hr7, h⟩ := ob h
      refine y_cS C [.int (M q5 (u17_4).toNatClampNeg)] (m_J6_bitCount_0f7a4 K M ((M q5 (u17_4).toNatClampNeg))) hr7 cw_X7_211 rfl (by decide) ⟨rfl, rfl⟩ ⟨Nat.zero_le _, Nat.zero_le _⟩ (Nat.le_of_ble_eq_true rfl) rfl rfl rfl dX7_longest_39 ?_
      refine y_istore C dX7_longest_42 (by decide) (L' := [(5, .int r7), (0, .ref t), (1, .int x_1), (2, .int u17_2), (3, .int u17_3), (4, .int u17_4)]) rfl ?_
      refine y_iload C dX7_longest_44 rfl ?_
      refine y_iload_n C dX7_longest_46 rfl ?_
      obtain ⟨j9, hj9, h⟩ := ob h
      have hJj9 : Y X K M 0 0 56 [(0, .ref t), (1, .int x_1), (2, .int j9.1), (3, .int j9.2), (4, .int u17_4)] [] := by
        obtain ⟨v10, ev10, h⟩ := ob h
        have ev10 := Option.some.inj ev10
        refine y_iinc C dX7_longest_56 (by decide) rfl (v := v10) (by subst ev10; rfl) (L' := [(4, .int v10), (0, .ref t), (1, .int x_1), (2, .int j9.1), (3, .int j9.2)]) rfl ?_
        refine y_goto C dX7_longest_59 (tgt := 17) rfl ?_
        exact y_sel [0, 1, 2, 3, 4] rfl (ih _ _ _ _  h hX)
      replace h := hj9
      refine y_icmp_le C dX7_longest_47 (tgt := 56) rfl (fun c8 => ?_) (fun c8 => ?_)
      · have h := itT c8 h
        have e0 := Option.some.inj h
        subst e0
        exact y_sel [0, 1, 2, 3, 4] rfl hJj9
      · have h := itF c8 h
        refine y_iload C dX7_longest_50 rfl ?_
        refine y_istore_n C dX7_longest_52 (by decide) (L' := [(3, .int r7), (5, .int r7), (0, .ref t), (1, .int x_1), (2, .int u17_2), (4, .int u17_4)]) rfl ?_
        refine y_iload C dX7_longest_53 rfl ?_
        refine y_istore_n C dX7_longest_55 (by decide) (L' := [(2, .int u17_4), (3, .int r7), (5, .int r7), (0, .ref t), (1, .int x_1), (4, .int u17_4)]) rfl ?_
        have e0 := Option.some.inj h
        subst e0
        exact y_sel [0, 1, 2, 3, 4] rfl hJj9
set_option maxRecDepth 100000 in
def b_X7_longest (K : yK) (M : yM) (t : Nat) (x1 : Int32) : Option Int32 := (Option.bind (b_X7_isZeroOrOne K M x1) fun r1 => (if r1 = true then (Option.bind (b_X7_longest_17 K M t x1 1000 ((-1 : Int32)) ((-1 : Int32)) ((0 : Int32))) fun j3 => (if x1 = 0 then (some j3.1) else (some j3.2))) else (some (-2 : Int32))))
set_option maxHeartbeats 4000000 in
set_option maxRecDepth 100000 in
theorem m_X7_longest (K : yK) (M : yM) (t : Nat) (x1 : Int32) : yMet yX7_longest cX7_longest 6 (Option.some Jvm.ClassFile.FieldType.int) rm_X7_longest K M [.ref t, .int x1] (b_X7_longest K M t x1) (yFi K M) := by
  refine yM_intro (by decide) (Nat.le_of_ble_eq_true rfl) (fun X r h C E => ?_)
  replace C : yCx X cX7_longest RX7 "longest" rm_X7_longest 6 := C
  show Y X K M 0 0 0 [(0, .ref t), (1, .int x1)] []
  unfold b_X7_longest at h
  refine y_iload_n C dX7_longest_0 rfl ?_
  obtain ⟨r1, hr1, h⟩ := ob h
  refine y_cS C [.int x1] (m_X7_isZeroOrOne K M x1) hr1 cw_X7_179 rfl (by decide) ⟨rfl, rfl⟩ ⟨Nat.zero_le _, Nat.zero_le _⟩ (Nat.le_of_ble_eq_true rfl) rfl rfl rfl dX7_longest_1 ?_
  refine y_ifneB C dX7_longest_4 (tgt := 10) rfl (fun c2 => ?_) (fun c2 => ?_)
  · have h := itT c2 h
    refine y_iconst C dX7_longest_10 kc_m1 ?_
    refine y_istore_n C dX7_longest_11 (by decide) (L' := [(2, .int (-1)), (0, .ref t), (1, .int x1)]) rfl ?_
    refine y_iconst C dX7_longest_12 kc_m1 ?_
    refine y_istore_n C dX7_longest_13 (by decide) (L' := [(3, .int (-1)), (2, .int (-1)), (0, .ref t), (1, .int x1)]) rfl ?_
    refine y_iconst C dX7_longest_14 kc_0 ?_
    refine y_istore C dX7_longest_15 (by decide) (L' := [(4, .int (0)), (3, .int (-1)), (2, .int (-1)), (0, .ref t), (1, .int x1)]) rfl ?_
    obtain ⟨j3, hj3, h⟩ := ob h
    refine y_sel [0, 1, 2, 3, 4] rfl (l_X7_longest_17 C 1000 _ _ _ _ hj3 ?_)
    refine y_iload_n C dX7_longest_62 rfl ?_
    refine y_if_ne C dX7_longest_63 (tgt := 70) rfl (fun c4 => ?_) (fun c4 => ?_)
    · have h := itF c4 h
      refine y_iload_n C dX7_longest_70 rfl ?_
      have e0 := Option.some.inj h
      subst e0
      exact y_iret C E (Nat.zero_le _) (Nat.zero_le _) dX7_longest_71
    · have h := itT c4 h
      refine y_iload_n C dX7_longest_66 rfl ?_
      refine y_goto C dX7_longest_67 (tgt := 71) rfl ?_
      have e0 := Option.some.inj h
      subst e0
      exact y_iret C E (Nat.zero_le _) (Nat.zero_le _) dX7_longest_71
  · have h := itFb c2 h
    refine y_bipush C dX7_longest_7 kb_m2 ?_
    have e0 := Option.some.inj h
    subst e0
    exact y_iret C E (Nat.zero_le _) (Nat.zero_le _) dX7_longest_9
set_option maxRecDepth 100000 in
def b_X7_mostToSet (K : yK) (M : yM) (t : Nat) (x1 : Int32) : Option Int32 := (if x1 = (0 : Int32) then (if gO K t 6 = true then (Option.bind (K.2.2 t 0) fun q5 => (if gO K q5 0 = true then (Option.bind (b_X0_pages K M q5) fun r7 => (some (if (0 : Int32) < (r7 - (1 : Int32)) then (r7 - (1 : Int32)) else (0 : Int32)))) else none)) else none) else (if x1 = (1 : Int32) then (some (999 : Int32)) else (if x1 = (2 : Int32) then (if gO K t 6 = true then (Option.bind (K.2.2 t 0) fun q9 => (if gO K q9 0 = true then (some ((M q9 8) - (1 : Int32))) else none)) else none) else (if gO K t 6 = true then (Option.bind (K.2.2 t 0) fun q12 => (if gO K q12 0 = true then (Option.bind (b_X0_allEntries K M q12) fun r14 => (some r14)) else none)) else none))))
set_option maxHeartbeats 4000000 in
set_option maxRecDepth 100000 in
theorem m_X7_mostToSet (K : yK) (M : yM) (t : Nat) (x1 : Int32) : yMet yX7_mostToSet cX7_mostToSet 2 (Option.some Jvm.ClassFile.FieldType.int) rm_X7_mostToSet K M [.ref t, .int x1] (b_X7_mostToSet K M t x1) (yFi K M) := by
  refine yM_intro (by decide) (Nat.le_of_ble_eq_true rfl) (fun X r h C E => ?_)
  replace C : yCx X cX7_mostToSet RX7 "mostToSet" rm_X7_mostToSet 2 := C
  show Y X K M 0 0 0 [(0, .ref t), (1, .int x1)] []
  unfold b_X7_mostToSet at h
  refine y_iload_n C dX7_mostToSet_0 rfl ?_
  rcases Classical.em (x1 = (0 : Int32)) with c1 | c1
  · have h := itT c1 h
    refine y_tabIn C dX7_mostToSet_1 (off := 27) (tgt := 28) (by rw [c1]; decide) (by rw [c1]; decide) (by rw [c1]; rfl) rfl ?_
    refine y_iconst C dX7_mostToSet_28 kc_0 ?_
    refine y_aload_n C dX7_mostToSet_29 rfl ?_
    obtain ⟨g4, h⟩ := gd h
    obtain ⟨q5, hq5, h⟩ := ob h
    refine y_getr C fl_X7_27 g4 hq5 dX7_mostToSet_30 ?_
    obtain ⟨g6, h⟩ := gd h
    obtain ⟨r7, hr7, h⟩ := ob h
    refine y_cV C [] (m_X0_pages K M q5) hr7 g6 cw_X7_86 rfl (by decide) ⟨rfl, rfl⟩ ⟨Nat.zero_le _, Nat.zero_le _⟩ (Nat.le_of_ble_eq_true rfl) rfl rfl rfl dX7_mostToSet_33 ?_
    refine y_iconst C dX7_mostToSet_36 kc_1 ?_
    refine y_isub C dX7_mostToSet_37 ?_
    refine y_max C jm_X7_90 ⟨by decide, Nat.le_of_ble_eq_true rfl, Nat.le_of_ble_eq_true rfl, Nat.le_of_ble_eq_true rfl⟩ dX7_mostToSet_38 ?_
    have e0 := Option.some.inj h
    subst e0
    exact y_iret C E (Nat.zero_le _) (Nat.zero_le _) dX7_mostToSet_41
  replace h := itF c1 h
  rcases Classical.em (x1 = (1 : Int32)) with c2 | c2
  · have h := itT c2 h
    refine y_tabIn C dX7_mostToSet_1 (off := 41) (tgt := 42) (by rw [c2]; decide) (by rw [c2]; decide) (by rw [c2]; rfl) rfl ?_
    refine y_sipush C dX7_mostToSet_42 ks_999 ?_
    have e0 := Option.some.inj h
    subst e0
    exact y_iret C E (Nat.zero_le _) (Nat.zero_le _) dX7_mostToSet_45
  replace h := itF c2 h
  rcases Classical.em (x1 = (2 : Int32)) with c3 | c3
  · have h := itT c3 h
    refine y_tabIn C dX7_mostToSet_1 (off := 45) (tgt := 46) (by rw [c3]; decide) (by rw [c3]; decide) (by rw [c3]; rfl) rfl ?_
    refine y_aload_n C dX7_mostToSet_46 rfl ?_
    obtain ⟨g8, h⟩ := gd h
    obtain ⟨q9, hq9, h⟩ := ob h
    refine y_getr C fl_X7_27 g8 hq9 dX7_mostToSet_47 ?_
    obtain ⟨g10, h⟩ := gd h
    refine y_geti C fl_X7_55 g10 dX7_mostToSet_50 ?_
    refine y_iconst C dX7_mostToSet_53 kc_1 ?_
    refine y_isub C dX7_mostToSet_54 ?_
    have e0 := Option.some.inj h
    subst e0
    exact y_iret C E (Nat.zero_le _) (Nat.zero_le _) dX7_mostToSet_55
  replace h := itF c3 h
  refine y_tabOut C dX7_mostToSet_1 (tgt := 56) (by have q0 : (x1).toInt ≠ 0 := yNe c1; have q1 : (x1).toInt ≠ 1 := yNe c2; have q2 : (x1).toInt ≠ 2 := yNe c3; omega) rfl ?_
  refine y_aload_n C dX7_mostToSet_56 rfl ?_
  obtain ⟨g11, h⟩ := gd h
  obtain ⟨q12, hq12, h⟩ := ob h
  refine y_getr C fl_X7_27 g11 hq12 dX7_mostToSet_57 ?_
  obtain ⟨g13, h⟩ := gd h
  obtain ⟨r14, hr14, h⟩ := ob h
  refine y_cV C [] (m_X0_allEntries K M q12) hr14 g13 cw_X7_96 rfl (by decide) ⟨rfl, rfl⟩ ⟨Nat.zero_le _, Nat.zero_le _⟩ (Nat.le_of_ble_eq_true rfl) rfl rfl rfl dX7_mostToSet_60 ?_
  have e0 := Option.some.inj h
  subst e0
  exact y_iret C E (Nat.zero_le _) (Nat.zero_le _) dX7_mostToSet_63
set_option maxRecDepth 100000 in
def b_X7_needs (K : yK) (M : yM) (t : Nat) (x1 : Int32) : Option Int32 := (if gO K t 6 = true then (Option.bind (K.2.2 t 0) fun q2 => (if gO K q2 0 = true then (Option.bind (b_X0_hasDeed K M q2 x1) fun r4 => (if r4 = true then (Option.bind (K.2.2 q2 7) fun q6 => (if gA K q6 x1 = true then (some (M q6 (x1).toNatClampNeg)) else none)) else (some (-5 : Int32)))) else none)) else none)
set_option maxHeartbeats 4000000 in
set_option maxRecDepth 100000 in
theorem m_X7_needs (K : yK) (M : yM) (t : Nat) (x1 : Int32) : yMet yX7_needs cX7_needs 2 (Option.some Jvm.ClassFile.FieldType.int) rm_X7_needs K M [.ref t, .int x1] (b_X7_needs K M t x1) (yFi K M) := by
  refine yM_intro (by decide) (Nat.le_of_ble_eq_true rfl) (fun X r h C E => ?_)
  replace C : yCx X cX7_needs RX7 "needs" rm_X7_needs 2 := C
  show Y X K M 0 0 0 [(0, .ref t), (1, .int x1)] []
  unfold b_X7_needs at h
  refine y_aload_n C dX7_needs_0 rfl ?_
  obtain ⟨g1, h⟩ := gd h
  obtain ⟨q2, hq2, h⟩ := ob h
  refine y_getr C fl_X7_27 g1 hq2 dX7_needs_1 ?_
  refine y_iload_n C dX7_needs_4 rfl ?_
  obtain ⟨g3, h⟩ := gd h
  obtain ⟨r4, hr4, h⟩ := ob h
  refine y_cV C [.int x1] (m_X0_hasDeed K M q2 x1) hr4 g3 cw_X7_173 rfl (by decide) ⟨rfl, rfl⟩ ⟨Nat.zero_le _, Nat.zero_le _⟩ (Nat.le_of_ble_eq_true rfl) rfl rfl rfl dX7_needs_5 ?_
  refine y_ifeqB C dX7_needs_8 (tgt := 23) rfl (fun c5 => ?_) (fun c5 => ?_)
  · have h := itFb c5 h
    refine y_bipush C dX7_needs_23 kb_m5 ?_
    have e0 := Option.some.inj h
    subst e0
    exact y_iret C E (Nat.zero_le _) (Nat.zero_le _) dX7_needs_25
  · have h := itT c5 h
    refine y_aload_n C dX7_needs_11 rfl ?_
    refine y_getr C fl_X7_27 g1 hq2 dX7_needs_12 ?_
    obtain ⟨q6, hq6, h⟩ := ob h
    refine y_getr C fl_X7_176 g3 hq6 dX7_needs_15 ?_
    refine y_iload_n C dX7_needs_18 rfl ?_
    obtain ⟨g7, h⟩ := gd h
    refine y_iald C g7 dX7_needs_19 ?_
    refine y_goto C dX7_needs_20 (tgt := 25) rfl ?_
    have e0 := Option.some.inj h
    subst e0
    exact y_iret C E (Nat.zero_le _) (Nat.zero_le _) dX7_needs_25
set_option maxRecDepth 100000 in
def b_X7_now (K : yK) (M : yM) (t : Nat) (x1 : Int32) : Option (Int32 × yM) := (if x1 = (0 : Int32) then (if gO K t 6 = true then (Option.bind (K.2.2 t 0) fun q5 => (if gO K q5 0 = true then (Option.bind (b_X0_itself K M q5) fun r7 => (Option.bind (b_X0_held K r7.2 q5 r7.1) fun r8 => (some (r8, r7.2)))) else none)) else none) else (if x1 = (1 : Int32) then (if gO K t 6 = true then (Option.bind (K.2.2 t 0) fun q10 => (if gO K q10 0 = true then (some ((M q10 14), M)) else none)) else none) else (if x1 = (2 : Int32) then (if gO K t 6 = true then (Option.bind (K.2.2 t 0) fun q13 => (if gO K q13 0 = true then (Option.bind (b_X0_itself K M q13) fun r15 => (some (r15.1, r15.2))) else none)) else none) else (some ((-2 : Int32), M)))))
set_option maxHeartbeats 4000000 in
set_option maxRecDepth 100000 in
theorem m_X7_now (K : yK) (M : yM) (t : Nat) (x1 : Int32) : yMet yX7_now cX7_now 2 (Option.some Jvm.ClassFile.FieldType.int) rm_X7_now K M [.ref t, .int x1] (b_X7_now K M t x1) (yGi K) := by
  refine yM_intro (by decide) (Nat.le_of_ble_eq_true rfl) (fun X r h C E => ?_)
  replace C : yCx X cX7_now RX7 "now" rm_X7_now 2 := C
  show Y X K M 0 0 0 [(0, .ref t), (1, .int x1)] []
  unfold b_X7_now at h
  refine y_iload_n C dX7_now_0 rfl ?_
  rcases Classical.em (x1 = (0 : Int32)) with c1 | c1
  · have h := itT c1 h
    refine y_tabIn C dX7_now_1 (off := 27) (tgt := 28) (by rw [c1]; decide) (by rw [c1]; decide) (by rw [c1]; rfl) rfl ?_
    refine y_aload_n C dX7_now_28 rfl ?_
    obtain ⟨g4, h⟩ := gd h
    obtain ⟨q5, hq5, h⟩ := ob h
    refine y_getr C fl_X7_27 g4 hq5 dX7_now_29 ?_
    refine y_aload_n C dX7_now_32 rfl ?_
    refine y_getr C fl_X7_27 g4 hq5 dX7_now_33 ?_
    obtain ⟨g6, h⟩ := gd h
    obtain ⟨r7, hr7, h⟩ := ob h
    refine y_cV C [] (m_X0_itself K M q5) hr7 g6 cw_X7_164 rfl (by decide) ⟨rfl, rfl⟩ ⟨Nat.zero_le _, Nat.zero_le _⟩ (Nat.le_of_ble_eq_true rfl) rfl rfl rfl dX7_now_36 ?_
    obtain ⟨r8, hr8, h⟩ := ob h
    refine y_cV C [.int r7.1] (m_X0_held K r7.2 q5 r7.1) hr8 g6 cw_X7_167 rfl (by decide) ⟨rfl, rfl⟩ ⟨Nat.zero_le _, Nat.zero_le _⟩ (Nat.le_of_ble_eq_true rfl) rfl rfl rfl dX7_now_39 ?_
    have e0 := Option.some.inj h
    subst e0
    exact y_iret C E (Nat.zero_le _) (Nat.zero_le _) dX7_now_42
  replace h := itF c1 h
  rcases Classical.em (x1 = (1 : Int32)) with c2 | c2
  · have h := itT c2 h
    refine y_tabIn C dX7_now_1 (off := 42) (tgt := 43) (by rw [c2]; decide) (by rw [c2]; decide) (by rw [c2]; rfl) rfl ?_
    refine y_aload_n C dX7_now_43 rfl ?_
    obtain ⟨g9, h⟩ := gd h
    obtain ⟨q10, hq10, h⟩ := ob h
    refine y_getr C fl_X7_27 g9 hq10 dX7_now_44 ?_
    obtain ⟨g11, h⟩ := gd h
    refine y_geti C fl_X7_161 g11 dX7_now_47 ?_
    have e0 := Option.some.inj h
    subst e0
    exact y_iret C E (Nat.zero_le _) (Nat.zero_le _) dX7_now_50
  replace h := itF c2 h
  rcases Classical.em (x1 = (2 : Int32)) with c3 | c3
  · have h := itT c3 h
    refine y_tabIn C dX7_now_1 (off := 50) (tgt := 51) (by rw [c3]; decide) (by rw [c3]; decide) (by rw [c3]; rfl) rfl ?_
    refine y_aload_n C dX7_now_51 rfl ?_
    obtain ⟨g12, h⟩ := gd h
    obtain ⟨q13, hq13, h⟩ := ob h
    refine y_getr C fl_X7_27 g12 hq13 dX7_now_52 ?_
    obtain ⟨g14, h⟩ := gd h
    obtain ⟨r15, hr15, h⟩ := ob h
    refine y_cV C [] (m_X0_itself K M q13) hr15 g14 cw_X7_164 rfl (by decide) ⟨rfl, rfl⟩ ⟨Nat.zero_le _, Nat.zero_le _⟩ (Nat.le_of_ble_eq_true rfl) rfl rfl rfl dX7_now_55 ?_
    have e0 := Option.some.inj h
    subst e0
    exact y_iret C E (Nat.zero_le _) (Nat.zero_le _) dX7_now_58
  replace h := itF c3 h
  refine y_tabOut C dX7_now_1 (tgt := 59) (by have q0 : (x1).toInt ≠ 0 := yNe c1; have q1 : (x1).toInt ≠ 1 := yNe c2; have q2 : (x1).toInt ≠ 2 := yNe c3; omega) rfl ?_
  refine y_bipush C dX7_now_59 kb_m2 ?_
  have e0 := Option.some.inj h
  subst e0
  exact y_iret C E (Nat.zero_le _) (Nat.zero_le _) dX7_now_61
def b_X7_odds_81 (K : yK) (t : Nat) (x_1 : Int32) (x_2 : Int32) (x_3 : Int32) (x_4 : Int32) (x_5 : Int32) (x_6 : Int32) : Nat → yM → Int32 → Int32 → Option (Int32 × yM)
  | 0, _, _, _ => none
  | n + 1, M, u81_7, u81_8 => (if x_6 ≤ u81_8 then (some (u81_7, M)) else (if gO K t 6 = true then (Option.bind (b_X7_think K M t ((0 : Int32)) ((0 : Int32)) ((0 : Int32))) fun r3 => (Option.bind (b_X7_passDays K r3 t ((x_2 / (100 : Int32))) ((2 : Int32)) ((x_1 + u81_8)) x_4) fun r4 => (Option.bind (some (u81_7 + ((r4.1 >>> (x_3 &&& 31)) &&& (1 : Int32)))) fun v5 => (Option.bind (some (u81_8 + (1 : Int32))) fun v6 => (b_X7_odds_81 K t x_1 x_2 x_3 x_4 x_5 x_6 n r4.2 v5 v6))))) else none))
set_option maxHeartbeats 4000000 in
set_option maxRecDepth 100000 in
theorem l_X7_odds_81 {X : yX} {K : yK} {t : Nat} {x_1 : Int32} {x_2 : Int32} {x_3 : Int32} {x_4 : Int32} {x_5 : Int32} {x_6 : Int32} (C : yCx X cX7_odds RX7 "odds" rm_X7_odds 9) : ∀ (n : Nat) (M : yM) (u81_7 : Int32) (u81_8 : Int32) (x : (Int32 × yM)), b_X7_odds_81 K t x_1 x_2 x_3 x_4 x_5 x_6 n M u81_7 u81_8 = some x → ∀ (hX : Y X K x.2 0 0 125 [(5, .int x_5), (6, .int x_6), (7, .int x.1)] []), Y X K M 0 0 81 [(0, .ref t), (1, .int x_1), (2, .int x_2), (3, .int x_3), (4, .int x_4), (5, .int x_5), (6, .int x_6), (7, .int u81_7), (8, .int u81_8)] [] := by
  intro n
  induction n with
  | zero =>
    intro M u81_7 u81_8 x h
    exact nomatch (show (none : Option _) = some x from h)
  | succ n ih =>
    intro M u81_7 u81_8 x h hX
    rw [b_X7_odds_81] at h
    refine y_iload C dX7_odds_81 rfl ?_
    refine y_iload C dX7_odds_83 rfl ?_
    refine y_icmp_ge C dX7_odds_85 (tgt := 125) rfl (fun c1 => ?_) (fun c1 => ?_)
    · have h := itT c1 h
      have e0 := Option.some.inj h
      subst e0
      exact y_sel [5, 6, 7] rfl hX
    · have h := itF c1 h
      refine y_aload_n C dX7_odds_88 rfl ?_
      refine y_iconst C dX7_odds_89 kc_0 ?_
      refine y_iconst C dX7_odds_90 kc_0 ?_
      refine y_iconst C dX7_odds_91 kc_0 ?_
      obtain ⟨g2, h⟩ := gd h
      obtain ⟨r3, hr3, h⟩ := ob h
      refine y_cV C [.int (0 : Int32), .int (0 : Int32), .int (0 : Int32)] (m_X7_think K M t ((0 : Int32)) ((0 : Int32)) ((0 : Int32))) hr3 g2 cw_X7_191 rfl (by decide) ⟨rfl, rfl⟩ ⟨Nat.zero_le _, Nat.zero_le _⟩ (Nat.le_of_ble_eq_true rfl) rfl rfl rfl dX7_odds_92 ?_
      refine y_iload C dX7_odds_95 rfl ?_
      refine y_aload_n C dX7_odds_97 rfl ?_
      refine y_iload_n C dX7_odds_98 rfl ?_
      refine y_bipush C dX7_odds_99 kb_100 ?_
      refine y_idiv C dX7_odds_101 (by decide) ?_
      refine y_iconst C dX7_odds_102 kc_2 ?_
      refine y_iload_n C dX7_odds_103 rfl ?_
      refine y_iload C dX7_odds_104 rfl ?_
      refine y_iadd C dX7_odds_106 ?_
      refine y_iload C dX7_odds_107 rfl ?_
      obtain ⟨r4, hr4, h⟩ := ob h
      refine y_cV C [.int (x_2 / (100 : Int32)), .int (2 : Int32), .int (x_1 + u81_8), .int x_4] (m_X7_passDays K r3 t ((x_2 / (100 : Int32))) ((2 : Int32)) ((x_1 + u81_8)) x_4) hr4 g2 cw_X7_195 rfl (by decide) ⟨rfl, rfl⟩ ⟨Nat.zero_le _, Nat.zero_le _⟩ (Nat.le_of_ble_eq_true rfl) rfl rfl rfl dX7_odds_109 ?_
      refine y_iload_n C dX7_odds_112 rfl ?_
      refine y_ishr C dX7_odds_113 ?_
      refine y_iconst C dX7_odds_114 kc_1 ?_
      refine y_iand C dX7_odds_115 ?_
      refine y_iadd C dX7_odds_116 ?_
      obtain ⟨v5, ev5, h⟩ := ob h
      have ev5 := Option.some.inj ev5
      refine y_istore C dX7_odds_117 (by decide) (L' := [(7, .int v5), (0, .ref t), (1, .int x_1), (2, .int x_2), (3, .int x_3), (4, .int x_4), (5, .int x_5), (6, .int x_6), (8, .int u81_8)]) (by subst ev5; rfl) ?_
      obtain ⟨v6, ev6, h⟩ := ob h
      have ev6 := Option.some.inj ev6
      refine y_iinc C dX7_odds_119 (by decide) rfl (v := v6) (by subst ev6; rfl) (L' := [(8, .int v6), (7, .int v5), (0, .ref t), (1, .int x_1), (2, .int x_2), (3, .int x_3), (4, .int x_4), (5, .int x_5), (6, .int x_6)]) rfl ?_
      refine y_goto C dX7_odds_122 (tgt := 81) rfl ?_
      exact y_sel [0, 1, 2, 3, 4, 5, 6, 7, 8] rfl (ih _ _ _ _  h hX)
set_option maxRecDepth 100000 in
def b_X7_odds (K : yK) (M : yM) (t : Nat) (x1 : Int32) (x2 : Int32) (x3 : Int32) (x4 : Int32) (x5 : Int32) : Option (Int64 × yM) := (Option.bind (some (x2 - x2 / (100 : Int32) * (100 : Int32))) fun v1 => (Option.bind (b_X7_isSeed K M x1) fun r2 => (if r2 = true then (if x2 < 0 then (some ((-4611686018427387904 : Int64), M)) else (Option.bind (b_X7_isDays K M ((x2 / (100 : Int32)))) fun r5 => (if r5 = true then (if v1 < (1 : Int32) then (some ((-4611686018427387904 : Int64), M)) else (if (30 : Int32) < v1 then (some ((-4611686018427387904 : Int64), M)) else (if gO K t 6 = true then (Option.bind (K.2.2 t 0) fun q10 => (if gO K q10 0 = true then (Option.bind (b_X0_has K M q10 x3) fun r12 => (if r12 = true then (if x4 < 0 then (some ((-4611686018427387904 : Int64), M)) else (if (100 : Int32) < x4 then (some ((-4611686018427387904 : Int64), M)) else (Option.bind (b_X7_isZeroOrOne K M x5) fun r16 => (if r16 = true then (Option.bind (b_X7_odds_81 K t x1 x2 x3 x4 x5 v1 1000 M ((0 : Int32)) ((0 : Int32))) fun j18 => (Option.bind (if x5 = 0 then (some j18.1) else (some v1)) fun j20 => (Option.bind (b_X7_inLowestTerms K j18.2 j20 j18.1 v1) fun r21 => (some ((r21).toInt64, j18.2))))) else (some ((-4611686018427387904 : Int64), M)))))) else (some ((-4611686018427387904 : Int64), M)))) else none)) else none))) else (some ((-4611686018427387904 : Int64), M))))) else (some ((-4611686018427387904 : Int64), M)))))
set_option maxHeartbeats 4000000 in
set_option maxRecDepth 100000 in
theorem m_X7_odds (K : yK) (M : yM) (t : Nat) (x1 : Int32) (x2 : Int32) (x3 : Int32) (x4 : Int32) (x5 : Int32) : yMet yX7_odds cX7_odds 9 (Option.some Jvm.ClassFile.FieldType.long) rm_X7_odds K M [.ref t, .int x1, .int x2, .int x3, .int x4, .int x5] (b_X7_odds K M t x1 x2 x3 x4 x5) (yGl K) := by
  refine yM_intro (by decide) (Nat.le_of_ble_eq_true rfl) (fun X r h C E => ?_)
  replace C : yCx X cX7_odds RX7 "odds" rm_X7_odds 9 := C
  show Y X K M 0 0 0 [(0, .ref t), (1, .int x1), (2, .int x2), (3, .int x3), (4, .int x4), (5, .int x5)] []
  unfold b_X7_odds at h
  refine y_iload_n C dX7_odds_0 rfl ?_
  refine y_bipush C dX7_odds_1 kb_100 ?_
  refine y_irem C dX7_odds_3 (by decide) ?_
  obtain ⟨v1, ev1, h⟩ := ob h
  have ev1 := Option.some.inj ev1
  refine y_istore C dX7_odds_4 (by decide) (L' := [(6, .int v1), (0, .ref t), (1, .int x1), (2, .int x2), (3, .int x3), (4, .int x4), (5, .int x5)]) (by subst ev1; rfl) ?_
  refine y_iload_n C dX7_odds_6 rfl ?_
  obtain ⟨r2, hr2, h⟩ := ob h
  refine y_cS C [.int x1] (m_X7_isSeed K M x1) hr2 cw_X7_246 rfl (by decide) ⟨rfl, rfl⟩ ⟨Nat.zero_le _, Nat.zero_le _⟩ (Nat.le_of_ble_eq_true rfl) rfl rfl rfl dX7_odds_7 ?_
  refine y_ifeqB C dX7_odds_10 (tgt := 71) rfl (fun c3 => ?_) (fun c3 => ?_)
  · have h := itFb c3 h
    refine y_ldc2 C wd_773 dX7_odds_71 ?_
    have e0 := Option.some.inj h
    subst e0
    exact y_lret C E (Nat.zero_le _) (Nat.zero_le _) dX7_odds_74
  · have h := itT c3 h
    refine y_iload_n C dX7_odds_13 rfl ?_
    refine y_if_lt C dX7_odds_14 (tgt := 71) rfl (fun c4 => ?_) (fun c4 => ?_)
    · have h := itT c4 h
      refine y_ldc2 C wd_773 dX7_odds_71 ?_
      have e0 := Option.some.inj h
      subst e0
      exact y_lret C E (Nat.zero_le _) (Nat.zero_le _) dX7_odds_74
    · have h := itF c4 h
      refine y_iload_n C dX7_odds_17 rfl ?_
      refine y_bipush C dX7_odds_18 kb_100 ?_
      refine y_idiv C dX7_odds_20 (by decide) ?_
      obtain ⟨r5, hr5, h⟩ := ob h
      refine y_cS C [.int (x2 / (100 : Int32))] (m_X7_isDays K M ((x2 / (100 : Int32)))) hr5 cw_X7_188 rfl (by decide) ⟨rfl, rfl⟩ ⟨Nat.zero_le _, Nat.zero_le _⟩ (Nat.le_of_ble_eq_true rfl) rfl rfl rfl dX7_odds_21 ?_
      refine y_ifeqB C dX7_odds_24 (tgt := 71) rfl (fun c6 => ?_) (fun c6 => ?_)
      · have h := itFb c6 h
        refine y_ldc2 C wd_773 dX7_odds_71 ?_
        have e0 := Option.some.inj h
        subst e0
        exact y_lret C E (Nat.zero_le _) (Nat.zero_le _) dX7_odds_74
      · have h := itT c6 h
        refine y_iload C dX7_odds_27 rfl ?_
        refine y_iconst C dX7_odds_29 kc_1 ?_
        refine y_icmp_lt C dX7_odds_30 (tgt := 71) rfl (fun c7 => ?_) (fun c7 => ?_)
        · have h := itT c7 h
          refine y_ldc2 C wd_773 dX7_odds_71 ?_
          have e0 := Option.some.inj h
          subst e0
          exact y_lret C E (Nat.zero_le _) (Nat.zero_le _) dX7_odds_74
        · have h := itF c7 h
          refine y_iload C dX7_odds_33 rfl ?_
          refine y_bipush C dX7_odds_35 kb_30 ?_
          refine y_icmp_gt C dX7_odds_37 (tgt := 71) rfl (fun c8 => ?_) (fun c8 => ?_)
          · have h := itT c8 h
            refine y_ldc2 C wd_773 dX7_odds_71 ?_
            have e0 := Option.some.inj h
            subst e0
            exact y_lret C E (Nat.zero_le _) (Nat.zero_le _) dX7_odds_74
          · have h := itF c8 h
            refine y_aload_n C dX7_odds_40 rfl ?_
            obtain ⟨g9, h⟩ := gd h
            obtain ⟨q10, hq10, h⟩ := ob h
            refine y_getr C fl_X7_27 g9 hq10 dX7_odds_41 ?_
            refine y_iload_n C dX7_odds_44 rfl ?_
            obtain ⟨g11, h⟩ := gd h
            obtain ⟨r12, hr12, h⟩ := ob h
            refine y_cV C [.int x3] (m_X0_has K M q10 x3) hr12 g11 cw_X7_118 rfl (by decide) ⟨rfl, rfl⟩ ⟨Nat.zero_le _, Nat.zero_le _⟩ (Nat.le_of_ble_eq_true rfl) rfl rfl rfl dX7_odds_45 ?_
            refine y_ifeqB C dX7_odds_48 (tgt := 71) rfl (fun c13 => ?_) (fun c13 => ?_)
            · have h := itFb c13 h
              refine y_ldc2 C wd_773 dX7_odds_71 ?_
              have e0 := Option.some.inj h
              subst e0
              exact y_lret C E (Nat.zero_le _) (Nat.zero_le _) dX7_odds_74
            · have h := itT c13 h
              refine y_iload C dX7_odds_51 rfl ?_
              refine y_if_lt C dX7_odds_53 (tgt := 71) rfl (fun c14 => ?_) (fun c14 => ?_)
              · have h := itT c14 h
                refine y_ldc2 C wd_773 dX7_odds_71 ?_
                have e0 := Option.some.inj h
                subst e0
                exact y_lret C E (Nat.zero_le _) (Nat.zero_le _) dX7_odds_74
              · have h := itF c14 h
                refine y_iload C dX7_odds_56 rfl ?_
                refine y_bipush C dX7_odds_58 kb_100 ?_
                refine y_icmp_gt C dX7_odds_60 (tgt := 71) rfl (fun c15 => ?_) (fun c15 => ?_)
                · have h := itT c15 h
                  refine y_ldc2 C wd_773 dX7_odds_71 ?_
                  have e0 := Option.some.inj h
                  subst e0
                  exact y_lret C E (Nat.zero_le _) (Nat.zero_le _) dX7_odds_74
                · have h := itF c15 h
                  refine y_iload C dX7_odds_63 rfl ?_
                  obtain ⟨r16, hr16, h⟩ := ob h
                  refine y_cS C [.int x5] (m_X7_isZeroOrOne K M x5) hr16 cw_X7_179 rfl (by decide) ⟨rfl, rfl⟩ ⟨Nat.zero_le _, Nat.zero_le _⟩ (Nat.le_of_ble_eq_true rfl) rfl rfl rfl dX7_odds_65 ?_
                  refine y_ifneB C dX7_odds_68 (tgt := 75) rfl (fun c17 => ?_) (fun c17 => ?_)
                  · have h := itT c17 h
                    refine y_iconst C dX7_odds_75 kc_0 ?_
                    refine y_istore C dX7_odds_76 (by decide) (L' := [(7, .int (0)), (6, .int v1), (0, .ref t), (1, .int x1), (2, .int x2), (3, .int x3), (4, .int x4), (5, .int x5)]) rfl ?_
                    refine y_iconst C dX7_odds_78 kc_0 ?_
                    refine y_istore C dX7_odds_79 (by decide) (L' := [(8, .int (0)), (7, .int (0)), (6, .int v1), (0, .ref t), (1, .int x1), (2, .int x2), (3, .int x3), (4, .int x4), (5, .int x5)]) rfl ?_
                    obtain ⟨j18, hj18, h⟩ := ob h
                    refine y_sel [0, 1, 2, 3, 4, 5, 6, 7, 8] rfl (l_X7_odds_81 C 1000 _ _ _ _ hj18 ?_)
                    refine y_iload C dX7_odds_125 rfl ?_
                    obtain ⟨j20, hj20, h⟩ := ob h
                    have hJj20 : Y X K j18.2 0 0 137 [(6, .int v1), (7, .int j18.1)] [.int j20] := by
                      refine y_iload C dX7_odds_137 rfl ?_
                      refine y_iload C dX7_odds_139 rfl ?_
                      obtain ⟨r21, hr21, h⟩ := ob h
                      refine y_cS C [.int j20, .int j18.1, .int v1] (m_X7_inLowestTerms K j18.2 j20 j18.1 v1) hr21 cw_X7_251 rfl (by decide) ⟨rfl, rfl⟩ ⟨Nat.zero_le _, Nat.zero_le _⟩ (Nat.le_of_ble_eq_true rfl) rfl rfl rfl dX7_odds_141 ?_
                      refine y_i2l C dX7_odds_144 rfl ?_
                      have e0 := Option.some.inj h
                      subst e0
                      exact y_lret C E (Nat.zero_le _) (Nat.zero_le _) dX7_odds_145
                    replace h := hj20
                    refine y_if_ne C dX7_odds_127 (tgt := 135) rfl (fun c19 => ?_) (fun c19 => ?_)
                    · have h := itF c19 h
                      refine y_iload C dX7_odds_135 rfl ?_
                      have e0 := Option.some.inj h
                      subst e0
                      exact y_sel [6, 7] rfl hJj20
                    · have h := itT c19 h
                      refine y_iload C dX7_odds_130 rfl ?_
                      refine y_goto C dX7_odds_132 (tgt := 137) rfl ?_
                      have e0 := Option.some.inj h
                      subst e0
                      exact y_sel [6, 7] rfl hJj20
                  · have h := itFb c17 h
                    refine y_ldc2 C wd_773 dX7_odds_71 ?_
                    have e0 := Option.some.inj h
                    subst e0
                    exact y_lret C E (Nat.zero_le _) (Nat.zero_le _) dX7_odds_74
set_option maxRecDepth 100000 in
def b_X7_put (K : yK) (M : yM) (t : Nat) (x1 : Int32) (x2 : Int32) (x3 : Int32) : Option (Int32 × yM) := (if gO K t 6 = true then (Option.bind (K.2.2 t 0) fun q2 => (if gO K q2 0 = true then (Option.bind (b_X0_has K M q2 x1) fun r4 => (if r4 = true then (if x2 = 0 then (if x3 < (1 : Int32) then (if x2 = (1 : Int32) then (if x3 < (-1 : Int32) then (some ((-7 : Int32), M)) else (if (12 : Int32) ≤ x3 then (some ((-7 : Int32), M)) else (Option.bind (K.2.2 q2 3) fun q19 => (if gA K q19 x1 = true then (Option.bind (some (M q19 (x1).toNatClampNeg)) fun v21 => (Option.bind (some (yS M q19 (x1).toNatClampNeg x3)) fun M22 => (Option.bind (b_X0_settle K M22 q2) fun r23 => (some (v21, r23))))) else none)))) else (some ((-7 : Int32), M))) else (if (60 : Int32) < x3 then (if x2 = (1 : Int32) then (if x3 < (-1 : Int32) then (some ((-7 : Int32), M)) else (if (12 : Int32) ≤ x3 then (some ((-7 : Int32), M)) else (Option.bind (K.2.2 q2 3) fun q28 => (if gA K q28 x1 = true then (Option.bind (some (M q28 (x1).toNatClampNeg)) fun v30 => (Option.bind (some (yS M q28 (x1).toNatClampNeg x3)) fun M31 => (Option.bind (b_X0_settle K M31 q2) fun r32 => (some (v30, r32))))) else none)))) else (some ((-7 : Int32), M))) else (Option.bind (K.2.2 q2 2) fun q33 => (if gA K q33 x1 = true then (Option.bind (some (M q33 (x1).toNatClampNeg)) fun v35 => (Option.bind (some (yS M q33 (x1).toNatClampNeg x3)) fun M36 => (Option.bind (b_X0_settle K M36 q2) fun r37 => (some (v35, r37))))) else none)))) else (if x2 = (1 : Int32) then (if x3 < (-1 : Int32) then (some ((-7 : Int32), M)) else (if (12 : Int32) ≤ x3 then (some ((-7 : Int32), M)) else (Option.bind (K.2.2 q2 3) fun q10 => (if gA K q10 x1 = true then (Option.bind (some (M q10 (x1).toNatClampNeg)) fun v12 => (Option.bind (some (yS M q10 (x1).toNatClampNeg x3)) fun M13 => (Option.bind (b_X0_settle K M13 q2) fun r14 => (some (v12, r14))))) else none)))) else (some ((-7 : Int32), M)))) else (some ((-5 : Int32), M)))) else none)) else none)
set_option maxHeartbeats 4000000 in
set_option maxRecDepth 100000 in
theorem m_X7_put (K : yK) (M : yM) (t : Nat) (x1 : Int32) (x2 : Int32) (x3 : Int32) : yMet yX7_put cX7_put 5 (Option.some Jvm.ClassFile.FieldType.int) rm_X7_put K M [.ref t, .int x1, .int x2, .int x3] (b_X7_put K M t x1 x2 x3) (yGi K) := by
  refine yM_intro (by decide) (Nat.le_of_ble_eq_true rfl) (fun X r h C E => ?_)
  replace C : yCx X cX7_put RX7 "put" rm_X7_put 5 := C
  show Y X K M 0 0 0 [(0, .ref t), (1, .int x1), (2, .int x2), (3, .int x3)] []
  unfold b_X7_put at h
  refine y_aload_n C dX7_put_0 rfl ?_
  obtain ⟨g1, h⟩ := gd h
  obtain ⟨q2, hq2, h⟩ := ob h
  refine y_getr C fl_X7_27 g1 hq2 dX7_put_1 ?_
  refine y_iload_n C dX7_put_4 rfl ?_
  obtain ⟨g3, h⟩ := gd h
  obtain ⟨r4, hr4, h⟩ := ob h
  refine y_cV C [.int x1] (m_X0_has K M q2 x1) hr4 g3 cw_X7_118 rfl (by decide) ⟨rfl, rfl⟩ ⟨Nat.zero_le _, Nat.zero_le _⟩ (Nat.le_of_ble_eq_true rfl) rfl rfl rfl dX7_put_5 ?_
  refine y_ifneB C dX7_put_8 (tgt := 14) rfl (fun c5 => ?_) (fun c5 => ?_)
  · have h := itT c5 h
    refine y_iload_n C dX7_put_14 rfl ?_
    refine y_if_ne C dX7_put_15 (tgt := 60) rfl (fun c6 => ?_) (fun c6 => ?_)
    · have h := itF c6 h
      refine y_iload_n C dX7_put_60 rfl ?_
      refine y_iconst C dX7_put_61 kc_1 ?_
      refine y_icmp_ne C dX7_put_62 (tgt := 107) rfl (fun c7 => ?_) (fun c7 => ?_)
      · have h := itF c7 h
        refine y_bipush C dX7_put_107 kb_m7 ?_
        have e0 := Option.some.inj h
        subst e0
        exact y_iret C E (Nat.zero_le _) (Nat.zero_le _) dX7_put_109
      · have h := itT c7 h
        refine y_iload_n C dX7_put_65 rfl ?_
        refine y_iconst C dX7_put_66 kc_m1 ?_
        refine y_icmp_lt C dX7_put_67 (tgt := 107) rfl (fun c8 => ?_) (fun c8 => ?_)
        · have h := itT c8 h
          refine y_bipush C dX7_put_107 kb_m7 ?_
          have e0 := Option.some.inj h
          subst e0
          exact y_iret C E (Nat.zero_le _) (Nat.zero_le _) dX7_put_109
        · have h := itF c8 h
          refine y_iload_n C dX7_put_70 rfl ?_
          refine y_bipush C dX7_put_71 kb_12 ?_
          refine y_icmp_ge C dX7_put_73 (tgt := 107) rfl (fun c9 => ?_) (fun c9 => ?_)
          · have h := itT c9 h
            refine y_bipush C dX7_put_107 kb_m7 ?_
            have e0 := Option.some.inj h
            subst e0
            exact y_iret C E (Nat.zero_le _) (Nat.zero_le _) dX7_put_109
          · have h := itF c9 h
            refine y_aload_n C dX7_put_76 rfl ?_
            refine y_getr C fl_X7_27 g1 hq2 dX7_put_77 ?_
            obtain ⟨q10, hq10, h⟩ := ob h
            refine y_getr C fl_X7_138 g3 hq10 dX7_put_80 ?_
            refine y_iload_n C dX7_put_83 rfl ?_
            obtain ⟨g11, h⟩ := gd h
            refine y_iald C g11 dX7_put_84 ?_
            obtain ⟨v12, ev12, h⟩ := ob h
            have ev12 := Option.some.inj ev12
            refine y_istore C dX7_put_85 (by decide) (L' := [(4, .int v12), (0, .ref t), (1, .int x1), (2, .int x2), (3, .int x3)]) (by subst ev12; rfl) ?_
            refine y_aload_n C dX7_put_87 rfl ?_
            refine y_getr C fl_X7_27 g1 hq2 dX7_put_88 ?_
            refine y_getr C fl_X7_138 g3 hq10 dX7_put_91 ?_
            refine y_iload_n C dX7_put_94 rfl ?_
            refine y_iload_n C dX7_put_95 rfl ?_
            obtain ⟨M13, eM13, h⟩ := ob h
            have eM13 := Option.some.inj eM13
            refine y_iast C g11 dX7_put_96 eM13 ?_
            refine y_aload_n C dX7_put_97 rfl ?_
            refine y_getr C fl_X7_27 g1 hq2 dX7_put_98 ?_
            obtain ⟨r14, hr14, h⟩ := ob h
            refine y_cV C [] (m_X0_settle K M13 q2) hr14 g3 cw_X7_155 rfl (by decide) ⟨rfl, rfl⟩ ⟨Nat.zero_le _, Nat.zero_le _⟩ (Nat.le_of_ble_eq_true rfl) rfl rfl rfl dX7_put_101 ?_
            refine y_iload C dX7_put_104 rfl ?_
            have e0 := Option.some.inj h
            subst e0
            exact y_iret C E (Nat.zero_le _) (Nat.zero_le _) dX7_put_106
    · have h := itT c6 h
      refine y_iload_n C dX7_put_18 rfl ?_
      refine y_iconst C dX7_put_19 kc_1 ?_
      refine y_icmp_lt C dX7_put_20 (tgt := 60) rfl (fun c15 => ?_) (fun c15 => ?_)
      · have h := itT c15 h
        refine y_iload_n C dX7_put_60 rfl ?_
        refine y_iconst C dX7_put_61 kc_1 ?_
        refine y_icmp_ne C dX7_put_62 (tgt := 107) rfl (fun c16 => ?_) (fun c16 => ?_)
        · have h := itF c16 h
          refine y_bipush C dX7_put_107 kb_m7 ?_
          have e0 := Option.some.inj h
          subst e0
          exact y_iret C E (Nat.zero_le _) (Nat.zero_le _) dX7_put_109
        · have h := itT c16 h
          refine y_iload_n C dX7_put_65 rfl ?_
          refine y_iconst C dX7_put_66 kc_m1 ?_
          refine y_icmp_lt C dX7_put_67 (tgt := 107) rfl (fun c17 => ?_) (fun c17 => ?_)
          · have h := itT c17 h
            refine y_bipush C dX7_put_107 kb_m7 ?_
            have e0 := Option.some.inj h
            subst e0
            exact y_iret C E (Nat.zero_le _) (Nat.zero_le _) dX7_put_109
          · have h := itF c17 h
            refine y_iload_n C dX7_put_70 rfl ?_
            refine y_bipush C dX7_put_71 kb_12 ?_
            refine y_icmp_ge C dX7_put_73 (tgt := 107) rfl (fun c18 => ?_) (fun c18 => ?_)
            · have h := itT c18 h
              refine y_bipush C dX7_put_107 kb_m7 ?_
              have e0 := Option.some.inj h
              subst e0
              exact y_iret C E (Nat.zero_le _) (Nat.zero_le _) dX7_put_109
            · have h := itF c18 h
              refine y_aload_n C dX7_put_76 rfl ?_
              refine y_getr C fl_X7_27 g1 hq2 dX7_put_77 ?_
              obtain ⟨q19, hq19, h⟩ := ob h
              refine y_getr C fl_X7_138 g3 hq19 dX7_put_80 ?_
              refine y_iload_n C dX7_put_83 rfl ?_
              obtain ⟨g20, h⟩ := gd h
              refine y_iald C g20 dX7_put_84 ?_
              obtain ⟨v21, ev21, h⟩ := ob h
              have ev21 := Option.some.inj ev21
              refine y_istore C dX7_put_85 (by decide) (L' := [(4, .int v21), (0, .ref t), (1, .int x1), (2, .int x2), (3, .int x3)]) (by subst ev21; rfl) ?_
              refine y_aload_n C dX7_put_87 rfl ?_
              refine y_getr C fl_X7_27 g1 hq2 dX7_put_88 ?_
              refine y_getr C fl_X7_138 g3 hq19 dX7_put_91 ?_
              refine y_iload_n C dX7_put_94 rfl ?_
              refine y_iload_n C dX7_put_95 rfl ?_
              obtain ⟨M22, eM22, h⟩ := ob h
              have eM22 := Option.some.inj eM22
              refine y_iast C g20 dX7_put_96 eM22 ?_
              refine y_aload_n C dX7_put_97 rfl ?_
              refine y_getr C fl_X7_27 g1 hq2 dX7_put_98 ?_
              obtain ⟨r23, hr23, h⟩ := ob h
              refine y_cV C [] (m_X0_settle K M22 q2) hr23 g3 cw_X7_155 rfl (by decide) ⟨rfl, rfl⟩ ⟨Nat.zero_le _, Nat.zero_le _⟩ (Nat.le_of_ble_eq_true rfl) rfl rfl rfl dX7_put_101 ?_
              refine y_iload C dX7_put_104 rfl ?_
              have e0 := Option.some.inj h
              subst e0
              exact y_iret C E (Nat.zero_le _) (Nat.zero_le _) dX7_put_106
      · have h := itF c15 h
        refine y_iload_n C dX7_put_23 rfl ?_
        refine y_bipush C dX7_put_24 kb_60 ?_
        refine y_icmp_gt C dX7_put_26 (tgt := 60) rfl (fun c24 => ?_) (fun c24 => ?_)
        · have h := itT c24 h
          refine y_iload_n C dX7_put_60 rfl ?_
          refine y_iconst C dX7_put_61 kc_1 ?_
          refine y_icmp_ne C dX7_put_62 (tgt := 107) rfl (fun c25 => ?_) (fun c25 => ?_)
          · have h := itF c25 h
            refine y_bipush C dX7_put_107 kb_m7 ?_
            have e0 := Option.some.inj h
            subst e0
            exact y_iret C E (Nat.zero_le _) (Nat.zero_le _) dX7_put_109
          · have h := itT c25 h
            refine y_iload_n C dX7_put_65 rfl ?_
            refine y_iconst C dX7_put_66 kc_m1 ?_
            refine y_icmp_lt C dX7_put_67 (tgt := 107) rfl (fun c26 => ?_) (fun c26 => ?_)
            · have h := itT c26 h
              refine y_bipush C dX7_put_107 kb_m7 ?_
              have e0 := Option.some.inj h
              subst e0
              exact y_iret C E (Nat.zero_le _) (Nat.zero_le _) dX7_put_109
            · have h := itF c26 h
              refine y_iload_n C dX7_put_70 rfl ?_
              refine y_bipush C dX7_put_71 kb_12 ?_
              refine y_icmp_ge C dX7_put_73 (tgt := 107) rfl (fun c27 => ?_) (fun c27 => ?_)
              · have h := itT c27 h
                refine y_bipush C dX7_put_107 kb_m7 ?_
                have e0 := Option.some.inj h
                subst e0
                exact y_iret C E (Nat.zero_le _) (Nat.zero_le _) dX7_put_109
              · have h := itF c27 h
                refine y_aload_n C dX7_put_76 rfl ?_
                refine y_getr C fl_X7_27 g1 hq2 dX7_put_77 ?_
                obtain ⟨q28, hq28, h⟩ := ob h
                refine y_getr C fl_X7_138 g3 hq28 dX7_put_80 ?_
                refine y_iload_n C dX7_put_83 rfl ?_
                obtain ⟨g29, h⟩ := gd h
                refine y_iald C g29 dX7_put_84 ?_
                obtain ⟨v30, ev30, h⟩ := ob h
                have ev30 := Option.some.inj ev30
                refine y_istore C dX7_put_85 (by decide) (L' := [(4, .int v30), (0, .ref t), (1, .int x1), (2, .int x2), (3, .int x3)]) (by subst ev30; rfl) ?_
                refine y_aload_n C dX7_put_87 rfl ?_
                refine y_getr C fl_X7_27 g1 hq2 dX7_put_88 ?_
                refine y_getr C fl_X7_138 g3 hq28 dX7_put_91 ?_
                refine y_iload_n C dX7_put_94 rfl ?_
                refine y_iload_n C dX7_put_95 rfl ?_
                obtain ⟨M31, eM31, h⟩ := ob h
                have eM31 := Option.some.inj eM31
                refine y_iast C g29 dX7_put_96 eM31 ?_
                refine y_aload_n C dX7_put_97 rfl ?_
                refine y_getr C fl_X7_27 g1 hq2 dX7_put_98 ?_
                obtain ⟨r32, hr32, h⟩ := ob h
                refine y_cV C [] (m_X0_settle K M31 q2) hr32 g3 cw_X7_155 rfl (by decide) ⟨rfl, rfl⟩ ⟨Nat.zero_le _, Nat.zero_le _⟩ (Nat.le_of_ble_eq_true rfl) rfl rfl rfl dX7_put_101 ?_
                refine y_iload C dX7_put_104 rfl ?_
                have e0 := Option.some.inj h
                subst e0
                exact y_iret C E (Nat.zero_le _) (Nat.zero_le _) dX7_put_106
        · have h := itF c24 h
          refine y_aload_n C dX7_put_29 rfl ?_
          refine y_getr C fl_X7_27 g1 hq2 dX7_put_30 ?_
          obtain ⟨q33, hq33, h⟩ := ob h
          refine y_getr C fl_X7_135 g3 hq33 dX7_put_33 ?_
          refine y_iload_n C dX7_put_36 rfl ?_
          obtain ⟨g34, h⟩ := gd h
          refine y_iald C g34 dX7_put_37 ?_
          obtain ⟨v35, ev35, h⟩ := ob h
          have ev35 := Option.some.inj ev35
          refine y_istore C dX7_put_38 (by decide) (L' := [(4, .int v35), (0, .ref t), (1, .int x1), (2, .int x2), (3, .int x3)]) (by subst ev35; rfl) ?_
          refine y_aload_n C dX7_put_40 rfl ?_
          refine y_getr C fl_X7_27 g1 hq2 dX7_put_41 ?_
          refine y_getr C fl_X7_135 g3 hq33 dX7_put_44 ?_
          refine y_iload_n C dX7_put_47 rfl ?_
          refine y_iload_n C dX7_put_48 rfl ?_
          obtain ⟨M36, eM36, h⟩ := ob h
          have eM36 := Option.some.inj eM36
          refine y_iast C g34 dX7_put_49 eM36 ?_
          refine y_aload_n C dX7_put_50 rfl ?_
          refine y_getr C fl_X7_27 g1 hq2 dX7_put_51 ?_
          obtain ⟨r37, hr37, h⟩ := ob h
          refine y_cV C [] (m_X0_settle K M36 q2) hr37 g3 cw_X7_155 rfl (by decide) ⟨rfl, rfl⟩ ⟨Nat.zero_le _, Nat.zero_le _⟩ (Nat.le_of_ble_eq_true rfl) rfl rfl rfl dX7_put_54 ?_
          refine y_iload C dX7_put_57 rfl ?_
          have e0 := Option.some.inj h
          subst e0
          exact y_iret C E (Nat.zero_le _) (Nat.zero_le _) dX7_put_59
  · have h := itFb c5 h
    refine y_bipush C dX7_put_11 kb_m5 ?_
    have e0 := Option.some.inj h
    subst e0
    exact y_iret C E (Nat.zero_le _) (Nat.zero_le _) dX7_put_13
def b_X7_rings_4 (K : yK) (M : yM) (t : Nat) : Nat → Int32 → Int32 → Option Int32
  | 0, _, _ => none
  | n + 1, u4_1, u4_2 => (if gO K t 6 = true then (Option.bind (K.2.2 t 0) fun q2 => (if gO K q2 0 = true then (if (M q2 8) ≤ u4_2 then (some u4_1) else (Option.bind (b_X0_sendsToItself K M q2 u4_2) fun r5 => (Option.bind (if r5 = true then (Option.bind (some (u4_1 ||| ((1 : Int32) <<< (u4_2 &&& 31)))) fun v8 => (some v8)) else (some u4_1)) fun j7 => (Option.bind (some (u4_2 + (1 : Int32))) fun v9 => (b_X7_rings_4 K M t n j7 v9))))) else none)) else none)
set_option maxHeartbeats 4000000 in
set_option maxRecDepth 100000 in
theorem l_X7_rings_4 {X : yX} {K : yK} {M : yM} {t : Nat} (C : yCx X cX7_rings RX7 "rings" rm_X7_rings 3) : ∀ (n : Nat) (u4_1 : Int32) (u4_2 : Int32) (x : Int32), b_X7_rings_4 K M t n u4_1 u4_2 = some x → ∀ (hX : Y X K M 0 0 38 [(1, .int x)] []), Y X K M 0 0 4 [(0, .ref t), (1, .int u4_1), (2, .int u4_2)] [] := by
  intro n
  induction n with
  | zero =>
    intro u4_1 u4_2 x h
    exact nomatch (show (none : Option _) = some x from h)
  | succ n ih =>
    intro u4_1 u4_2 x h hX
    rw [b_X7_rings_4] at h
    refine y_iload_n C dX7_rings_4 rfl ?_
    refine y_aload_n C dX7_rings_5 rfl ?_
    obtain ⟨g1, h⟩ := gd h
    obtain ⟨q2, hq2, h⟩ := ob h
    refine y_getr C fl_X7_27 g1 hq2 dX7_rings_6 ?_
    obtain ⟨g3, h⟩ := gd h
    refine y_geti C fl_X7_55 g3 dX7_rings_9 ?_
    refine y_icmp_ge C dX7_rings_12 (tgt := 38) rfl (fun c4 => ?_) (fun c4 => ?_)
    · have h := itT c4 h
      have e0 := Option.some.inj h
      subst e0
      exact y_sel [1] rfl hX
    · have h := itF c4 h
      refine y_aload_n C dX7_rings_15 rfl ?_
      refine y_getr C fl_X7_27 g1 hq2 dX7_rings_16 ?_
      refine y_iload_n C dX7_rings_19 rfl ?_
      obtain ⟨r5, hr5, h⟩ := ob h
      refine y_cV C [.int u4_2] (m_X0_sendsToItself K M q2 u4_2) hr5 g3 cw_X7_208 rfl (by decide) ⟨rfl, rfl⟩ ⟨Nat.zero_le _, Nat.zero_le _⟩ (Nat.le_of_ble_eq_true rfl) rfl rfl rfl dX7_rings_20 ?_
      obtain ⟨j7, hj7, h⟩ := ob h
      have hJj7 : Y X K M 0 0 32 [(0, .ref t), (1, .int j7), (2, .int u4_2)] [] := by
        obtain ⟨v9, ev9, h⟩ := ob h
        have ev9 := Option.some.inj ev9
        refine y_iinc C dX7_rings_32 (by decide) rfl (v := v9) (by subst ev9; rfl) (L' := [(2, .int v9), (0, .ref t), (1, .int j7)]) rfl ?_
        refine y_goto C dX7_rings_35 (tgt := 4) rfl ?_
        exact y_sel [0, 1, 2] rfl (ih _ _ _  h hX)
      replace h := hj7
      refine y_ifeqB C dX7_rings_23 (tgt := 32) rfl (fun c6 => ?_) (fun c6 => ?_)
      · have h := itFb c6 h
        have e0 := Option.some.inj h
        subst e0
        exact y_sel [0, 1, 2] rfl hJj7
      · have h := itT c6 h
        refine y_iload_n C dX7_rings_26 rfl ?_
        refine y_iconst C dX7_rings_27 kc_1 ?_
        refine y_iload_n C dX7_rings_28 rfl ?_
        refine y_ishl C dX7_rings_29 ?_
        refine y_ior C dX7_rings_30 ?_
        obtain ⟨v8, ev8, h⟩ := ob h
        have ev8 := Option.some.inj ev8
        refine y_istore_n C dX7_rings_31 (by decide) (L' := [(1, .int v8), (0, .ref t), (2, .int u4_2)]) (by subst ev8; rfl) ?_
        have e0 := Option.some.inj h
        subst e0
        exact y_sel [0, 1, 2] rfl hJj7
set_option maxRecDepth 100000 in
def b_X7_rings (K : yK) (M : yM) (t : Nat) : Option Int32 := (Option.bind (b_X7_rings_4 K M t 1000 ((0 : Int32)) ((0 : Int32))) fun j1 => (some j1))
set_option maxHeartbeats 4000000 in
set_option maxRecDepth 100000 in
theorem m_X7_rings (K : yK) (M : yM) (t : Nat) : yMet yX7_rings cX7_rings 3 (Option.some Jvm.ClassFile.FieldType.int) rm_X7_rings K M [.ref t] (b_X7_rings K M t) (yFi K M) := by
  refine yM_intro (by decide) (Nat.le_of_ble_eq_true rfl) (fun X r h C E => ?_)
  replace C : yCx X cX7_rings RX7 "rings" rm_X7_rings 3 := C
  show Y X K M 0 0 0 [(0, .ref t)] []
  unfold b_X7_rings at h
  refine y_iconst C dX7_rings_0 kc_0 ?_
  refine y_istore_n C dX7_rings_1 (by decide) (L' := [(1, .int (0)), (0, .ref t)]) rfl ?_
  refine y_iconst C dX7_rings_2 kc_0 ?_
  refine y_istore_n C dX7_rings_3 (by decide) (L' := [(2, .int (0)), (1, .int (0)), (0, .ref t)]) rfl ?_
  obtain ⟨j1, hj1, h⟩ := ob h
  refine y_sel [0, 1, 2] rfl (l_X7_rings_4 C 1000 _ _ _ hj1 ?_)
  refine y_iload_n C dX7_rings_38 rfl ?_
  have e0 := Option.some.inj h
  subst e0
  exact y_iret C E (Nat.zero_le _) (Nat.zero_le _) dX7_rings_39
set_option maxRecDepth 100000 in
def b_X7_road (K : yK) (M : yM) (t : Nat) (x1 : Int32) (x2 : Int32) (x3 : Int32) : Option (Int32 × yM) := (if gO K t 6 = true then (Option.bind (K.2.2 t 0) fun q2 => (if gO K q2 0 = true then (Option.bind (b_X0_has K M q2 x1) fun r4 => (if r4 = true then (Option.bind (b_X7_isDays K M x2) fun r6 => (if r6 = true then (Option.bind (b_X7_isZeroOrOne K M x3) fun r8 => (if r8 = true then (Option.bind (b_X7_worthIf K M t ((0 : Int32)) ((0 : Int32)) ((0 : Int32)) x2) fun r10 => (Option.bind (b_X7_best K r10.2 t ((5 : Int32)) x1 ((-1 : Int32)) x2 ((1 : Int32)) r10.1) fun r11 => (if x3 = (1 : Int32) then (if (-1 : Int32) ≤ r11.1 then (Option.bind (b_X7_worthIf K r11.2 t ((5 : Int32)) x1 r11.1 x2) fun r16 => (some (r16.1, r16.2))) else (some (r10.1, r11.2))) else (if (-1 : Int32) ≤ r11.1 then (if 0 ≤ r11.1 then (some (r11.1, r11.2)) else (some ((-2 : Int32), r11.2))) else (some ((-1 : Int32), r11.2)))))) else (some ((-7 : Int32), M)))) else (some ((-7 : Int32), M)))) else (some ((-5 : Int32), M)))) else none)) else none)
set_option maxHeartbeats 4000000 in
set_option maxRecDepth 100000 in
theorem m_X7_road (K : yK) (M : yM) (t : Nat) (x1 : Int32) (x2 : Int32) (x3 : Int32) : yMet yX7_road cX7_road 6 (Option.some Jvm.ClassFile.FieldType.int) rm_X7_road K M [.ref t, .int x1, .int x2, .int x3] (b_X7_road K M t x1 x2 x3) (yGi K) := by
  refine yM_intro (by decide) (Nat.le_of_ble_eq_true rfl) (fun X r h C E => ?_)
  replace C : yCx X cX7_road RX7 "road" rm_X7_road 6 := C
  show Y X K M 0 0 0 [(0, .ref t), (1, .int x1), (2, .int x2), (3, .int x3)] []
  unfold b_X7_road at h
  refine y_aload_n C dX7_road_0 rfl ?_
  obtain ⟨g1, h⟩ := gd h
  obtain ⟨q2, hq2, h⟩ := ob h
  refine y_getr C fl_X7_27 g1 hq2 dX7_road_1 ?_
  refine y_iload_n C dX7_road_4 rfl ?_
  obtain ⟨g3, h⟩ := gd h
  obtain ⟨r4, hr4, h⟩ := ob h
  refine y_cV C [.int x1] (m_X0_has K M q2 x1) hr4 g3 cw_X7_118 rfl (by decide) ⟨rfl, rfl⟩ ⟨Nat.zero_le _, Nat.zero_le _⟩ (Nat.le_of_ble_eq_true rfl) rfl rfl rfl dX7_road_5 ?_
  refine y_ifneB C dX7_road_8 (tgt := 14) rfl (fun c5 => ?_) (fun c5 => ?_)
  · have h := itT c5 h
    refine y_iload_n C dX7_road_14 rfl ?_
    obtain ⟨r6, hr6, h⟩ := ob h
    refine y_cS C [.int x2] (m_X7_isDays K M x2) hr6 cw_X7_188 rfl (by decide) ⟨rfl, rfl⟩ ⟨Nat.zero_le _, Nat.zero_le _⟩ (Nat.le_of_ble_eq_true rfl) rfl rfl rfl dX7_road_15 ?_
    refine y_ifeqB C dX7_road_18 (tgt := 28) rfl (fun c7 => ?_) (fun c7 => ?_)
    · have h := itFb c7 h
      refine y_bipush C dX7_road_28 kb_m7 ?_
      have e0 := Option.some.inj h
      subst e0
      exact y_iret C E (Nat.zero_le _) (Nat.zero_le _) dX7_road_30
    · have h := itT c7 h
      refine y_iload_n C dX7_road_21 rfl ?_
      obtain ⟨r8, hr8, h⟩ := ob h
      refine y_cS C [.int x3] (m_X7_isZeroOrOne K M x3) hr8 cw_X7_179 rfl (by decide) ⟨rfl, rfl⟩ ⟨Nat.zero_le _, Nat.zero_le _⟩ (Nat.le_of_ble_eq_true rfl) rfl rfl rfl dX7_road_22 ?_
      refine y_ifneB C dX7_road_25 (tgt := 31) rfl (fun c9 => ?_) (fun c9 => ?_)
      · have h := itT c9 h
        refine y_aload_n C dX7_road_31 rfl ?_
        refine y_iconst C dX7_road_32 kc_0 ?_
        refine y_iconst C dX7_road_33 kc_0 ?_
        refine y_iconst C dX7_road_34 kc_0 ?_
        refine y_iload_n C dX7_road_35 rfl ?_
        obtain ⟨r10, hr10, h⟩ := ob h
        refine y_cV C [.int (0 : Int32), .int (0 : Int32), .int (0 : Int32), .int x2] (m_X7_worthIf K M t ((0 : Int32)) ((0 : Int32)) ((0 : Int32)) x2) hr10 g1 cw_X7_202 rfl (by decide) ⟨rfl, rfl⟩ ⟨Nat.zero_le _, Nat.zero_le _⟩ (Nat.le_of_ble_eq_true rfl) rfl rfl rfl dX7_road_36 ?_
        refine y_istore C dX7_road_39 (by decide) (L' := [(4, .int r10.1), (0, .ref t), (1, .int x1), (2, .int x2), (3, .int x3)]) rfl ?_
        refine y_aload_n C dX7_road_41 rfl ?_
        refine y_iconst C dX7_road_42 kc_5 ?_
        refine y_iload_n C dX7_road_43 rfl ?_
        refine y_iconst C dX7_road_44 kc_m1 ?_
        refine y_iload_n C dX7_road_45 rfl ?_
        refine y_iconst C dX7_road_46 kc_1 ?_
        refine y_iload C dX7_road_47 rfl ?_
        obtain ⟨r11, hr11, h⟩ := ob h
        refine y_cV C [.int (5 : Int32), .int x1, .int (-1 : Int32), .int x2, .int (1 : Int32), .int r10.1] (m_X7_best K r10.2 t ((5 : Int32)) x1 ((-1 : Int32)) x2 ((1 : Int32)) r10.1) hr11 g1 cw_X7_198 rfl (by decide) ⟨rfl, rfl⟩ ⟨Nat.zero_le _, Nat.zero_le _⟩ (Nat.le_of_ble_eq_true rfl) rfl rfl rfl dX7_road_49 ?_
        refine y_istore C dX7_road_52 (by decide) (L' := [(5, .int r11.1), (4, .int r10.1), (0, .ref t), (1, .int x1), (2, .int x2), (3, .int x3)]) rfl ?_
        refine y_iload_n C dX7_road_54 rfl ?_
        refine y_iconst C dX7_road_55 kc_1 ?_
        refine y_icmp_ne C dX7_road_56 (tgt := 80) rfl (fun c12 => ?_) (fun c12 => ?_)
        · have h := itF c12 h
          refine y_iload C dX7_road_80 rfl ?_
          refine y_iconst C dX7_road_82 kc_m1 ?_
          refine y_icmp_ge C dX7_road_83 (tgt := 88) rfl (fun c13 => ?_) (fun c13 => ?_)
          · have h := itT c13 h
            refine y_iload C dX7_road_88 rfl ?_
            refine y_if_ge C dX7_road_90 (tgt := 98) rfl (fun c14 => ?_) (fun c14 => ?_)
            · have h := itT c14 h
              refine y_iload C dX7_road_98 rfl ?_
              have e0 := Option.some.inj h
              subst e0
              exact y_iret C E (Nat.zero_le _) (Nat.zero_le _) dX7_road_100
            · have h := itF c14 h
              refine y_bipush C dX7_road_93 kb_m2 ?_
              refine y_goto C dX7_road_95 (tgt := 100) rfl ?_
              have e0 := Option.some.inj h
              subst e0
              exact y_iret C E (Nat.zero_le _) (Nat.zero_le _) dX7_road_100
          · have h := itF c13 h
            refine y_iconst C dX7_road_86 kc_m1 ?_
            have e0 := Option.some.inj h
            subst e0
            exact y_iret C E (Nat.zero_le _) (Nat.zero_le _) dX7_road_87
        · have h := itT c12 h
          refine y_iload C dX7_road_59 rfl ?_
          refine y_iconst C dX7_road_61 kc_m1 ?_
          refine y_icmp_ge C dX7_road_62 (tgt := 70) rfl (fun c15 => ?_) (fun c15 => ?_)
          · have h := itT c15 h
            refine y_aload_n C dX7_road_70 rfl ?_
            refine y_iconst C dX7_road_71 kc_5 ?_
            refine y_iload_n C dX7_road_72 rfl ?_
            refine y_iload C dX7_road_73 rfl ?_
            refine y_iload_n C dX7_road_75 rfl ?_
            obtain ⟨r16, hr16, h⟩ := ob h
            refine y_cV C [.int (5 : Int32), .int x1, .int r11.1, .int x2] (m_X7_worthIf K r11.2 t ((5 : Int32)) x1 r11.1 x2) hr16 g1 cw_X7_202 rfl (by decide) ⟨rfl, rfl⟩ ⟨Nat.zero_le _, Nat.zero_le _⟩ (Nat.le_of_ble_eq_true rfl) rfl rfl rfl dX7_road_76 ?_
            have e0 := Option.some.inj h
            subst e0
            exact y_iret C E (Nat.zero_le _) (Nat.zero_le _) dX7_road_79
          · have h := itF c15 h
            refine y_iload C dX7_road_65 rfl ?_
            refine y_goto C dX7_road_67 (tgt := 79) rfl ?_
            have e0 := Option.some.inj h
            subst e0
            exact y_iret C E (Nat.zero_le _) (Nat.zero_le _) dX7_road_79
      · have h := itFb c9 h
        refine y_bipush C dX7_road_28 kb_m7 ?_
        have e0 := Option.some.inj h
        subst e0
        exact y_iret C E (Nat.zero_le _) (Nat.zero_le _) dX7_road_30
  · have h := itFb c5 h
    refine y_bipush C dX7_road_11 kb_m5 ?_
    have e0 := Option.some.inj h
    subst e0
    exact y_iret C E (Nat.zero_le _) (Nat.zero_le _) dX7_road_13
set_option maxRecDepth 100000 in
def b_X7_run (K : yK) (M : yM) (t : Nat) (x1 : Int32) (x2 : Int32) : Option (Int32 × yM) := (Option.bind (b_X7_isDays K M x1) fun r1 => (if r1 = true then (if x2 < 0 then (some ((-2 : Int32), M)) else (if x2 ≤ (4 : Int32) then (if gO K t 6 = true then (Option.bind (b_X7_think K M t ((0 : Int32)) ((0 : Int32)) ((0 : Int32))) fun r6 => (Option.bind (b_X7_passDays K r6 t x1 x2 ((0 : Int32)) ((0 : Int32))) fun r7 => (some (r7.1, r7.2)))) else none) else (some ((-2 : Int32), M)))) else (some ((-2 : Int32), M))))
set_option maxHeartbeats 4000000 in
set_option maxRecDepth 100000 in
theorem m_X7_run (K : yK) (M : yM) (t : Nat) (x1 : Int32) (x2 : Int32) : yMet yX7_run cX7_run 3 (Option.some Jvm.ClassFile.FieldType.int) rm_X7_run K M [.ref t, .int x1, .int x2] (b_X7_run K M t x1 x2) (yGi K) := by
  refine yM_intro (by decide) (Nat.le_of_ble_eq_true rfl) (fun X r h C E => ?_)
  replace C : yCx X cX7_run RX7 "run" rm_X7_run 3 := C
  show Y X K M 0 0 0 [(0, .ref t), (1, .int x1), (2, .int x2)] []
  unfold b_X7_run at h
  refine y_iload_n C dX7_run_0 rfl ?_
  obtain ⟨r1, hr1, h⟩ := ob h
  refine y_cS C [.int x1] (m_X7_isDays K M x1) hr1 cw_X7_188 rfl (by decide) ⟨rfl, rfl⟩ ⟨Nat.zero_le _, Nat.zero_le _⟩ (Nat.le_of_ble_eq_true rfl) rfl rfl rfl dX7_run_1 ?_
  refine y_ifeqB C dX7_run_4 (tgt := 16) rfl (fun c2 => ?_) (fun c2 => ?_)
  · have h := itFb c2 h
    refine y_bipush C dX7_run_16 kb_m2 ?_
    have e0 := Option.some.inj h
    subst e0
    exact y_iret C E (Nat.zero_le _) (Nat.zero_le _) dX7_run_18
  · have h := itT c2 h
    refine y_iload_n C dX7_run_7 rfl ?_
    refine y_if_lt C dX7_run_8 (tgt := 16) rfl (fun c3 => ?_) (fun c3 => ?_)
    · have h := itT c3 h
      refine y_bipush C dX7_run_16 kb_m2 ?_
      have e0 := Option.some.inj h
      subst e0
      exact y_iret C E (Nat.zero_le _) (Nat.zero_le _) dX7_run_18
    · have h := itF c3 h
      refine y_iload_n C dX7_run_11 rfl ?_
      refine y_iconst C dX7_run_12 kc_4 ?_
      refine y_icmp_le C dX7_run_13 (tgt := 19) rfl (fun c4 => ?_) (fun c4 => ?_)
      · have h := itT c4 h
        refine y_aload_n C dX7_run_19 rfl ?_
        refine y_iconst C dX7_run_20 kc_0 ?_
        refine y_iconst C dX7_run_21 kc_0 ?_
        refine y_iconst C dX7_run_22 kc_0 ?_
        obtain ⟨g5, h⟩ := gd h
        obtain ⟨r6, hr6, h⟩ := ob h
        refine y_cV C [.int (0 : Int32), .int (0 : Int32), .int (0 : Int32)] (m_X7_think K M t ((0 : Int32)) ((0 : Int32)) ((0 : Int32))) hr6 g5 cw_X7_191 rfl (by decide) ⟨rfl, rfl⟩ ⟨Nat.zero_le _, Nat.zero_le _⟩ (Nat.le_of_ble_eq_true rfl) rfl rfl rfl dX7_run_23 ?_
        refine y_aload_n C dX7_run_26 rfl ?_
        refine y_iload_n C dX7_run_27 rfl ?_
        refine y_iload_n C dX7_run_28 rfl ?_
        refine y_iconst C dX7_run_29 kc_0 ?_
        refine y_iconst C dX7_run_30 kc_0 ?_
        obtain ⟨r7, hr7, h⟩ := ob h
        refine y_cV C [.int x1, .int x2, .int (0 : Int32), .int (0 : Int32)] (m_X7_passDays K r6 t x1 x2 ((0 : Int32)) ((0 : Int32))) hr7 g5 cw_X7_195 rfl (by decide) ⟨rfl, rfl⟩ ⟨Nat.zero_le _, Nat.zero_le _⟩ (Nat.le_of_ble_eq_true rfl) rfl rfl rfl dX7_run_31 ?_
        have e0 := Option.some.inj h
        subst e0
        exact y_iret C E (Nat.zero_le _) (Nat.zero_le _) dX7_run_34
      · have h := itF c4 h
        refine y_bipush C dX7_run_16 kb_m2 ?_
        have e0 := Option.some.inj h
        subst e0
        exact y_iret C E (Nat.zero_le _) (Nat.zero_le _) dX7_run_18
set_option maxRecDepth 100000 in
def b_X7_set (K : yK) (M : yM) (t : Nat) (x1 : Int32) (x2 : Int32) : Option (Int32 × yM) := (if x1 < 0 then (some ((-5 : Int32), M)) else (if x1 ≤ (3 : Int32) then (Option.bind (if x1 = (2 : Int32) then (some (-1 : Int32)) else (some (0 : Int32))) fun j4 => (if x2 < j4 then (some ((-7 : Int32), M)) else (if gO K t 6 = true then (Option.bind (b_X7_mostToSet K M t x1) fun r7 => (if x2 ≤ r7 then (Option.bind (b_X7_count K M t ((x1 + (2 : Int32)))) fun r9 => (if x1 = (0 : Int32) then (Option.bind (K.2.2 t 0) fun q13 => (if gO K q13 0 = true then (Option.bind (some (yS M q13 10 x2)) fun M15 => (some (r9, M15))) else none)) else (if x1 = (1 : Int32) then (Option.bind (K.2.2 t 0) fun q16 => (if gO K q16 0 = true then (Option.bind (some (yS M q16 11 x2)) fun M18 => (some (r9, M18))) else none)) else (if x1 = (2 : Int32) then (Option.bind (K.2.2 t 0) fun q19 => (if gO K q19 0 = true then (Option.bind (some (yS M q19 12 x2)) fun M21 => (some (r9, M21))) else none)) else (Option.bind (K.2.2 t 0) fun q22 => (if gO K q22 0 = true then (Option.bind (some (yS M q22 13 x2)) fun M24 => (some (r9, M24))) else none)))))) else (some ((-7 : Int32), M)))) else none))) else (some ((-5 : Int32), M))))
set_option maxHeartbeats 4000000 in
set_option maxRecDepth 100000 in
theorem m_X7_set (K : yK) (M : yM) (t : Nat) (x1 : Int32) (x2 : Int32) : yMet yX7_set cX7_set 4 (Option.some Jvm.ClassFile.FieldType.int) rm_X7_set K M [.ref t, .int x1, .int x2] (b_X7_set K M t x1 x2) (yGi K) := by
  refine yM_intro (by decide) (Nat.le_of_ble_eq_true rfl) (fun X r h C E => ?_)
  replace C : yCx X cX7_set RX7 "set" rm_X7_set 4 := C
  show Y X K M 0 0 0 [(0, .ref t), (1, .int x1), (2, .int x2)] []
  unfold b_X7_set at h
  refine y_iload_n C dX7_set_0 rfl ?_
  refine y_if_lt C dX7_set_1 (tgt := 9) rfl (fun c1 => ?_) (fun c1 => ?_)
  · have h := itT c1 h
    refine y_bipush C dX7_set_9 kb_m5 ?_
    have e0 := Option.some.inj h
    subst e0
    exact y_iret C E (Nat.zero_le _) (Nat.zero_le _) dX7_set_11
  · have h := itF c1 h
    refine y_iload_n C dX7_set_4 rfl ?_
    refine y_iconst C dX7_set_5 kc_3 ?_
    refine y_icmp_le C dX7_set_6 (tgt := 12) rfl (fun c2 => ?_) (fun c2 => ?_)
    · have h := itT c2 h
      refine y_iload_n C dX7_set_12 rfl ?_
      refine y_iload_n C dX7_set_13 rfl ?_
      refine y_iconst C dX7_set_14 kc_2 ?_
      obtain ⟨j4, hj4, h⟩ := ob h
      have hJj4 : Y X K M 0 0 23 [(0, .ref t), (1, .int x1), (2, .int x2)] [.int j4, .int x2] := by
        refine y_icmp_lt C dX7_set_23 (tgt := 35) rfl (fun c5 => ?_) (fun c5 => ?_)
        · have h := itT c5 h
          refine y_bipush C dX7_set_35 kb_m7 ?_
          have e0 := Option.some.inj h
          subst e0
          exact y_iret C E (Nat.zero_le _) (Nat.zero_le _) dX7_set_37
        · have h := itF c5 h
          refine y_iload_n C dX7_set_26 rfl ?_
          refine y_aload_n C dX7_set_27 rfl ?_
          refine y_iload_n C dX7_set_28 rfl ?_
          obtain ⟨g6, h⟩ := gd h
          obtain ⟨r7, hr7, h⟩ := ob h
          refine y_cV C [.int x1] (m_X7_mostToSet K M t x1) hr7 g6 cw_X7_79 rfl (by decide) ⟨rfl, rfl⟩ ⟨Nat.zero_le _, Nat.zero_le _⟩ (Nat.le_of_ble_eq_true rfl) rfl rfl rfl dX7_set_29 ?_
          refine y_icmp_le C dX7_set_32 (tgt := 38) rfl (fun c8 => ?_) (fun c8 => ?_)
          · have h := itT c8 h
            refine y_aload_n C dX7_set_38 rfl ?_
            refine y_iload_n C dX7_set_39 rfl ?_
            refine y_iconst C dX7_set_40 kc_2 ?_
            refine y_iadd C dX7_set_41 ?_
            obtain ⟨r9, hr9, h⟩ := ob h
            refine y_cV C [.int (x1 + (2 : Int32))] (m_X7_count K M t ((x1 + (2 : Int32)))) hr9 g6 cw_X7_83 rfl (by decide) ⟨rfl, rfl⟩ ⟨Nat.zero_le _, Nat.zero_le _⟩ (Nat.le_of_ble_eq_true rfl) rfl rfl rfl dX7_set_42 ?_
            refine y_istore_n C dX7_set_45 (by decide) (L' := [(3, .int r9), (0, .ref t), (1, .int x1), (2, .int x2)]) rfl ?_
            refine y_iload_n C dX7_set_46 rfl ?_
            rcases Classical.em (x1 = (0 : Int32)) with c10 | c10
            · have h := itT c10 h
              refine y_tabIn C dX7_set_47 (off := 25) (tgt := 72) (by rw [c10]; decide) (by rw [c10]; decide) (by rw [c10]; rfl) rfl ?_
              refine y_aload_n C dX7_set_72 rfl ?_
              obtain ⟨q13, hq13, h⟩ := ob h
              refine y_getr C fl_X7_27 g6 hq13 dX7_set_73 ?_
              refine y_iload_n C dX7_set_76 rfl ?_
              obtain ⟨g14, h⟩ := gd h
              obtain ⟨M15, eM15, h⟩ := ob h
              have eM15 := Option.some.inj eM15
              refine y_puti C fl_X7_61 rfl g14 rfl rfl dX7_set_77 eM15 ?_
              refine y_goto C dX7_set_80 (tgt := 113) rfl ?_
              refine y_iload_n C dX7_set_113 rfl ?_
              have e0 := Option.some.inj h
              subst e0
              exact y_iret C E (Nat.zero_le _) (Nat.zero_le _) dX7_set_114
            replace h := itF c10 h
            rcases Classical.em (x1 = (1 : Int32)) with c11 | c11
            · have h := itT c11 h
              refine y_tabIn C dX7_set_47 (off := 36) (tgt := 83) (by rw [c11]; decide) (by rw [c11]; decide) (by rw [c11]; rfl) rfl ?_
              refine y_aload_n C dX7_set_83 rfl ?_
              obtain ⟨q16, hq16, h⟩ := ob h
              refine y_getr C fl_X7_27 g6 hq16 dX7_set_84 ?_
              refine y_iload_n C dX7_set_87 rfl ?_
              obtain ⟨g17, h⟩ := gd h
              obtain ⟨M18, eM18, h⟩ := ob h
              have eM18 := Option.some.inj eM18
              refine y_puti C fl_X7_64 rfl g17 rfl rfl dX7_set_88 eM18 ?_
              refine y_goto C dX7_set_91 (tgt := 113) rfl ?_
              refine y_iload_n C dX7_set_113 rfl ?_
              have e0 := Option.some.inj h
              subst e0
              exact y_iret C E (Nat.zero_le _) (Nat.zero_le _) dX7_set_114
            replace h := itF c11 h
            rcases Classical.em (x1 = (2 : Int32)) with c12 | c12
            · have h := itT c12 h
              refine y_tabIn C dX7_set_47 (off := 47) (tgt := 94) (by rw [c12]; decide) (by rw [c12]; decide) (by rw [c12]; rfl) rfl ?_
              refine y_aload_n C dX7_set_94 rfl ?_
              obtain ⟨q19, hq19, h⟩ := ob h
              refine y_getr C fl_X7_27 g6 hq19 dX7_set_95 ?_
              refine y_iload_n C dX7_set_98 rfl ?_
              obtain ⟨g20, h⟩ := gd h
              obtain ⟨M21, eM21, h⟩ := ob h
              have eM21 := Option.some.inj eM21
              refine y_puti C fl_X7_67 rfl g20 rfl rfl dX7_set_99 eM21 ?_
              refine y_goto C dX7_set_102 (tgt := 113) rfl ?_
              refine y_iload_n C dX7_set_113 rfl ?_
              have e0 := Option.some.inj h
              subst e0
              exact y_iret C E (Nat.zero_le _) (Nat.zero_le _) dX7_set_114
            replace h := itF c12 h
            refine y_tabOut C dX7_set_47 (tgt := 105) (by have q0 : (x1).toInt ≠ 0 := yNe c10; have q1 : (x1).toInt ≠ 1 := yNe c11; have q2 : (x1).toInt ≠ 2 := yNe c12; omega) rfl ?_
            refine y_aload_n C dX7_set_105 rfl ?_
            obtain ⟨q22, hq22, h⟩ := ob h
            refine y_getr C fl_X7_27 g6 hq22 dX7_set_106 ?_
            refine y_iload_n C dX7_set_109 rfl ?_
            obtain ⟨g23, h⟩ := gd h
            obtain ⟨M24, eM24, h⟩ := ob h
            have eM24 := Option.some.inj eM24
            refine y_puti C fl_X7_70 rfl g23 rfl rfl dX7_set_110 eM24 ?_
            refine y_iload_n C dX7_set_113 rfl ?_
            have e0 := Option.some.inj h
            subst e0
            exact y_iret C E (Nat.zero_le _) (Nat.zero_le _) dX7_set_114
          · have h := itF c8 h
            refine y_bipush C dX7_set_35 kb_m7 ?_
            have e0 := Option.some.inj h
            subst e0
            exact y_iret C E (Nat.zero_le _) (Nat.zero_le _) dX7_set_37
      replace h := hj4
      refine y_icmp_ne C dX7_set_15 (tgt := 22) rfl (fun c3 => ?_) (fun c3 => ?_)
      · have h := itF c3 h
        refine y_iconst C dX7_set_22 kc_0 ?_
        have e0 := Option.some.inj h
        subst e0
        exact y_sel [0, 1, 2] rfl hJj4
      · have h := itT c3 h
        refine y_iconst C dX7_set_18 kc_m1 ?_
        refine y_goto C dX7_set_19 (tgt := 23) rfl ?_
        have e0 := Option.some.inj h
        subst e0
        exact y_sel [0, 1, 2] rfl hJj4
    · have h := itF c2 h
      refine y_bipush C dX7_set_9 kb_m5 ?_
      have e0 := Option.some.inj h
      subst e0
      exact y_iret C E (Nat.zero_le _) (Nat.zero_le _) dX7_set_11
set_option maxRecDepth 100000 in
def b_X7_sheet (K : yK) (M : yM) (t : Nat) (x1 : Int32) (x2 : Int32) (x3 : Int32) : Option (Int32 × yM) := (Option.bind (b_X7_isSheet K M x1) fun r1 => (if r1 = true then (if x2 < (-1 : Int32) then (some ((-2 : Int32), M)) else (if x2 ≤ (2 : Int32) then (if x2 = (-1 : Int32) then (if gO K t 6 = true then (Option.bind (K.2.2 t 4) fun q15 => (if gQ K q15 2 x1 = true then (Option.bind (K.2.2 q15 (x1).toNatClampNeg) fun q17 => (if gO K q17 4 = true then (Option.bind (b_X5_become K M q17 ((-1 : Int32)) ((0 : Int32))) fun r19 => (some ((1 : Int32), r19))) else none)) else none)) else none) else (if x3 ≤ (40 : Int32) then (if 0 ≤ x3 then (if gO K t 6 = true then (Option.bind (K.2.2 t 4) fun q9 => (if gQ K q9 2 x1 = true then (Option.bind (K.2.2 q9 (x1).toNatClampNeg) fun q11 => (if gO K q11 4 = true then (Option.bind (b_X5_become K M q11 x2 x3) fun r13 => (some ((1 : Int32), r13))) else none)) else none)) else none) else (some ((-14 : Int32), M))) else (some ((-2 : Int32), M)))) else (some ((-2 : Int32), M)))) else (some ((-2 : Int32), M))))
set_option maxHeartbeats 4000000 in
set_option maxRecDepth 100000 in
theorem m_X7_sheet (K : yK) (M : yM) (t : Nat) (x1 : Int32) (x2 : Int32) (x3 : Int32) : yMet yX7_sheet cX7_sheet 4 (Option.some Jvm.ClassFile.FieldType.int) rm_X7_sheet K M [.ref t, .int x1, .int x2, .int x3] (b_X7_sheet K M t x1 x2 x3) (yGi K) := by
  refine yM_intro (by decide) (Nat.le_of_ble_eq_true rfl) (fun X r h C E => ?_)
  replace C : yCx X cX7_sheet RX7 "sheet" rm_X7_sheet 4 := C
  show Y X K M 0 0 0 [(0, .ref t), (1, .int x1), (2, .int x2), (3, .int x3)] []
  unfold b_X7_sheet at h
  refine y_iload_n C dX7_sheet_0 rfl ?_
  obtain ⟨r1, hr1, h⟩ := ob h
  refine y_cS C [.int x1] (m_X7_isSheet K M x1) hr1 cw_X7_227 rfl (by decide) ⟨rfl, rfl⟩ ⟨Nat.zero_le _, Nat.zero_le _⟩ (Nat.le_of_ble_eq_true rfl) rfl rfl rfl dX7_sheet_1 ?_
  refine y_ifeqB C dX7_sheet_4 (tgt := 17) rfl (fun c2 => ?_) (fun c2 => ?_)
  · have h := itFb c2 h
    refine y_bipush C dX7_sheet_17 kb_m2 ?_
    have e0 := Option.some.inj h
    subst e0
    exact y_iret C E (Nat.zero_le _) (Nat.zero_le _) dX7_sheet_19
  · have h := itT c2 h
    refine y_iload_n C dX7_sheet_7 rfl ?_
    refine y_iconst C dX7_sheet_8 kc_m1 ?_
    refine y_icmp_lt C dX7_sheet_9 (tgt := 17) rfl (fun c3 => ?_) (fun c3 => ?_)
    · have h := itT c3 h
      refine y_bipush C dX7_sheet_17 kb_m2 ?_
      have e0 := Option.some.inj h
      subst e0
      exact y_iret C E (Nat.zero_le _) (Nat.zero_le _) dX7_sheet_19
    · have h := itF c3 h
      refine y_iload_n C dX7_sheet_12 rfl ?_
      refine y_iconst C dX7_sheet_13 kc_2 ?_
      refine y_icmp_le C dX7_sheet_14 (tgt := 20) rfl (fun c4 => ?_) (fun c4 => ?_)
      · have h := itT c4 h
        refine y_iload_n C dX7_sheet_20 rfl ?_
        refine y_iconst C dX7_sheet_21 kc_m1 ?_
        refine y_icmp_ne C dX7_sheet_22 (tgt := 38) rfl (fun c5 => ?_) (fun c5 => ?_)
        · have h := itF c5 h
          refine y_iload_n C dX7_sheet_38 rfl ?_
          refine y_bipush C dX7_sheet_39 kb_40 ?_
          refine y_icmp_le C dX7_sheet_41 (tgt := 47) rfl (fun c6 => ?_) (fun c6 => ?_)
          · have h := itT c6 h
            refine y_iload_n C dX7_sheet_47 rfl ?_
            refine y_if_ge C dX7_sheet_48 (tgt := 54) rfl (fun c7 => ?_) (fun c7 => ?_)
            · have h := itT c7 h
              refine y_aload_n C dX7_sheet_54 rfl ?_
              obtain ⟨g8, h⟩ := gd h
              obtain ⟨q9, hq9, h⟩ := ob h
              refine y_getr C fl_X7_46 g8 hq9 dX7_sheet_55 ?_
              refine y_iload_n C dX7_sheet_58 rfl ?_
              obtain ⟨g10, h⟩ := gd h
              obtain ⟨q11, hq11, h⟩ := ob h
              refine y_aald C (by decide) g10 hq11 dX7_sheet_59 ?_
              refine y_iload_n C dX7_sheet_60 rfl ?_
              refine y_iload_n C dX7_sheet_61 rfl ?_
              obtain ⟨g12, h⟩ := gd h
              obtain ⟨r13, hr13, h⟩ := ob h
              refine y_cV C [.int x2, .int x3] (m_X5_become K M q11 x2 x3) hr13 g12 cw_X7_230 rfl (by decide) ⟨rfl, rfl⟩ ⟨Nat.zero_le _, Nat.zero_le _⟩ (Nat.le_of_ble_eq_true rfl) rfl rfl rfl dX7_sheet_62 ?_
              refine y_iconst C dX7_sheet_65 kc_1 ?_
              have e0 := Option.some.inj h
              subst e0
              exact y_iret C E (Nat.zero_le _) (Nat.zero_le _) dX7_sheet_66
            · have h := itF c7 h
              refine y_bipush C dX7_sheet_51 kb_m14 ?_
              have e0 := Option.some.inj h
              subst e0
              exact y_iret C E (Nat.zero_le _) (Nat.zero_le _) dX7_sheet_53
          · have h := itF c6 h
            refine y_bipush C dX7_sheet_44 kb_m2 ?_
            have e0 := Option.some.inj h
            subst e0
            exact y_iret C E (Nat.zero_le _) (Nat.zero_le _) dX7_sheet_46
        · have h := itT c5 h
          refine y_aload_n C dX7_sheet_25 rfl ?_
          obtain ⟨g14, h⟩ := gd h
          obtain ⟨q15, hq15, h⟩ := ob h
          refine y_getr C fl_X7_46 g14 hq15 dX7_sheet_26 ?_
          refine y_iload_n C dX7_sheet_29 rfl ?_
          obtain ⟨g16, h⟩ := gd h
          obtain ⟨q17, hq17, h⟩ := ob h
          refine y_aald C (by decide) g16 hq17 dX7_sheet_30 ?_
          refine y_iconst C dX7_sheet_31 kc_m1 ?_
          refine y_iconst C dX7_sheet_32 kc_0 ?_
          obtain ⟨g18, h⟩ := gd h
          obtain ⟨r19, hr19, h⟩ := ob h
          refine y_cV C [.int (-1 : Int32), .int (0 : Int32)] (m_X5_become K M q17 ((-1 : Int32)) ((0 : Int32))) hr19 g18 cw_X7_230 rfl (by decide) ⟨rfl, rfl⟩ ⟨Nat.zero_le _, Nat.zero_le _⟩ (Nat.le_of_ble_eq_true rfl) rfl rfl rfl dX7_sheet_33 ?_
          refine y_iconst C dX7_sheet_36 kc_1 ?_
          have e0 := Option.some.inj h
          subst e0
          exact y_iret C E (Nat.zero_le _) (Nat.zero_le _) dX7_sheet_37
      · have h := itF c4 h
        refine y_bipush C dX7_sheet_17 kb_m2 ?_
        have e0 := Option.some.inj h
        subst e0
        exact y_iret C E (Nat.zero_le _) (Nat.zero_le _) dX7_sheet_19
set_option maxRecDepth 100000 in
def b_X7_skipped (K : yK) (M : yM) (t : Nat) (x1 : Int32) : Option (Int32 × yM) := (if gO K t 6 = true then (Option.bind (b_X7_refusalOf K M t x1) fun r2 => (if r2 = 0 then (Option.bind (K.2.2 t 4) fun q4 => (if gQ K q4 2 x1 = true then (Option.bind (K.2.2 q4 (x1).toNatClampNeg) fun q6 => (Option.bind (b_X7_fitting K M t q6 ((4 : Int32)) ((0 : Int32)) ((-1 : Int32)) ((0 : Int32))) fun r7 => (Option.bind (K.2.2 t 0) fun q8 => (if gO K q8 0 = true then (Option.bind (b_X7_fitting K r7.2 t q6 ((4 : Int32)) ((0 : Int32)) ((0 : Int32)) ((r7.2 q8 8))) fun r10 => (some (((r7.1 <<< ((12 : Int32) &&& 31)) ||| r10.1), r10.2))) else none)))) else none)) else (some (r2, M)))) else none)
set_option maxHeartbeats 4000000 in
set_option maxRecDepth 100000 in
theorem m_X7_skipped (K : yK) (M : yM) (t : Nat) (x1 : Int32) : yMet yX7_skipped cX7_skipped 4 (Option.some Jvm.ClassFile.FieldType.int) rm_X7_skipped K M [.ref t, .int x1] (b_X7_skipped K M t x1) (yGi K) := by
  refine yM_intro (by decide) (Nat.le_of_ble_eq_true rfl) (fun X r h C E => ?_)
  replace C : yCx X cX7_skipped RX7 "skipped" rm_X7_skipped 4 := C
  show Y X K M 0 0 0 [(0, .ref t), (1, .int x1)] []
  unfold b_X7_skipped at h
  refine y_aload_n C dX7_skipped_0 rfl ?_
  refine y_iload_n C dX7_skipped_1 rfl ?_
  obtain ⟨g1, h⟩ := gd h
  obtain ⟨r2, hr2, h⟩ := ob h
  refine y_cV C [.int x1] (m_X7_refusalOf K M t x1) hr2 g1 cw_X7_216 rfl (by decide) ⟨rfl, rfl⟩ ⟨Nat.zero_le _, Nat.zero_le _⟩ (Nat.le_of_ble_eq_true rfl) rfl rfl rfl dX7_skipped_2 ?_
  refine y_istore_n C dX7_skipped_5 (by decide) (L' := [(2, .int r2), (0, .ref t), (1, .int x1)]) rfl ?_
  refine y_iload_n C dX7_skipped_6 rfl ?_
  refine y_if_eq C dX7_skipped_7 (tgt := 12) rfl (fun c3 => ?_) (fun c3 => ?_)
  · have h := itT c3 h
    refine y_aload_n C dX7_skipped_12 rfl ?_
    refine y_aload_n C dX7_skipped_13 rfl ?_
    obtain ⟨q4, hq4, h⟩ := ob h
    refine y_getr C fl_X7_46 g1 hq4 dX7_skipped_14 ?_
    refine y_iload_n C dX7_skipped_17 rfl ?_
    obtain ⟨g5, h⟩ := gd h
    obtain ⟨q6, hq6, h⟩ := ob h
    refine y_aald C (by decide) g5 hq6 dX7_skipped_18 ?_
    refine y_iconst C dX7_skipped_19 kc_4 ?_
    refine y_iconst C dX7_skipped_20 kc_0 ?_
    refine y_iconst C dX7_skipped_21 kc_m1 ?_
    refine y_iconst C dX7_skipped_22 kc_0 ?_
    obtain ⟨r7, hr7, h⟩ := ob h
    refine y_cV C [.ref q6, .int (4 : Int32), .int (0 : Int32), .int (-1 : Int32), .int (0 : Int32)] (m_X7_fitting K M t q6 ((4 : Int32)) ((0 : Int32)) ((-1 : Int32)) ((0 : Int32))) hr7 g1 cw_X7_223 rfl (by decide) ⟨rfl, rfl⟩ ⟨Nat.zero_le _, Nat.zero_le _⟩ (Nat.le_of_ble_eq_true rfl) rfl rfl rfl dX7_skipped_23 ?_
    refine y_istore_n C dX7_skipped_26 (by decide) (L' := [(3, .int r7.1), (2, .int r2), (0, .ref t), (1, .int x1)]) rfl ?_
    refine y_iload_n C dX7_skipped_27 rfl ?_
    refine y_bipush C dX7_skipped_28 kb_12 ?_
    refine y_ishl C dX7_skipped_30 ?_
    refine y_aload_n C dX7_skipped_31 rfl ?_
    refine y_aload_n C dX7_skipped_32 rfl ?_
    refine y_getr C fl_X7_46 g1 hq4 dX7_skipped_33 ?_
    refine y_iload_n C dX7_skipped_36 rfl ?_
    refine y_aald C (by decide) g5 hq6 dX7_skipped_37 ?_
    refine y_iconst C dX7_skipped_38 kc_4 ?_
    refine y_iconst C dX7_skipped_39 kc_0 ?_
    refine y_iconst C dX7_skipped_40 kc_0 ?_
    refine y_aload_n C dX7_skipped_41 rfl ?_
    obtain ⟨q8, hq8, h⟩ := ob h
    refine y_getr C fl_X7_27 g1 hq8 dX7_skipped_42 ?_
    obtain ⟨g9, h⟩ := gd h
    refine y_geti C fl_X7_55 g9 dX7_skipped_45 ?_
    obtain ⟨r10, hr10, h⟩ := ob h
    refine y_cV C [.ref q6, .int (4 : Int32), .int (0 : Int32), .int (0 : Int32), .int (r7.2 q8 8)] (m_X7_fitting K r7.2 t q6 ((4 : Int32)) ((0 : Int32)) ((0 : Int32)) ((r7.2 q8 8))) hr10 g1 cw_X7_223 rfl (by decide) ⟨rfl, rfl⟩ ⟨Nat.zero_le _, Nat.zero_le _⟩ (Nat.le_of_ble_eq_true rfl) rfl rfl rfl dX7_skipped_48 ?_
    refine y_ior C dX7_skipped_51 ?_
    have e0 := Option.some.inj h
    subst e0
    exact y_iret C E (Nat.zero_le _) (Nat.zero_le _) dX7_skipped_52
  · have h := itF c3 h
    refine y_iload_n C dX7_skipped_10 rfl ?_
    have e0 := Option.some.inj h
    subst e0
    exact y_iret C E (Nat.zero_le _) (Nat.zero_le _) dX7_skipped_11
set_option maxRecDepth 100000 in
def b_X7_soup (K : yK) (M : yM) (t : Nat) (x1 : Int32) (x2 : Int32) : Option (Int32 × yM) := (Option.bind (b_X7_isDays K M x1) fun r1 => (if r1 = true then (Option.bind (b_X7_isZeroOrOne K M x2) fun r3 => (if r3 = true then (if gO K t 6 = true then (Option.bind (b_X7_worthIf K M t ((0 : Int32)) ((0 : Int32)) ((0 : Int32)) x1) fun r6 => (Option.bind (b_X7_best K r6.2 t ((3 : Int32)) ((0 : Int32)) ((0 : Int32)) x1 ((-1 : Int32)) r6.1) fun r7 => (if x2 = 0 then (some (r7.1, r7.2)) else (if 0 ≤ r7.1 then (Option.bind (b_X7_worthIf K r7.2 t ((3 : Int32)) ((0 : Int32)) r7.1 x1) fun r10 => (some (r10.1, r10.2))) else (some (r6.1, r7.2)))))) else none) else (some ((-2 : Int32), M)))) else (some ((-2 : Int32), M))))
set_option maxHeartbeats 4000000 in
set_option maxRecDepth 100000 in
theorem m_X7_soup (K : yK) (M : yM) (t : Nat) (x1 : Int32) (x2 : Int32) : yMet yX7_soup cX7_soup 5 (Option.some Jvm.ClassFile.FieldType.int) rm_X7_soup K M [.ref t, .int x1, .int x2] (b_X7_soup K M t x1 x2) (yGi K) := by
  refine yM_intro (by decide) (Nat.le_of_ble_eq_true rfl) (fun X r h C E => ?_)
  replace C : yCx X cX7_soup RX7 "soup" rm_X7_soup 5 := C
  show Y X K M 0 0 0 [(0, .ref t), (1, .int x1), (2, .int x2)] []
  unfold b_X7_soup at h
  refine y_iload_n C dX7_soup_0 rfl ?_
  obtain ⟨r1, hr1, h⟩ := ob h
  refine y_cS C [.int x1] (m_X7_isDays K M x1) hr1 cw_X7_188 rfl (by decide) ⟨rfl, rfl⟩ ⟨Nat.zero_le _, Nat.zero_le _⟩ (Nat.le_of_ble_eq_true rfl) rfl rfl rfl dX7_soup_1 ?_
  refine y_ifeqB C dX7_soup_4 (tgt := 14) rfl (fun c2 => ?_) (fun c2 => ?_)
  · have h := itFb c2 h
    refine y_bipush C dX7_soup_14 kb_m2 ?_
    have e0 := Option.some.inj h
    subst e0
    exact y_iret C E (Nat.zero_le _) (Nat.zero_le _) dX7_soup_16
  · have h := itT c2 h
    refine y_iload_n C dX7_soup_7 rfl ?_
    obtain ⟨r3, hr3, h⟩ := ob h
    refine y_cS C [.int x2] (m_X7_isZeroOrOne K M x2) hr3 cw_X7_179 rfl (by decide) ⟨rfl, rfl⟩ ⟨Nat.zero_le _, Nat.zero_le _⟩ (Nat.le_of_ble_eq_true rfl) rfl rfl rfl dX7_soup_8 ?_
    refine y_ifneB C dX7_soup_11 (tgt := 17) rfl (fun c4 => ?_) (fun c4 => ?_)
    · have h := itT c4 h
      refine y_aload_n C dX7_soup_17 rfl ?_
      refine y_iconst C dX7_soup_18 kc_0 ?_
      refine y_iconst C dX7_soup_19 kc_0 ?_
      refine y_iconst C dX7_soup_20 kc_0 ?_
      refine y_iload_n C dX7_soup_21 rfl ?_
      obtain ⟨g5, h⟩ := gd h
      obtain ⟨r6, hr6, h⟩ := ob h
      refine y_cV C [.int (0 : Int32), .int (0 : Int32), .int (0 : Int32), .int x1] (m_X7_worthIf K M t ((0 : Int32)) ((0 : Int32)) ((0 : Int32)) x1) hr6 g5 cw_X7_202 rfl (by decide) ⟨rfl, rfl⟩ ⟨Nat.zero_le _, Nat.zero_le _⟩ (Nat.le_of_ble_eq_true rfl) rfl rfl rfl dX7_soup_22 ?_
      refine y_istore_n C dX7_soup_25 (by decide) (L' := [(3, .int r6.1), (0, .ref t), (1, .int x1), (2, .int x2)]) rfl ?_
      refine y_aload_n C dX7_soup_26 rfl ?_
      refine y_iconst C dX7_soup_27 kc_3 ?_
      refine y_iconst C dX7_soup_28 kc_0 ?_
      refine y_iconst C dX7_soup_29 kc_0 ?_
      refine y_iload_n C dX7_soup_30 rfl ?_
      refine y_iconst C dX7_soup_31 kc_m1 ?_
      refine y_iload_n C dX7_soup_32 rfl ?_
      obtain ⟨r7, hr7, h⟩ := ob h
      refine y_cV C [.int (3 : Int32), .int (0 : Int32), .int (0 : Int32), .int x1, .int (-1 : Int32), .int r6.1] (m_X7_best K r6.2 t ((3 : Int32)) ((0 : Int32)) ((0 : Int32)) x1 ((-1 : Int32)) r6.1) hr7 g5 cw_X7_198 rfl (by decide) ⟨rfl, rfl⟩ ⟨Nat.zero_le _, Nat.zero_le _⟩ (Nat.le_of_ble_eq_true rfl) rfl rfl rfl dX7_soup_33 ?_
      refine y_istore C dX7_soup_36 (by decide) (L' := [(4, .int r7.1), (3, .int r6.1), (0, .ref t), (1, .int x1), (2, .int x2)]) rfl ?_
      refine y_iload_n C dX7_soup_38 rfl ?_
      refine y_if_ne C dX7_soup_39 (tgt := 45) rfl (fun c8 => ?_) (fun c8 => ?_)
      · have h := itF c8 h
        refine y_iload C dX7_soup_45 rfl ?_
        refine y_if_ge C dX7_soup_47 (tgt := 54) rfl (fun c9 => ?_) (fun c9 => ?_)
        · have h := itT c9 h
          refine y_aload_n C dX7_soup_54 rfl ?_
          refine y_iconst C dX7_soup_55 kc_3 ?_
          refine y_iconst C dX7_soup_56 kc_0 ?_
          refine y_iload C dX7_soup_57 rfl ?_
          refine y_iload_n C dX7_soup_59 rfl ?_
          obtain ⟨r10, hr10, h⟩ := ob h
          refine y_cV C [.int (3 : Int32), .int (0 : Int32), .int r7.1, .int x1] (m_X7_worthIf K r7.2 t ((3 : Int32)) ((0 : Int32)) r7.1 x1) hr10 g5 cw_X7_202 rfl (by decide) ⟨rfl, rfl⟩ ⟨Nat.zero_le _, Nat.zero_le _⟩ (Nat.le_of_ble_eq_true rfl) rfl rfl rfl dX7_soup_60 ?_
          have e0 := Option.some.inj h
          subst e0
          exact y_iret C E (Nat.zero_le _) (Nat.zero_le _) dX7_soup_63
        · have h := itF c9 h
          refine y_iload_n C dX7_soup_50 rfl ?_
          refine y_goto C dX7_soup_51 (tgt := 63) rfl ?_
          have e0 := Option.some.inj h
          subst e0
          exact y_iret C E (Nat.zero_le _) (Nat.zero_le _) dX7_soup_63
      · have h := itT c8 h
        refine y_iload C dX7_soup_42 rfl ?_
        have e0 := Option.some.inj h
        subst e0
        exact y_iret C E (Nat.zero_le _) (Nat.zero_le _) dX7_soup_44
    · have h := itFb c4 h
      refine y_bipush C dX7_soup_14 kb_m2 ?_
      have e0 := Option.some.inj h
      subst e0
      exact y_iret C E (Nat.zero_le _) (Nat.zero_le _) dX7_soup_16
set_option maxRecDepth 100000 in
def b_X7_taken (K : yK) (M : yM) (t : Nat) (x1 : Int32) (x2 : Int32) : Option Int64 := (if x2 < 0 then (some (-2 : Int64)) else (if x2 ≤ (6 : Int32) then (if x1 < 0 then (some (-12 : Int64)) else (if x1 < (18 : Int32) then (Option.bind (if x1 < (12 : Int32) then (some false) else (some true)) fun j6 => (if j6 = true then (if gO K t 6 = true then (Option.bind (K.2.2 t 0) fun q22 => (if gO K q22 0 = true then (Option.bind (b_X0_hasDeed K M q22 ((x1 - (12 : Int32)))) fun r24 => (if r24 = true then (if j6 = true then (if x2 = (6 : Int32) then (Option.bind (K.2.2 q22 7) fun q32 => (if gA K q32 (x1 - (12 : Int32)) = true then (some ((M q32 ((x1 - (12 : Int32))).toNatClampNeg)).toInt64) else none)) else (some (-13 : Int64))) else (Option.bind (K.2.2 q22 0) fun q27 => (if gA K q27 x1 = true then (Option.bind (b_X2_isA K M ((M q27 (x1).toNatClampNeg)) x2) fun r29 => (if r29 = true then (some (x1).toInt64) else (some (-13 : Int64)))) else none))) else (some (-11 : Int64)))) else none)) else none) else (if gO K t 6 = true then (Option.bind (K.2.2 t 0) fun q9 => (if gO K q9 0 = true then (Option.bind (b_X0_has K M q9 x1) fun r11 => (if r11 = true then (if j6 = true then (if x2 = (6 : Int32) then (Option.bind (K.2.2 q9 7) fun q19 => (if gA K q19 (x1 - (12 : Int32)) = true then (some ((M q19 ((x1 - (12 : Int32))).toNatClampNeg)).toInt64) else none)) else (some (-13 : Int64))) else (Option.bind (K.2.2 q9 0) fun q14 => (if gA K q14 x1 = true then (Option.bind (b_X2_isA K M ((M q14 (x1).toNatClampNeg)) x2) fun r16 => (if r16 = true then (some (x1).toInt64) else (some (-13 : Int64)))) else none))) else (some (-11 : Int64)))) else none)) else none))) else (some (-12 : Int64)))) else (some (-2 : Int64))))
set_option maxHeartbeats 4000000 in
set_option maxRecDepth 100000 in
theorem m_X7_taken (K : yK) (M : yM) (t : Nat) (x1 : Int32) (x2 : Int32) : yMet yX7_taken cX7_taken 4 (Option.some Jvm.ClassFile.FieldType.long) rm_X7_taken K M [.ref t, .int x1, .int x2] (b_X7_taken K M t x1 x2) (yFl K M) := by
  refine yM_intro (by decide) (Nat.le_of_ble_eq_true rfl) (fun X r h C E => ?_)
  replace C : yCx X cX7_taken RX7 "taken" rm_X7_taken 4 := C
  show Y X K M 0 0 0 [(0, .ref t), (1, .int x1), (2, .int x2)] []
  unfold b_X7_taken at h
  refine y_iload_n C dX7_taken_0 rfl ?_
  refine y_if_lt C dX7_taken_1 (tgt := 10) rfl (fun c1 => ?_) (fun c1 => ?_)
  · have h := itT c1 h
    refine y_ldc2 C wd_811 dX7_taken_10 ?_
    have e0 := Option.some.inj h
    subst e0
    exact y_lret C E (Nat.zero_le _) (Nat.zero_le _) dX7_taken_13
  · have h := itF c1 h
    refine y_iload_n C dX7_taken_4 rfl ?_
    refine y_bipush C dX7_taken_5 kb_6 ?_
    refine y_icmp_le C dX7_taken_7 (tgt := 14) rfl (fun c2 => ?_) (fun c2 => ?_)
    · have h := itT c2 h
      refine y_iload_n C dX7_taken_14 rfl ?_
      refine y_if_lt C dX7_taken_15 (tgt := 24) rfl (fun c3 => ?_) (fun c3 => ?_)
      · have h := itT c3 h
        refine y_ldc2 C wd_812 dX7_taken_24 ?_
        have e0 := Option.some.inj h
        subst e0
        exact y_lret C E (Nat.zero_le _) (Nat.zero_le _) dX7_taken_27
      · have h := itF c3 h
        refine y_iload_n C dX7_taken_18 rfl ?_
        refine y_bipush C dX7_taken_19 kb_18 ?_
        refine y_icmp_lt C dX7_taken_21 (tgt := 28) rfl (fun c4 => ?_) (fun c4 => ?_)
        · have h := itT c4 h
          refine y_iload_n C dX7_taken_28 rfl ?_
          refine y_bipush C dX7_taken_29 kb_12 ?_
          obtain ⟨j6, hj6, h⟩ := ob h
          have hJj6 : Y X K M 0 0 39 [(0, .ref t), (1, .int x1), (2, .int x2)] [.int (bI j6)] := by
            refine y_istore_n C dX7_taken_39 (by decide) (L' := [(3, .int (bI j6)), (0, .ref t), (1, .int x1), (2, .int x2)]) rfl ?_
            refine y_iload_n C dX7_taken_40 rfl ?_
            refine y_ifeqB C dX7_taken_41 (tgt := 61) rfl (fun c7 => ?_) (fun c7 => ?_)
            · have h := itFb c7 h
              refine y_aload_n C dX7_taken_61 rfl ?_
              obtain ⟨g8, h⟩ := gd h
              obtain ⟨q9, hq9, h⟩ := ob h
              refine y_getr C fl_X7_27 g8 hq9 dX7_taken_62 ?_
              refine y_iload_n C dX7_taken_65 rfl ?_
              obtain ⟨g10, h⟩ := gd h
              obtain ⟨r11, hr11, h⟩ := ob h
              refine y_cV C [.int x1] (m_X0_has K M q9 x1) hr11 g10 cw_X7_118 rfl (by decide) ⟨rfl, rfl⟩ ⟨Nat.zero_le _, Nat.zero_le _⟩ (Nat.le_of_ble_eq_true rfl) rfl rfl rfl dX7_taken_66 ?_
              refine y_ifneB C dX7_taken_69 (tgt := 76) rfl (fun c12 => ?_) (fun c12 => ?_)
              · have h := itT c12 h
                refine y_iload_n C dX7_taken_76 rfl ?_
                refine y_ifeqB C dX7_taken_77 (tgt := 106) rfl (fun c13 => ?_) (fun c13 => ?_)
                · have h := itFb c13 h
                  refine y_aload_n C dX7_taken_106 rfl ?_
                  refine y_getr C fl_X7_27 g8 hq9 dX7_taken_107 ?_
                  obtain ⟨q14, hq14, h⟩ := ob h
                  refine y_getr C fl_X7_129 g10 hq14 dX7_taken_110 ?_
                  refine y_iload_n C dX7_taken_113 rfl ?_
                  obtain ⟨g15, h⟩ := gd h
                  refine y_iald C g15 dX7_taken_114 ?_
                  refine y_iload_n C dX7_taken_115 rfl ?_
                  obtain ⟨r16, hr16, h⟩ := ob h
                  refine y_cS C [.int (M q14 (x1).toNatClampNeg), .int x2] (m_X2_isA K M ((M q14 (x1).toNatClampNeg)) x2) hr16 cw_X7_287 rfl (by decide) ⟨rfl, rfl⟩ ⟨Nat.zero_le _, Nat.zero_le _⟩ (Nat.le_of_ble_eq_true rfl) rfl rfl rfl dX7_taken_116 ?_
                  refine y_ifeqB C dX7_taken_119 (tgt := 127) rfl (fun c17 => ?_) (fun c17 => ?_)
                  · have h := itFb c17 h
                    refine y_ldc2 C wd_814 dX7_taken_127 ?_
                    have e0 := Option.some.inj h
                    subst e0
                    exact y_lret C E (Nat.zero_le _) (Nat.zero_le _) dX7_taken_130
                  · have h := itT c17 h
                    refine y_iload_n C dX7_taken_122 rfl ?_
                    refine y_i2l C dX7_taken_123 rfl ?_
                    refine y_goto C dX7_taken_124 (tgt := 130) rfl ?_
                    have e0 := Option.some.inj h
                    subst e0
                    exact y_lret C E (Nat.zero_le _) (Nat.zero_le _) dX7_taken_130
                · have h := itT c13 h
                  refine y_iload_n C dX7_taken_80 rfl ?_
                  refine y_bipush C dX7_taken_81 kb_6 ?_
                  refine y_icmp_ne C dX7_taken_83 (tgt := 102) rfl (fun c18 => ?_) (fun c18 => ?_)
                  · have h := itF c18 h
                    refine y_ldc2 C wd_814 dX7_taken_102 ?_
                    have e0 := Option.some.inj h
                    subst e0
                    exact y_lret C E (Nat.zero_le _) (Nat.zero_le _) dX7_taken_105
                  · have h := itT c18 h
                    refine y_aload_n C dX7_taken_86 rfl ?_
                    refine y_getr C fl_X7_27 g8 hq9 dX7_taken_87 ?_
                    obtain ⟨q19, hq19, h⟩ := ob h
                    refine y_getr C fl_X7_176 g10 hq19 dX7_taken_90 ?_
                    refine y_iload_n C dX7_taken_93 rfl ?_
                    refine y_bipush C dX7_taken_94 kb_12 ?_
                    refine y_isub C dX7_taken_96 ?_
                    obtain ⟨g20, h⟩ := gd h
                    refine y_iald C g20 dX7_taken_97 ?_
                    refine y_i2l C dX7_taken_98 rfl ?_
                    refine y_goto C dX7_taken_99 (tgt := 105) rfl ?_
                    have e0 := Option.some.inj h
                    subst e0
                    exact y_lret C E (Nat.zero_le _) (Nat.zero_le _) dX7_taken_105
              · have h := itFb c12 h
                refine y_ldc2 C wd_813 dX7_taken_72 ?_
                have e0 := Option.some.inj h
                subst e0
                exact y_lret C E (Nat.zero_le _) (Nat.zero_le _) dX7_taken_75
            · have h := itT c7 h
              refine y_aload_n C dX7_taken_44 rfl ?_
              obtain ⟨g21, h⟩ := gd h
              obtain ⟨q22, hq22, h⟩ := ob h
              refine y_getr C fl_X7_27 g21 hq22 dX7_taken_45 ?_
              refine y_iload_n C dX7_taken_48 rfl ?_
              refine y_bipush C dX7_taken_49 kb_12 ?_
              refine y_isub C dX7_taken_51 ?_
              obtain ⟨g23, h⟩ := gd h
              obtain ⟨r24, hr24, h⟩ := ob h
              refine y_cV C [.int (x1 - (12 : Int32))] (m_X0_hasDeed K M q22 ((x1 - (12 : Int32)))) hr24 g23 cw_X7_173 rfl (by decide) ⟨rfl, rfl⟩ ⟨Nat.zero_le _, Nat.zero_le _⟩ (Nat.le_of_ble_eq_true rfl) rfl rfl rfl dX7_taken_52 ?_
              refine y_ifneB C dX7_taken_55 (tgt := 76) rfl (fun c25 => ?_) (fun c25 => ?_)
              · have h := itT c25 h
                refine y_iload_n C dX7_taken_76 rfl ?_
                refine y_ifeqB C dX7_taken_77 (tgt := 106) rfl (fun c26 => ?_) (fun c26 => ?_)
                · have h := itFb c26 h
                  refine y_aload_n C dX7_taken_106 rfl ?_
                  refine y_getr C fl_X7_27 g21 hq22 dX7_taken_107 ?_
                  obtain ⟨q27, hq27, h⟩ := ob h
                  refine y_getr C fl_X7_129 g23 hq27 dX7_taken_110 ?_
                  refine y_iload_n C dX7_taken_113 rfl ?_
                  obtain ⟨g28, h⟩ := gd h
                  refine y_iald C g28 dX7_taken_114 ?_
                  refine y_iload_n C dX7_taken_115 rfl ?_
                  obtain ⟨r29, hr29, h⟩ := ob h
                  refine y_cS C [.int (M q27 (x1).toNatClampNeg), .int x2] (m_X2_isA K M ((M q27 (x1).toNatClampNeg)) x2) hr29 cw_X7_287 rfl (by decide) ⟨rfl, rfl⟩ ⟨Nat.zero_le _, Nat.zero_le _⟩ (Nat.le_of_ble_eq_true rfl) rfl rfl rfl dX7_taken_116 ?_
                  refine y_ifeqB C dX7_taken_119 (tgt := 127) rfl (fun c30 => ?_) (fun c30 => ?_)
                  · have h := itFb c30 h
                    refine y_ldc2 C wd_814 dX7_taken_127 ?_
                    have e0 := Option.some.inj h
                    subst e0
                    exact y_lret C E (Nat.zero_le _) (Nat.zero_le _) dX7_taken_130
                  · have h := itT c30 h
                    refine y_iload_n C dX7_taken_122 rfl ?_
                    refine y_i2l C dX7_taken_123 rfl ?_
                    refine y_goto C dX7_taken_124 (tgt := 130) rfl ?_
                    have e0 := Option.some.inj h
                    subst e0
                    exact y_lret C E (Nat.zero_le _) (Nat.zero_le _) dX7_taken_130
                · have h := itT c26 h
                  refine y_iload_n C dX7_taken_80 rfl ?_
                  refine y_bipush C dX7_taken_81 kb_6 ?_
                  refine y_icmp_ne C dX7_taken_83 (tgt := 102) rfl (fun c31 => ?_) (fun c31 => ?_)
                  · have h := itF c31 h
                    refine y_ldc2 C wd_814 dX7_taken_102 ?_
                    have e0 := Option.some.inj h
                    subst e0
                    exact y_lret C E (Nat.zero_le _) (Nat.zero_le _) dX7_taken_105
                  · have h := itT c31 h
                    refine y_aload_n C dX7_taken_86 rfl ?_
                    refine y_getr C fl_X7_27 g21 hq22 dX7_taken_87 ?_
                    obtain ⟨q32, hq32, h⟩ := ob h
                    refine y_getr C fl_X7_176 g23 hq32 dX7_taken_90 ?_
                    refine y_iload_n C dX7_taken_93 rfl ?_
                    refine y_bipush C dX7_taken_94 kb_12 ?_
                    refine y_isub C dX7_taken_96 ?_
                    obtain ⟨g33, h⟩ := gd h
                    refine y_iald C g33 dX7_taken_97 ?_
                    refine y_i2l C dX7_taken_98 rfl ?_
                    refine y_goto C dX7_taken_99 (tgt := 105) rfl ?_
                    have e0 := Option.some.inj h
                    subst e0
                    exact y_lret C E (Nat.zero_le _) (Nat.zero_le _) dX7_taken_105
              · have h := itFb c25 h
                refine y_goto C dX7_taken_58 (tgt := 72) rfl ?_
                refine y_ldc2 C wd_813 dX7_taken_72 ?_
                have e0 := Option.some.inj h
                subst e0
                exact y_lret C E (Nat.zero_le _) (Nat.zero_le _) dX7_taken_75
          replace h := hj6
          refine y_icmp_lt C dX7_taken_31 (tgt := 38) rfl (fun c5 => ?_) (fun c5 => ?_)
          · have h := itT c5 h
            refine y_iconst C dX7_taken_38 kc_0 ?_
            have e0 := Option.some.inj h
            subst e0
            exact y_sel [0, 1, 2] rfl hJj6
          · have h := itF c5 h
            refine y_iconst C dX7_taken_34 kc_1 ?_
            refine y_goto C dX7_taken_35 (tgt := 39) rfl ?_
            have e0 := Option.some.inj h
            subst e0
            exact y_sel [0, 1, 2] rfl hJj6
        · have h := itF c4 h
          refine y_ldc2 C wd_812 dX7_taken_24 ?_
          have e0 := Option.some.inj h
          subst e0
          exact y_lret C E (Nat.zero_le _) (Nat.zero_le _) dX7_taken_27
    · have h := itF c2 h
      refine y_ldc2 C wd_811 dX7_taken_10 ?_
      have e0 := Option.some.inj h
      subst e0
      exact y_lret C E (Nat.zero_le _) (Nat.zero_le _) dX7_taken_13
set_option maxRecDepth 100000 in
def b_X7_told (K : yK) (M : yM) (t : Nat) (x1 : Int32) (x2 : Int32) : Option Int32 := (if gO K t 6 = true then (Option.bind (K.2.2 t 0) fun q2 => (if gO K q2 0 = true then (Option.bind (b_X0_has K M q2 x1) fun r4 => (if r4 = true then (if x2 = (0 : Int32) then (Option.bind (K.2.2 q2 0) fun q14 => (if gA K q14 x1 = true then (some (M q14 (x1).toNatClampNeg)) else none)) else (if x2 = (1 : Int32) then (Option.bind (K.2.2 q2 1) fun q16 => (if gA K q16 x1 = true then (some (M q16 (x1).toNatClampNeg)) else none)) else (if x2 = (2 : Int32) then (Option.bind (K.2.2 q2 2) fun q18 => (if gA K q18 x1 = true then (some (M q18 (x1).toNatClampNeg)) else none)) else (if x2 = (3 : Int32) then (Option.bind (K.2.2 q2 3) fun q20 => (if gA K q20 x1 = true then (some (M q20 (x1).toNatClampNeg)) else none)) else (if x2 = (4 : Int32) then (Option.bind (K.2.2 q2 4) fun q22 => (if gA K q22 x1 = true then (some (M q22 (x1).toNatClampNeg)) else none)) else (if x2 = (5 : Int32) then (Option.bind (b_X0_takesOf K M q2 x1) fun r24 => (some r24)) else (if x2 = (6 : Int32) then (Option.bind (K.2.2 q2 5) fun q25 => (if gA K q25 x1 = true then (some (M q25 (x1).toNatClampNeg)) else none)) else (if x2 = (7 : Int32) then (Option.bind (K.2.2 q2 0) fun q27 => (if gA K q27 x1 = true then (Option.bind (b_X2_needsNext K M ((M q27 (x1).toNatClampNeg))) fun r29 => (if r29 = true then (some (1 : Int32)) else (some (0 : Int32)))) else none)) else (some (-7 : Int32)))))))))) else (some (-5 : Int32)))) else none)) else none)
set_option maxHeartbeats 4000000 in
set_option maxRecDepth 100000 in
theorem m_X7_told (K : yK) (M : yM) (t : Nat) (x1 : Int32) (x2 : Int32) : yMet yX7_told cX7_told 3 (Option.some Jvm.ClassFile.FieldType.int) rm_X7_told K M [.ref t, .int x1, .int x2] (b_X7_told K M t x1 x2) (yFi K M) := by
  refine yM_intro (by decide) (Nat.le_of_ble_eq_true rfl) (fun X r h C E => ?_)
  replace C : yCx X cX7_told RX7 "told" rm_X7_told 3 := C
  show Y X K M 0 0 0 [(0, .ref t), (1, .int x1), (2, .int x2)] []
  unfold b_X7_told at h
  refine y_aload_n C dX7_told_0 rfl ?_
  obtain ⟨g1, h⟩ := gd h
  obtain ⟨q2, hq2, h⟩ := ob h
  refine y_getr C fl_X7_27 g1 hq2 dX7_told_1 ?_
  refine y_iload_n C dX7_told_4 rfl ?_
  obtain ⟨g3, h⟩ := gd h
  obtain ⟨r4, hr4, h⟩ := ob h
  refine y_cV C [.int x1] (m_X0_has K M q2 x1) hr4 g3 cw_X7_118 rfl (by decide) ⟨rfl, rfl⟩ ⟨Nat.zero_le _, Nat.zero_le _⟩ (Nat.le_of_ble_eq_true rfl) rfl rfl rfl dX7_told_5 ?_
  refine y_ifneB C dX7_told_8 (tgt := 14) rfl (fun c5 => ?_) (fun c5 => ?_)
  · have h := itT c5 h
    refine y_iload_n C dX7_told_14 rfl ?_
    rcases Classical.em (x2 = (0 : Int32)) with c6 | c6
    · have h := itT c6 h
      refine y_tabIn C dX7_told_15 (off := 45) (tgt := 60) (by rw [c6]; decide) (by rw [c6]; decide) (by rw [c6]; rfl) rfl ?_
      refine y_aload_n C dX7_told_60 rfl ?_
      refine y_getr C fl_X7_27 g1 hq2 dX7_told_61 ?_
      obtain ⟨q14, hq14, h⟩ := ob h
      refine y_getr C fl_X7_129 g3 hq14 dX7_told_64 ?_
      refine y_iload_n C dX7_told_67 rfl ?_
      obtain ⟨g15, h⟩ := gd h
      refine y_iald C g15 dX7_told_68 ?_
      have e0 := Option.some.inj h
      subst e0
      exact y_iret C E (Nat.zero_le _) (Nat.zero_le _) dX7_told_69
    replace h := itF c6 h
    rcases Classical.em (x2 = (1 : Int32)) with c7 | c7
    · have h := itT c7 h
      refine y_tabIn C dX7_told_15 (off := 55) (tgt := 70) (by rw [c7]; decide) (by rw [c7]; decide) (by rw [c7]; rfl) rfl ?_
      refine y_aload_n C dX7_told_70 rfl ?_
      refine y_getr C fl_X7_27 g1 hq2 dX7_told_71 ?_
      obtain ⟨q16, hq16, h⟩ := ob h
      refine y_getr C fl_X7_132 g3 hq16 dX7_told_74 ?_
      refine y_iload_n C dX7_told_77 rfl ?_
      obtain ⟨g17, h⟩ := gd h
      refine y_iald C g17 dX7_told_78 ?_
      have e0 := Option.some.inj h
      subst e0
      exact y_iret C E (Nat.zero_le _) (Nat.zero_le _) dX7_told_79
    replace h := itF c7 h
    rcases Classical.em (x2 = (2 : Int32)) with c8 | c8
    · have h := itT c8 h
      refine y_tabIn C dX7_told_15 (off := 65) (tgt := 80) (by rw [c8]; decide) (by rw [c8]; decide) (by rw [c8]; rfl) rfl ?_
      refine y_aload_n C dX7_told_80 rfl ?_
      refine y_getr C fl_X7_27 g1 hq2 dX7_told_81 ?_
      obtain ⟨q18, hq18, h⟩ := ob h
      refine y_getr C fl_X7_135 g3 hq18 dX7_told_84 ?_
      refine y_iload_n C dX7_told_87 rfl ?_
      obtain ⟨g19, h⟩ := gd h
      refine y_iald C g19 dX7_told_88 ?_
      have e0 := Option.some.inj h
      subst e0
      exact y_iret C E (Nat.zero_le _) (Nat.zero_le _) dX7_told_89
    replace h := itF c8 h
    rcases Classical.em (x2 = (3 : Int32)) with c9 | c9
    · have h := itT c9 h
      refine y_tabIn C dX7_told_15 (off := 75) (tgt := 90) (by rw [c9]; decide) (by rw [c9]; decide) (by rw [c9]; rfl) rfl ?_
      refine y_aload_n C dX7_told_90 rfl ?_
      refine y_getr C fl_X7_27 g1 hq2 dX7_told_91 ?_
      obtain ⟨q20, hq20, h⟩ := ob h
      refine y_getr C fl_X7_138 g3 hq20 dX7_told_94 ?_
      refine y_iload_n C dX7_told_97 rfl ?_
      obtain ⟨g21, h⟩ := gd h
      refine y_iald C g21 dX7_told_98 ?_
      have e0 := Option.some.inj h
      subst e0
      exact y_iret C E (Nat.zero_le _) (Nat.zero_le _) dX7_told_99
    replace h := itF c9 h
    rcases Classical.em (x2 = (4 : Int32)) with c10 | c10
    · have h := itT c10 h
      refine y_tabIn C dX7_told_15 (off := 85) (tgt := 100) (by rw [c10]; decide) (by rw [c10]; decide) (by rw [c10]; rfl) rfl ?_
      refine y_aload_n C dX7_told_100 rfl ?_
      refine y_getr C fl_X7_27 g1 hq2 dX7_told_101 ?_
      obtain ⟨q22, hq22, h⟩ := ob h
      refine y_getr C fl_X7_141 g3 hq22 dX7_told_104 ?_
      refine y_iload_n C dX7_told_107 rfl ?_
      obtain ⟨g23, h⟩ := gd h
      refine y_iald C g23 dX7_told_108 ?_
      have e0 := Option.some.inj h
      subst e0
      exact y_iret C E (Nat.zero_le _) (Nat.zero_le _) dX7_told_109
    replace h := itF c10 h
    rcases Classical.em (x2 = (5 : Int32)) with c11 | c11
    · have h := itT c11 h
      refine y_tabIn C dX7_told_15 (off := 95) (tgt := 110) (by rw [c11]; decide) (by rw [c11]; decide) (by rw [c11]; rfl) rfl ?_
      refine y_aload_n C dX7_told_110 rfl ?_
      refine y_getr C fl_X7_27 g1 hq2 dX7_told_111 ?_
      refine y_iload_n C dX7_told_114 rfl ?_
      obtain ⟨r24, hr24, h⟩ := ob h
      refine y_cV C [.int x1] (m_X0_takesOf K M q2 x1) hr24 g3 cw_X7_144 rfl (by decide) ⟨rfl, rfl⟩ ⟨Nat.zero_le _, Nat.zero_le _⟩ (Nat.le_of_ble_eq_true rfl) rfl rfl rfl dX7_told_115 ?_
      have e0 := Option.some.inj h
      subst e0
      exact y_iret C E (Nat.zero_le _) (Nat.zero_le _) dX7_told_118
    replace h := itF c11 h
    rcases Classical.em (x2 = (6 : Int32)) with c12 | c12
    · have h := itT c12 h
      refine y_tabIn C dX7_told_15 (off := 104) (tgt := 119) (by rw [c12]; decide) (by rw [c12]; decide) (by rw [c12]; rfl) rfl ?_
      refine y_aload_n C dX7_told_119 rfl ?_
      refine y_getr C fl_X7_27 g1 hq2 dX7_told_120 ?_
      obtain ⟨q25, hq25, h⟩ := ob h
      refine y_getr C fl_X7_147 g3 hq25 dX7_told_123 ?_
      refine y_iload_n C dX7_told_126 rfl ?_
      obtain ⟨g26, h⟩ := gd h
      refine y_iald C g26 dX7_told_127 ?_
      have e0 := Option.some.inj h
      subst e0
      exact y_iret C E (Nat.zero_le _) (Nat.zero_le _) dX7_told_128
    replace h := itF c12 h
    rcases Classical.em (x2 = (7 : Int32)) with c13 | c13
    · have h := itT c13 h
      refine y_tabIn C dX7_told_15 (off := 114) (tgt := 129) (by rw [c13]; decide) (by rw [c13]; decide) (by rw [c13]; rfl) rfl ?_
      refine y_aload_n C dX7_told_129 rfl ?_
      refine y_getr C fl_X7_27 g1 hq2 dX7_told_130 ?_
      obtain ⟨q27, hq27, h⟩ := ob h
      refine y_getr C fl_X7_129 g3 hq27 dX7_told_133 ?_
      refine y_iload_n C dX7_told_136 rfl ?_
      obtain ⟨g28, h⟩ := gd h
      refine y_iald C g28 dX7_told_137 ?_
      obtain ⟨r29, hr29, h⟩ := ob h
      refine y_cS C [.int (M q27 (x1).toNatClampNeg)] (m_X2_needsNext K M ((M q27 (x1).toNatClampNeg))) hr29 cw_X7_150 rfl (by decide) ⟨rfl, rfl⟩ ⟨Nat.zero_le _, Nat.zero_le _⟩ (Nat.le_of_ble_eq_true rfl) rfl rfl rfl dX7_told_138 ?_
      refine y_ifeqB C dX7_told_141 (tgt := 148) rfl (fun c30 => ?_) (fun c30 => ?_)
      · have h := itFb c30 h
        refine y_iconst C dX7_told_148 kc_0 ?_
        have e0 := Option.some.inj h
        subst e0
        exact y_iret C E (Nat.zero_le _) (Nat.zero_le _) dX7_told_149
      · have h := itT c30 h
        refine y_iconst C dX7_told_144 kc_1 ?_
        refine y_goto C dX7_told_145 (tgt := 149) rfl ?_
        have e0 := Option.some.inj h
        subst e0
        exact y_iret C E (Nat.zero_le _) (Nat.zero_le _) dX7_told_149
    replace h := itF c13 h
    refine y_tabOut C dX7_told_15 (tgt := 150) (by have q0 : (x2).toInt ≠ 0 := yNe c6; have q1 : (x2).toInt ≠ 1 := yNe c7; have q2 : (x2).toInt ≠ 2 := yNe c8; have q3 : (x2).toInt ≠ 3 := yNe c9; have q4 : (x2).toInt ≠ 4 := yNe c10; have q5 : (x2).toInt ≠ 5 := yNe c11; have q6 : (x2).toInt ≠ 6 := yNe c12; have q7 : (x2).toInt ≠ 7 := yNe c13; omega) rfl ?_
    refine y_bipush C dX7_told_150 kb_m7 ?_
    have e0 := Option.some.inj h
    subst e0
    exact y_iret C E (Nat.zero_le _) (Nat.zero_le _) dX7_told_152
  · have h := itFb c5 h
    refine y_bipush C dX7_told_11 kb_m5 ?_
    have e0 := Option.some.inj h
    subst e0
    exact y_iret C E (Nat.zero_le _) (Nat.zero_le _) dX7_told_13
def b_X7_when_66 (K : yK) (t : Nat) (x_1 : Int32) (x_2 : Int32) (x_3 : Int32) : Nat → yM → Int32 → Option (yM ⊕ (Int32 × yM))
  | 0, _, _ => none
  | n + 1, M, u66_5 => (if x_3 ≤ u66_5 then (some (.inl M)) else (if gO K t 6 = true then (Option.bind (K.2.2 t 2) fun q3 => (if gO K q3 0 = true then (Option.bind (b_X0_passDay K M q3) fun r5 => (Option.bind (b_X0_itself K r5 q3) fun r6 => (Option.bind (b_X0_held K r6.2 q3 r6.1) fun r7 => (Option.bind (if x_1 = 0 then (some r7) else (Option.bind (b_X0_canDo K r6.2 q3 r7) fun r10 => (some r10))) fun j9 => (if ((j9 >>> (x_2 &&& 31)) &&& (1 : Int32)) = (1 : Int32) then (some (.inr (u66_5, r6.2))) else (Option.bind (some (u66_5 + (1 : Int32))) fun v12 => (b_X7_when_66 K t x_1 x_2 x_3 n r6.2 v12))))))) else none)) else none))
set_option maxHeartbeats 4000000 in
set_option maxRecDepth 100000 in
theorem l_X7_when_66 {X : yX} {K : yK} {K0 : yK} {M0 : yM} {t : Nat} {x_1 : Int32} {x_2 : Int32} {x_3 : Int32} (C : yCx X cX7_when RX7 "when" rm_X7_when 8) : ∀ (n : Nat) (M : yM) (u66_5 : Int32) (x : (yM ⊕ (Int32 × yM))), b_X7_when_66 K t x_1 x_2 x_3 n M u66_5 = some x → ∀ (hX : ∀ x8, x = .inl x8 → Y X K x8 0 0 134 [] []), ∀ (hE : ∀ x9, x = .inr x9 → yRt X (Option.some Jvm.ClassFile.FieldType.int) K0 M0 ((yGi K) x9).1 ((yGi K) x9).2.1 ((yGi K) x9).2.2 0 0), Y X K M 0 0 66 [(0, .ref t), (1, .int x_1), (2, .int x_2), (3, .int x_3), (5, .int u66_5)] [] := by
  intro n
  induction n with
  | zero =>
    intro M u66_5 x h
    exact nomatch (show (none : Option _) = some x from h)
  | succ n ih =>
    intro M u66_5 x h hX hE
    rw [b_X7_when_66] at h
    refine y_iload C dX7_when_66 rfl ?_
    refine y_iload_n C dX7_when_68 rfl ?_
    refine y_icmp_ge C dX7_when_69 (tgt := 134) rfl (fun c1 => ?_) (fun c1 => ?_)
    · have h := itT c1 h
      have e0 := Option.some.inj h
      subst e0
      exact y_sel [] rfl (hX _ rfl)
    · have h := itF c1 h
      refine y_aload_n C dX7_when_72 rfl ?_
      obtain ⟨g2, h⟩ := gd h
      obtain ⟨q3, hq3, h⟩ := ob h
      refine y_getr C fl_X7_34 g2 hq3 dX7_when_73 ?_
      obtain ⟨g4, h⟩ := gd h
      obtain ⟨r5, hr5, h⟩ := ob h
      refine y_cV C [] (m_X0_passDay K M q3) hr5 g4 cw_X7_158 rfl (by decide) ⟨rfl, rfl⟩ ⟨Nat.zero_le _, Nat.zero_le _⟩ (Nat.le_of_ble_eq_true rfl) rfl rfl rfl dX7_when_76 ?_
      refine y_aload_n C dX7_when_79 rfl ?_
      refine y_getr C fl_X7_34 g2 hq3 dX7_when_80 ?_
      refine y_aload_n C dX7_when_83 rfl ?_
      refine y_getr C fl_X7_34 g2 hq3 dX7_when_84 ?_
      obtain ⟨r6, hr6, h⟩ := ob h
      refine y_cV C [] (m_X0_itself K r5 q3) hr6 g4 cw_X7_164 rfl (by decide) ⟨rfl, rfl⟩ ⟨Nat.zero_le _, Nat.zero_le _⟩ (Nat.le_of_ble_eq_true rfl) rfl rfl rfl dX7_when_87 ?_
      obtain ⟨r7, hr7, h⟩ := ob h
      refine y_cV C [.int r6.1] (m_X0_held K r6.2 q3 r6.1) hr7 g4 cw_X7_167 rfl (by decide) ⟨rfl, rfl⟩ ⟨Nat.zero_le _, Nat.zero_le _⟩ (Nat.le_of_ble_eq_true rfl) rfl rfl rfl dX7_when_90 ?_
      refine y_istore C dX7_when_93 (by decide) (L' := [(6, .int r7), (0, .ref t), (1, .int x_1), (2, .int x_2), (3, .int x_3), (5, .int u66_5)]) rfl ?_
      refine y_iload_n C dX7_when_95 rfl ?_
      obtain ⟨j9, hj9, h⟩ := ob h
      have hJj9 : Y X K r6.2 0 0 113 [(0, .ref t), (1, .int x_1), (2, .int x_2), (3, .int x_3), (5, .int u66_5)] [.int j9] := by
        refine y_istore C dX7_when_113 (by decide) (L' := [(7, .int j9), (0, .ref t), (1, .int x_1), (2, .int x_2), (3, .int x_3), (5, .int u66_5)]) rfl ?_
        refine y_iload C dX7_when_115 rfl ?_
        refine y_iload_n C dX7_when_117 rfl ?_
        refine y_ishr C dX7_when_118 ?_
        refine y_iconst C dX7_when_119 kc_1 ?_
        refine y_iand C dX7_when_120 ?_
        refine y_iconst C dX7_when_121 kc_1 ?_
        refine y_icmp_ne C dX7_when_122 (tgt := 128) rfl (fun c11 => ?_) (fun c11 => ?_)
        · have h := itF c11 h
          obtain ⟨v12, ev12, h⟩ := ob h
          have ev12 := Option.some.inj ev12
          refine y_iinc C dX7_when_128 (by decide) rfl (v := v12) (by subst ev12; rfl) (L' := [(5, .int v12), (7, .int j9), (0, .ref t), (1, .int x_1), (2, .int x_2), (3, .int x_3)]) rfl ?_
          refine y_goto C dX7_when_131 (tgt := 66) rfl ?_
          exact y_sel [0, 1, 2, 3, 5] rfl (ih _ _ _  h hX hE)
        · have h := itT c11 h
          refine y_iload C dX7_when_125 rfl ?_
          have e0 := Option.some.inj h
          subst e0
          have E := hE _ rfl
          exact y_iret C E (Nat.zero_le _) (Nat.zero_le _) dX7_when_127
      replace h := hj9
      refine y_if_ne C dX7_when_96 (tgt := 104) rfl (fun c8 => ?_) (fun c8 => ?_)
      · have h := itF c8 h
        refine y_aload_n C dX7_when_104 rfl ?_
        refine y_getr C fl_X7_34 g2 hq3 dX7_when_105 ?_
        refine y_iload C dX7_when_108 rfl ?_
        obtain ⟨r10, hr10, h⟩ := ob h
        refine y_cV C [.int r7] (m_X0_canDo K r6.2 q3 r7) hr10 g4 cw_X7_182 rfl (by decide) ⟨rfl, rfl⟩ ⟨Nat.zero_le _, Nat.zero_le _⟩ (Nat.le_of_ble_eq_true rfl) rfl rfl rfl dX7_when_110 ?_
        have e0 := Option.some.inj h
        subst e0
        exact y_sel [0, 1, 2, 3, 5] rfl hJj9
      · have h := itT c8 h
        refine y_iload C dX7_when_99 rfl ?_
        refine y_goto C dX7_when_101 (tgt := 113) rfl ?_
        have e0 := Option.some.inj h
        subst e0
        exact y_sel [0, 1, 2, 3, 5] rfl hJj9
set_option maxRecDepth 100000 in
def b_X7_when (K : yK) (M : yM) (t : Nat) (x1 : Int32) (x2 : Int32) (x3 : Int32) : Option (Int32 × yM) := (Option.bind (if x1 = 0 then (if gO K t 6 = true then (Option.bind (K.2.2 t 0) fun q10 => (if gO K q10 0 = true then (Option.bind (b_X0_has K M q10 x2) fun r12 => (some r12)) else none)) else none) else (if x1 = (1 : Int32) then (if gO K t 6 = true then (Option.bind (K.2.2 t 0) fun q5 => (if gO K q5 0 = true then (Option.bind (b_X0_hasDeed K M q5 x2) fun r7 => (if r7 = true then (some true) else (some false))) else none)) else none) else (some false))) fun j2 => (if j2 = true then (Option.bind (b_X7_isDays K M x3) fun r14 => (if r14 = true then (if gO K t 6 = true then (Option.bind (b_X7_think K M t ((0 : Int32)) ((0 : Int32)) ((0 : Int32))) fun r17 => (Option.bind (b_X7_when_66 K t x1 x2 x3 1000 r17 ((0 : Int32))) fun x9 => Sum.elim (fun j18 => (some ((-1 : Int32), j18))) (fun r9 => (some r9)) x9)) else none) else (some ((-7 : Int32), M)))) else (some ((-5 : Int32), M))))
set_option maxHeartbeats 4000000 in
set_option maxRecDepth 100000 in
theorem m_X7_when (K : yK) (M : yM) (t : Nat) (x1 : Int32) (x2 : Int32) (x3 : Int32) : yMet yX7_when cX7_when 8 (Option.some Jvm.ClassFile.FieldType.int) rm_X7_when K M [.ref t, .int x1, .int x2, .int x3] (b_X7_when K M t x1 x2 x3) (yGi K) := by
  refine yM_intro (by decide) (Nat.le_of_ble_eq_true rfl) (fun X r h C E => ?_)
  replace C : yCx X cX7_when RX7 "when" rm_X7_when 8 := C
  show Y X K M 0 0 0 [(0, .ref t), (1, .int x1), (2, .int x2), (3, .int x3)] []
  unfold b_X7_when at h
  refine y_iload_n C dX7_when_0 rfl ?_
  obtain ⟨j2, hj2, h⟩ := ob h
  have hJj2 : Y X K M 0 0 36 [(0, .ref t), (1, .int x1), (2, .int x2), (3, .int x3)] [.int (bI j2)] := by
    refine y_istore C dX7_when_36 (by decide) (L' := [(4, .int (bI j2)), (0, .ref t), (1, .int x1), (2, .int x2), (3, .int x3)]) rfl ?_
    refine y_iload C dX7_when_38 rfl ?_
    refine y_ifneB C dX7_when_40 (tgt := 46) rfl (fun c13 => ?_) (fun c13 => ?_)
    · have h := itT c13 h
      refine y_iload_n C dX7_when_46 rfl ?_
      obtain ⟨r14, hr14, h⟩ := ob h
      refine y_cS C [.int x3] (m_X7_isDays K M x3) hr14 cw_X7_188 rfl (by decide) ⟨rfl, rfl⟩ ⟨Nat.zero_le _, Nat.zero_le _⟩ (Nat.le_of_ble_eq_true rfl) rfl rfl rfl dX7_when_47 ?_
      refine y_ifneB C dX7_when_50 (tgt := 56) rfl (fun c15 => ?_) (fun c15 => ?_)
      · have h := itT c15 h
        refine y_aload_n C dX7_when_56 rfl ?_
        refine y_iconst C dX7_when_57 kc_0 ?_
        refine y_iconst C dX7_when_58 kc_0 ?_
        refine y_iconst C dX7_when_59 kc_0 ?_
        obtain ⟨g16, h⟩ := gd h
        obtain ⟨r17, hr17, h⟩ := ob h
        refine y_cV C [.int (0 : Int32), .int (0 : Int32), .int (0 : Int32)] (m_X7_think K M t ((0 : Int32)) ((0 : Int32)) ((0 : Int32))) hr17 g16 cw_X7_191 rfl (by decide) ⟨rfl, rfl⟩ ⟨Nat.zero_le _, Nat.zero_le _⟩ (Nat.le_of_ble_eq_true rfl) rfl rfl rfl dX7_when_60 ?_
        refine y_iconst C dX7_when_63 kc_0 ?_
        refine y_istore C dX7_when_64 (by decide) (L' := [(5, .int (0)), (4, .int (bI j2)), (0, .ref t), (1, .int x1), (2, .int x2), (3, .int x3)]) rfl ?_
        obtain ⟨x9, hx9, h⟩ := ob h
        refine y_sel [0, 1, 2, 3, 5] rfl (l_X7_when_66 (K0 := K) (M0 := M) C 1000 _ _ _ hx9 (fun j18 e9 => ?_) (fun r9 e9 => ?_))
        · subst e9
          dsimp only [Sum.elim_inl] at h
          refine y_iconst C dX7_when_134 kc_m1 ?_
          have e0 := Option.some.inj h
          subst e0
          exact y_iret C E (Nat.zero_le _) (Nat.zero_le _) dX7_when_135
        · subst e9
          dsimp only [Sum.elim_inr] at h
          have e0 := Option.some.inj h
          subst e0
          exact E
      · have h := itFb c15 h
        refine y_bipush C dX7_when_53 kb_m7 ?_
        have e0 := Option.some.inj h
        subst e0
        exact y_iret C E (Nat.zero_le _) (Nat.zero_le _) dX7_when_55
    · have h := itFb c13 h
      refine y_bipush C dX7_when_43 kb_m5 ?_
      have e0 := Option.some.inj h
      subst e0
      exact y_iret C E (Nat.zero_le _) (Nat.zero_le _) dX7_when_45
  replace h := hj2
  refine y_if_ne C dX7_when_1 (tgt := 15) rfl (fun c1 => ?_) (fun c1 => ?_)
  · have h := itF c1 h
    refine y_iload_n C dX7_when_15 rfl ?_
    refine y_iconst C dX7_when_16 kc_1 ?_
    refine y_icmp_ne C dX7_when_17 (tgt := 35) rfl (fun c3 => ?_) (fun c3 => ?_)
    · have h := itF c3 h
      refine y_iconst C dX7_when_35 kc_0 ?_
      have e0 := Option.some.inj h
      subst e0
      exact y_sel [0, 1, 2, 3] rfl hJj2
    · have h := itT c3 h
      refine y_aload_n C dX7_when_20 rfl ?_
      obtain ⟨g4, h⟩ := gd h
      obtain ⟨q5, hq5, h⟩ := ob h
      refine y_getr C fl_X7_27 g4 hq5 dX7_when_21 ?_
      refine y_iload_n C dX7_when_24 rfl ?_
      obtain ⟨g6, h⟩ := gd h
      obtain ⟨r7, hr7, h⟩ := ob h
      refine y_cV C [.int x2] (m_X0_hasDeed K M q5 x2) hr7 g6 cw_X7_173 rfl (by decide) ⟨rfl, rfl⟩ ⟨Nat.zero_le _, Nat.zero_le _⟩ (Nat.le_of_ble_eq_true rfl) rfl rfl rfl dX7_when_25 ?_
      refine y_ifeqB C dX7_when_28 (tgt := 35) rfl (fun c8 => ?_) (fun c8 => ?_)
      · have h := itFb c8 h
        refine y_iconst C dX7_when_35 kc_0 ?_
        have e0 := Option.some.inj h
        subst e0
        exact y_sel [0, 1, 2, 3] rfl hJj2
      · have h := itT c8 h
        refine y_iconst C dX7_when_31 kc_1 ?_
        refine y_goto C dX7_when_32 (tgt := 36) rfl ?_
        have e0 := Option.some.inj h
        subst e0
        exact y_sel [0, 1, 2, 3] rfl hJj2
  · have h := itT c1 h
    refine y_aload_n C dX7_when_4 rfl ?_
    obtain ⟨g9, h⟩ := gd h
    obtain ⟨q10, hq10, h⟩ := ob h
    refine y_getr C fl_X7_27 g9 hq10 dX7_when_5 ?_
    refine y_iload_n C dX7_when_8 rfl ?_
    obtain ⟨g11, h⟩ := gd h
    obtain ⟨r12, hr12, h⟩ := ob h
    refine y_cV C [.int x2] (m_X0_has K M q10 x2) hr12 g11 cw_X7_118 rfl (by decide) ⟨rfl, rfl⟩ ⟨Nat.zero_le _, Nat.zero_le _⟩ (Nat.le_of_ble_eq_true rfl) rfl rfl rfl dX7_when_9 ?_
    refine y_goto C dX7_when_12 (tgt := 36) rfl ?_
    have e0 := Option.some.inj h
    subst e0
    exact y_sel [0, 1, 2, 3] rfl hJj2
set_option maxRecDepth 100000 in
def b_X7_word (K : yK) (M : yM) (t : Nat) (x1 : Int32) (x2 : Int32) (x3 : Int32) : Option (Int32 × yM) := (if x1 < 0 then (some ((-2 : Int32), M)) else (if (60 : Int32) ≤ x1 then (some ((-2 : Int32), M)) else (if x2 < (1 : Int32) then (some ((-2 : Int32), M)) else (if (60 : Int32) < x2 then (some ((-2 : Int32), M)) else (if x3 < (-1 : Int32) then (some ((-2 : Int32), M)) else (if x3 < (12 : Int32) then (if gO K t 6 = true then (Option.bind (K.2.2 t 0) fun q8 => (if gO K q8 0 = true then (Option.bind (b_X0_add K M q8 x1 x2 x3) fun r10 => (if r10.1 = true then (some (((r10.2 q8 8) - (1 : Int32)), r10.2)) else (some ((-4 : Int32), r10.2)))) else none)) else none) else (some ((-2 : Int32), M))))))))
set_option maxHeartbeats 4000000 in
set_option maxRecDepth 100000 in
theorem m_X7_word (K : yK) (M : yM) (t : Nat) (x1 : Int32) (x2 : Int32) (x3 : Int32) : yMet yX7_word cX7_word 4 (Option.some Jvm.ClassFile.FieldType.int) rm_X7_word K M [.ref t, .int x1, .int x2, .int x3] (b_X7_word K M t x1 x2 x3) (yGi K) := by
  refine yM_intro (by decide) (Nat.le_of_ble_eq_true rfl) (fun X r h C E => ?_)
  replace C : yCx X cX7_word RX7 "word" rm_X7_word 4 := C
  show Y X K M 0 0 0 [(0, .ref t), (1, .int x1), (2, .int x2), (3, .int x3)] []
  unfold b_X7_word at h
  refine y_iload_n C dX7_word_0 rfl ?_
  refine y_if_lt C dX7_word_1 (tgt := 32) rfl (fun c1 => ?_) (fun c1 => ?_)
  · have h := itT c1 h
    refine y_bipush C dX7_word_32 kb_m2 ?_
    have e0 := Option.some.inj h
    subst e0
    exact y_iret C E (Nat.zero_le _) (Nat.zero_le _) dX7_word_34
  · have h := itF c1 h
    refine y_iload_n C dX7_word_4 rfl ?_
    refine y_bipush C dX7_word_5 kb_60 ?_
    refine y_icmp_ge C dX7_word_7 (tgt := 32) rfl (fun c2 => ?_) (fun c2 => ?_)
    · have h := itT c2 h
      refine y_bipush C dX7_word_32 kb_m2 ?_
      have e0 := Option.some.inj h
      subst e0
      exact y_iret C E (Nat.zero_le _) (Nat.zero_le _) dX7_word_34
    · have h := itF c2 h
      refine y_iload_n C dX7_word_10 rfl ?_
      refine y_iconst C dX7_word_11 kc_1 ?_
      refine y_icmp_lt C dX7_word_12 (tgt := 32) rfl (fun c3 => ?_) (fun c3 => ?_)
      · have h := itT c3 h
        refine y_bipush C dX7_word_32 kb_m2 ?_
        have e0 := Option.some.inj h
        subst e0
        exact y_iret C E (Nat.zero_le _) (Nat.zero_le _) dX7_word_34
      · have h := itF c3 h
        refine y_iload_n C dX7_word_15 rfl ?_
        refine y_bipush C dX7_word_16 kb_60 ?_
        refine y_icmp_gt C dX7_word_18 (tgt := 32) rfl (fun c4 => ?_) (fun c4 => ?_)
        · have h := itT c4 h
          refine y_bipush C dX7_word_32 kb_m2 ?_
          have e0 := Option.some.inj h
          subst e0
          exact y_iret C E (Nat.zero_le _) (Nat.zero_le _) dX7_word_34
        · have h := itF c4 h
          refine y_iload_n C dX7_word_21 rfl ?_
          refine y_iconst C dX7_word_22 kc_m1 ?_
          refine y_icmp_lt C dX7_word_23 (tgt := 32) rfl (fun c5 => ?_) (fun c5 => ?_)
          · have h := itT c5 h
            refine y_bipush C dX7_word_32 kb_m2 ?_
            have e0 := Option.some.inj h
            subst e0
            exact y_iret C E (Nat.zero_le _) (Nat.zero_le _) dX7_word_34
          · have h := itF c5 h
            refine y_iload_n C dX7_word_26 rfl ?_
            refine y_bipush C dX7_word_27 kb_12 ?_
            refine y_icmp_lt C dX7_word_29 (tgt := 35) rfl (fun c6 => ?_) (fun c6 => ?_)
            · have h := itT c6 h
              refine y_aload_n C dX7_word_35 rfl ?_
              obtain ⟨g7, h⟩ := gd h
              obtain ⟨q8, hq8, h⟩ := ob h
              refine y_getr C fl_X7_27 g7 hq8 dX7_word_36 ?_
              refine y_iload_n C dX7_word_39 rfl ?_
              refine y_iload_n C dX7_word_40 rfl ?_
              refine y_iload_n C dX7_word_41 rfl ?_
              obtain ⟨g9, h⟩ := gd h
              obtain ⟨r10, hr10, h⟩ := ob h
              refine y_cV C [.int x1, .int x2, .int x3] (m_X0_add K M q8 x1 x2 x3) hr10 g9 cw_X7_125 rfl (by decide) ⟨rfl, rfl⟩ ⟨Nat.zero_le _, Nat.zero_le _⟩ (Nat.le_of_ble_eq_true rfl) rfl rfl rfl dX7_word_42 ?_
              refine y_ifeqB C dX7_word_45 (tgt := 60) rfl (fun c11 => ?_) (fun c11 => ?_)
              · have h := itFb c11 h
                refine y_bipush C dX7_word_60 kb_m4 ?_
                have e0 := Option.some.inj h
                subst e0
                exact y_iret C E (Nat.zero_le _) (Nat.zero_le _) dX7_word_62
              · have h := itT c11 h
                refine y_aload_n C dX7_word_48 rfl ?_
                refine y_getr C fl_X7_27 g7 hq8 dX7_word_49 ?_
                refine y_geti C fl_X7_55 g9 dX7_word_52 ?_
                refine y_iconst C dX7_word_55 kc_1 ?_
                refine y_isub C dX7_word_56 ?_
                refine y_goto C dX7_word_57 (tgt := 62) rfl ?_
                have e0 := Option.some.inj h
                subst e0
                exact y_iret C E (Nat.zero_le _) (Nat.zero_le _) dX7_word_62
            · have h := itF c6 h
              refine y_bipush C dX7_word_32 kb_m2 ?_
              have e0 := Option.some.inj h
              subst e0
              exact y_iret C E (Nat.zero_le _) (Nat.zero_le _) dX7_word_34
def b_X7_wordsBy_68 (K : yK) (t : Nat) (x_3 : Int32) (x_4 : Int32) (t_5 : Nat) : Nat → yM → Int32 → Int32 → Option ((Int32 × yM) ⊕ (Int32 × yM))
  | 0, _, _, _ => none
  | n + 1, M, u68_6, u68_7 => (if x_4 ≤ u68_7 then (some (.inl (u68_6, M))) else (if x_3 < 0 then (some (.inr ((-12 : Int32), M))) else (if (40 : Int32) < x_3 then (some (.inr ((-12 : Int32), M))) else (if gO K t_5 4 = true then (Option.bind (b_X5_hasRow K M t_5 ((x_3 + ((3 : Int32) * u68_7))) ((3 : Int32))) fun r5 => (if r5 = true then (Option.bind (some (x_3 + ((3 : Int32) * u68_7))) fun v7 => (Option.bind (K.2.2 t_5 0) fun q8 => (if gA K q8 v7 = true then (if gA K q8 (v7 + (1 : Int32)) = true then (if gA K q8 (v7 + (2 : Int32)) = true then (if gO K t 6 = true then (Option.bind (b_X7_word K M t ((M q8 (v7).toNatClampNeg)) ((M q8 ((v7 + (1 : Int32))).toNatClampNeg)) ((M q8 ((v7 + (2 : Int32))).toNatClampNeg))) fun r13 => (Option.bind (if r13.1 < 0 then (some u68_6) else (Option.bind (some (u68_6 + (1 : Int32))) fun v16 => (some v16))) fun j15 => (Option.bind (some (u68_7 + (1 : Int32))) fun v17 => (b_X7_wordsBy_68 K t x_3 x_4 t_5 n r13.2 j15 v17)))) else none) else none) else none) else none))) else (some (.inr ((-12 : Int32), M))))) else none))))
set_option maxHeartbeats 4000000 in
set_option maxRecDepth 100000 in
theorem l_X7_wordsBy_68 {X : yX} {K : yK} {K0 : yK} {M0 : yM} {t : Nat} {x_3 : Int32} {x_4 : Int32} {t_5 : Nat} (C : yCx X cX7_wordsBy RX7 "wordsBy" rm_X7_wordsBy 9) : ∀ (n : Nat) (M : yM) (u68_6 : Int32) (u68_7 : Int32) (x : ((Int32 × yM) ⊕ (Int32 × yM))), b_X7_wordsBy_68 K t x_3 x_4 t_5 n M u68_6 u68_7 = some x → ∀ (hX : ∀ x8, x = .inl x8 → Y X K x8.2 0 0 155 [(6, .int x8.1)] []), ∀ (hE : ∀ x9, x = .inr x9 → yRt X (Option.some Jvm.ClassFile.FieldType.int) K0 M0 ((yGi K) x9).1 ((yGi K) x9).2.1 ((yGi K) x9).2.2 0 0), Y X K M 0 0 68 [(0, .ref t), (3, .int x_3), (4, .int x_4), (5, .ref t_5), (6, .int u68_6), (7, .int u68_7)] [] := by
  intro n
  induction n with
  | zero =>
    intro M u68_6 u68_7 x h
    exact nomatch (show (none : Option _) = some x from h)
  | succ n ih =>
    intro M u68_6 u68_7 x h hX hE
    rw [b_X7_wordsBy_68] at h
    refine y_iload C dX7_wordsBy_68 rfl ?_
    refine y_iload C dX7_wordsBy_70 rfl ?_
    refine y_icmp_ge C dX7_wordsBy_72 (tgt := 155) rfl (fun c1 => ?_) (fun c1 => ?_)
    · have h := itT c1 h
      have e0 := Option.some.inj h
      subst e0
      exact y_sel [6] rfl (hX _ rfl)
    · have h := itF c1 h
      refine y_iload_n C dX7_wordsBy_75 rfl ?_
      refine y_if_lt C dX7_wordsBy_76 (tgt := 100) rfl (fun c2 => ?_) (fun c2 => ?_)
      · have h := itT c2 h
        refine y_bipush C dX7_wordsBy_100 kb_m12 ?_
        have e0 := Option.some.inj h
        subst e0
        have E := hE _ rfl
        exact y_iret C E (Nat.zero_le _) (Nat.zero_le _) dX7_wordsBy_102
      · have h := itF c2 h
        refine y_iload_n C dX7_wordsBy_79 rfl ?_
        refine y_bipush C dX7_wordsBy_80 kb_40 ?_
        refine y_icmp_gt C dX7_wordsBy_82 (tgt := 100) rfl (fun c3 => ?_) (fun c3 => ?_)
        · have h := itT c3 h
          refine y_bipush C dX7_wordsBy_100 kb_m12 ?_
          have e0 := Option.some.inj h
          subst e0
          have E := hE _ rfl
          exact y_iret C E (Nat.zero_le _) (Nat.zero_le _) dX7_wordsBy_102
        · have h := itF c3 h
          refine y_aload C dX7_wordsBy_85 rfl ?_
          refine y_iload_n C dX7_wordsBy_87 rfl ?_
          refine y_iconst C dX7_wordsBy_88 kc_3 ?_
          refine y_iload C dX7_wordsBy_89 rfl ?_
          refine y_imul C dX7_wordsBy_91 ?_
          refine y_iadd C dX7_wordsBy_92 ?_
          refine y_iconst C dX7_wordsBy_93 kc_3 ?_
          obtain ⟨g4, h⟩ := gd h
          obtain ⟨r5, hr5, h⟩ := ob h
          refine y_cV C [.int (x_3 + ((3 : Int32) * u68_7)), .int (3 : Int32)] (m_X5_hasRow K M t_5 ((x_3 + ((3 : Int32) * u68_7))) ((3 : Int32))) hr5 g4 cw_X7_266 rfl (by decide) ⟨rfl, rfl⟩ ⟨Nat.zero_le _, Nat.zero_le _⟩ (Nat.le_of_ble_eq_true rfl) rfl rfl rfl dX7_wordsBy_94 ?_
          refine y_ifneB C dX7_wordsBy_97 (tgt := 103) rfl (fun c6 => ?_) (fun c6 => ?_)
          · have h := itT c6 h
            refine y_iload_n C dX7_wordsBy_103 rfl ?_
            refine y_iconst C dX7_wordsBy_104 kc_3 ?_
            refine y_iload C dX7_wordsBy_105 rfl ?_
            refine y_imul C dX7_wordsBy_107 ?_
            refine y_iadd C dX7_wordsBy_108 ?_
            obtain ⟨v7, ev7, h⟩ := ob h
            have ev7 := Option.some.inj ev7
            refine y_istore C dX7_wordsBy_109 (by decide) (L' := [(8, .int v7), (0, .ref t), (3, .int x_3), (4, .int x_4), (5, .ref t_5), (6, .int u68_6), (7, .int u68_7)]) (by subst ev7; rfl) ?_
            refine y_aload_n C dX7_wordsBy_111 rfl ?_
            refine y_aload C dX7_wordsBy_112 rfl ?_
            obtain ⟨q8, hq8, h⟩ := ob h
            refine y_getr C fl_X7_243 g4 hq8 dX7_wordsBy_114 ?_
            refine y_iload C dX7_wordsBy_117 rfl ?_
            obtain ⟨g9, h⟩ := gd h
            refine y_iald C g9 dX7_wordsBy_119 ?_
            refine y_aload C dX7_wordsBy_120 rfl ?_
            refine y_getr C fl_X7_243 g4 hq8 dX7_wordsBy_122 ?_
            refine y_iload C dX7_wordsBy_125 rfl ?_
            refine y_iconst C dX7_wordsBy_127 kc_1 ?_
            refine y_iadd C dX7_wordsBy_128 ?_
            obtain ⟨g10, h⟩ := gd h
            refine y_iald C g10 dX7_wordsBy_129 ?_
            refine y_aload C dX7_wordsBy_130 rfl ?_
            refine y_getr C fl_X7_243 g4 hq8 dX7_wordsBy_132 ?_
            refine y_iload C dX7_wordsBy_135 rfl ?_
            refine y_iconst C dX7_wordsBy_137 kc_2 ?_
            refine y_iadd C dX7_wordsBy_138 ?_
            obtain ⟨g11, h⟩ := gd h
            refine y_iald C g11 dX7_wordsBy_139 ?_
            obtain ⟨g12, h⟩ := gd h
            obtain ⟨r13, hr13, h⟩ := ob h
            refine y_cV C [.int (M q8 (v7).toNatClampNeg), .int (M q8 ((v7 + (1 : Int32))).toNatClampNeg), .int (M q8 ((v7 + (2 : Int32))).toNatClampNeg)] (m_X7_word K M t ((M q8 (v7).toNatClampNeg)) ((M q8 ((v7 + (1 : Int32))).toNatClampNeg)) ((M q8 ((v7 + (2 : Int32))).toNatClampNeg))) hr13 g12 cw_X7_276 rfl (by decide) ⟨rfl, rfl⟩ ⟨Nat.zero_le _, Nat.zero_le _⟩ (Nat.le_of_ble_eq_true rfl) rfl rfl rfl dX7_wordsBy_140 ?_
            obtain ⟨j15, hj15, h⟩ := ob h
            have hJj15 : Y X K r13.2 0 0 149 [(0, .ref t), (3, .int x_3), (4, .int x_4), (5, .ref t_5), (6, .int j15), (7, .int u68_7)] [] := by
              obtain ⟨v17, ev17, h⟩ := ob h
              have ev17 := Option.some.inj ev17
              refine y_iinc C dX7_wordsBy_149 (by decide) rfl (v := v17) (by subst ev17; rfl) (L' := [(7, .int v17), (0, .ref t), (3, .int x_3), (4, .int x_4), (5, .ref t_5), (6, .int j15)]) rfl ?_
              refine y_goto C dX7_wordsBy_152 (tgt := 68) rfl ?_
              exact y_sel [0, 3, 4, 5, 6, 7] rfl (ih _ _ _ _  h hX hE)
            replace h := hj15
            refine y_if_lt C dX7_wordsBy_143 (tgt := 149) rfl (fun c14 => ?_) (fun c14 => ?_)
            · have h := itT c14 h
              have e0 := Option.some.inj h
              subst e0
              exact y_sel [0, 3, 4, 5, 6, 7] rfl hJj15
            · have h := itF c14 h
              obtain ⟨v16, ev16, h⟩ := ob h
              have ev16 := Option.some.inj ev16
              refine y_iinc C dX7_wordsBy_146 (by decide) rfl (v := v16) (by subst ev16; rfl) (L' := [(6, .int v16), (8, .int v7), (0, .ref t), (3, .int x_3), (4, .int x_4), (5, .ref t_5), (7, .int u68_7)]) rfl ?_
              have e0 := Option.some.inj h
              subst e0
              exact y_sel [0, 3, 4, 5, 6, 7] rfl hJj15
          · have h := itFb c6 h
            refine y_bipush C dX7_wordsBy_100 kb_m12 ?_
            have e0 := Option.some.inj h
            subst e0
            have E := hE _ rfl
            exact y_iret C E (Nat.zero_le _) (Nat.zero_le _) dX7_wordsBy_102
set_option maxRecDepth 100000 in
def b_X7_wordsBy (K : yK) (M : yM) (t : Nat) (x1 : Int32) (x2 : Int32) (x3 : Int32) (x4 : Int32) : Option (Int32 × yM) := (Option.bind (b_X7_isSheet K M x1) fun r1 => (if r1 = true then (if x2 < 0 then (some ((-2 : Int32), M)) else (if (2 : Int32) < x2 then (some ((-2 : Int32), M)) else (if x4 < 0 then (some ((-2 : Int32), M)) else (if x4 ≤ (12 : Int32) then (if gO K t 6 = true then (Option.bind (K.2.2 t 4) fun q8 => (if gQ K q8 2 x1 = true then (Option.bind (K.2.2 q8 (x1).toNatClampNeg) fun q10 => (if gO K q10 4 = true then (Option.bind (b_X5_isMissing K M q10) fun r12 => (if r12 = true then (some ((-11 : Int32), M)) else (if (M q10 1) = x2 then (Option.bind (b_X7_wordsBy_68 K t x3 x4 q10 1000 M ((0 : Int32)) ((0 : Int32))) fun x9 => Sum.elim (fun j15 => (some (j15.1, j15.2))) (fun r9 => (some r9)) x9) else (some ((-13 : Int32), M))))) else none)) else none)) else none) else (some ((-2 : Int32), M)))))) else (some ((-2 : Int32), M))))
set_option maxHeartbeats 4000000 in
set_option maxRecDepth 100000 in
theorem m_X7_wordsBy (K : yK) (M : yM) (t : Nat) (x1 : Int32) (x2 : Int32) (x3 : Int32) (x4 : Int32) : yMet yX7_wordsBy cX7_wordsBy 9 (Option.some Jvm.ClassFile.FieldType.int) rm_X7_wordsBy K M [.ref t, .int x1, .int x2, .int x3, .int x4] (b_X7_wordsBy K M t x1 x2 x3 x4) (yGi K) := by
  refine yM_intro (by decide) (Nat.le_of_ble_eq_true rfl) (fun X r h C E => ?_)
  replace C : yCx X cX7_wordsBy RX7 "wordsBy" rm_X7_wordsBy 9 := C
  show Y X K M 0 0 0 [(0, .ref t), (1, .int x1), (2, .int x2), (3, .int x3), (4, .int x4)] []
  unfold b_X7_wordsBy at h
  refine y_iload_n C dX7_wordsBy_0 rfl ?_
  obtain ⟨r1, hr1, h⟩ := ob h
  refine y_cS C [.int x1] (m_X7_isSheet K M x1) hr1 cw_X7_227 rfl (by decide) ⟨rfl, rfl⟩ ⟨Nat.zero_le _, Nat.zero_le _⟩ (Nat.le_of_ble_eq_true rfl) rfl rfl rfl dX7_wordsBy_1 ?_
  refine y_ifeqB C dX7_wordsBy_4 (tgt := 28) rfl (fun c2 => ?_) (fun c2 => ?_)
  · have h := itFb c2 h
    refine y_bipush C dX7_wordsBy_28 kb_m2 ?_
    have e0 := Option.some.inj h
    subst e0
    exact y_iret C E (Nat.zero_le _) (Nat.zero_le _) dX7_wordsBy_30
  · have h := itT c2 h
    refine y_iload_n C dX7_wordsBy_7 rfl ?_
    refine y_if_lt C dX7_wordsBy_8 (tgt := 28) rfl (fun c3 => ?_) (fun c3 => ?_)
    · have h := itT c3 h
      refine y_bipush C dX7_wordsBy_28 kb_m2 ?_
      have e0 := Option.some.inj h
      subst e0
      exact y_iret C E (Nat.zero_le _) (Nat.zero_le _) dX7_wordsBy_30
    · have h := itF c3 h
      refine y_iload_n C dX7_wordsBy_11 rfl ?_
      refine y_iconst C dX7_wordsBy_12 kc_2 ?_
      refine y_icmp_gt C dX7_wordsBy_13 (tgt := 28) rfl (fun c4 => ?_) (fun c4 => ?_)
      · have h := itT c4 h
        refine y_bipush C dX7_wordsBy_28 kb_m2 ?_
        have e0 := Option.some.inj h
        subst e0
        exact y_iret C E (Nat.zero_le _) (Nat.zero_le _) dX7_wordsBy_30
      · have h := itF c4 h
        refine y_iload C dX7_wordsBy_16 rfl ?_
        refine y_if_lt C dX7_wordsBy_18 (tgt := 28) rfl (fun c5 => ?_) (fun c5 => ?_)
        · have h := itT c5 h
          refine y_bipush C dX7_wordsBy_28 kb_m2 ?_
          have e0 := Option.some.inj h
          subst e0
          exact y_iret C E (Nat.zero_le _) (Nat.zero_le _) dX7_wordsBy_30
        · have h := itF c5 h
          refine y_iload C dX7_wordsBy_21 rfl ?_
          refine y_bipush C dX7_wordsBy_23 kb_12 ?_
          refine y_icmp_le C dX7_wordsBy_25 (tgt := 31) rfl (fun c6 => ?_) (fun c6 => ?_)
          · have h := itT c6 h
            refine y_aload_n C dX7_wordsBy_31 rfl ?_
            obtain ⟨g7, h⟩ := gd h
            obtain ⟨q8, hq8, h⟩ := ob h
            refine y_getr C fl_X7_46 g7 hq8 dX7_wordsBy_32 ?_
            refine y_iload_n C dX7_wordsBy_35 rfl ?_
            obtain ⟨g9, h⟩ := gd h
            obtain ⟨q10, hq10, h⟩ := ob h
            refine y_aald C (by decide) g9 hq10 dX7_wordsBy_36 ?_
            refine y_astore C dX7_wordsBy_37 (by decide) (L' := [(5, .ref q10), (0, .ref t), (1, .int x1), (2, .int x2), (3, .int x3), (4, .int x4)]) rfl ?_
            refine y_aload C dX7_wordsBy_39 rfl ?_
            obtain ⟨g11, h⟩ := gd h
            obtain ⟨r12, hr12, h⟩ := ob h
            refine y_cV C [] (m_X5_isMissing K M q10) hr12 g11 cw_X7_237 rfl (by decide) ⟨rfl, rfl⟩ ⟨Nat.zero_le _, Nat.zero_le _⟩ (Nat.le_of_ble_eq_true rfl) rfl rfl rfl dX7_wordsBy_41 ?_
            refine y_ifeqB C dX7_wordsBy_44 (tgt := 50) rfl (fun c13 => ?_) (fun c13 => ?_)
            · have h := itFb c13 h
              refine y_aload C dX7_wordsBy_50 rfl ?_
              refine y_geti C fl_X7_263 g11 dX7_wordsBy_52 ?_
              refine y_iload_n C dX7_wordsBy_55 rfl ?_
              refine y_icmp_eq C dX7_wordsBy_56 (tgt := 62) rfl (fun c14 => ?_) (fun c14 => ?_)
              · have h := itT c14 h
                refine y_iconst C dX7_wordsBy_62 kc_0 ?_
                refine y_istore C dX7_wordsBy_63 (by decide) (L' := [(6, .int (0)), (5, .ref q10), (0, .ref t), (1, .int x1), (2, .int x2), (3, .int x3), (4, .int x4)]) rfl ?_
                refine y_iconst C dX7_wordsBy_65 kc_0 ?_
                refine y_istore C dX7_wordsBy_66 (by decide) (L' := [(7, .int (0)), (6, .int (0)), (5, .ref q10), (0, .ref t), (1, .int x1), (2, .int x2), (3, .int x3), (4, .int x4)]) rfl ?_
                obtain ⟨x9, hx9, h⟩ := ob h
                refine y_sel [0, 3, 4, 5, 6, 7] rfl (l_X7_wordsBy_68 (K0 := K) (M0 := M) C 1000 _ _ _ _ hx9 (fun j15 e9 => ?_) (fun r9 e9 => ?_))
                · subst e9
                  dsimp only [Sum.elim_inl] at h
                  refine y_iload C dX7_wordsBy_155 rfl ?_
                  have e0 := Option.some.inj h
                  subst e0
                  exact y_iret C E (Nat.zero_le _) (Nat.zero_le _) dX7_wordsBy_157
                · subst e9
                  dsimp only [Sum.elim_inr] at h
                  have e0 := Option.some.inj h
                  subst e0
                  exact E
              · have h := itF c14 h
                refine y_bipush C dX7_wordsBy_59 kb_m13 ?_
                have e0 := Option.some.inj h
                subst e0
                exact y_iret C E (Nat.zero_le _) (Nat.zero_le _) dX7_wordsBy_61
            · have h := itT c13 h
              refine y_bipush C dX7_wordsBy_47 kb_m11 ?_
              have e0 := Option.some.inj h
              subst e0
              exact y_iret C E (Nat.zero_le _) (Nat.zero_le _) dX7_wordsBy_49
          · have h := itF c6 h
            refine y_bipush C dX7_wordsBy_28 kb_m2 ?_
            have e0 := Option.some.inj h
            subst e0
            exact y_iret C E (Nat.zero_le _) (Nat.zero_le _) dX7_wordsBy_30
