def rG (off d : Nat) : Room := { frames := 8 * d + off + 8, cells := 0, slots := 0, locals := 400 * d + 50 * off + 300 }
set_option maxRecDepth 100000 in
def b_X1_emit (K : yK) (M : yM) (t : Nat) (x1 : Int32) : Option yM := (if gO K t 1 = true then (if (M t 2) < 0 then (some M) else (Option.bind (K.2.2 t 1) fun q3 => (if gI K q3 = true then (if (Int32.ofNat (K.2.1 q3).2) ≤ (M t 2) then (some M) else (if gA K q3 (M t 2) = true then (Option.bind (some (yS M q3 ((M t 2)).toNatClampNeg x1)) fun M7 => (Option.bind (some (yS M7 t 2 ((M7 t 2) + (1 : Int32)))) fun M8 => (some M8))) else none)) else none))) else none)
set_option maxHeartbeats 4000000 in
set_option maxRecDepth 100000 in
theorem m_X1_emit (K : yK) (M : yM) (t : Nat) (x1 : Int32) : yMet yX1_emit cX1_emit 2 none rm_X1_emit K M [.ref t, .int x1] (b_X1_emit K M t x1) (yGv K) := by
  refine yM_intro (by decide) (Nat.le_of_ble_eq_true rfl) (fun X r h C E => ?_)
  replace C : yCx X cX1_emit RX1 "emit" rm_X1_emit 2 := C
  show Y X K M 0 0 0 [(0, .ref t), (1, .int x1)] []
  unfold b_X1_emit at h
  refine y_aload_n C dX1_emit_0 rfl ?_
  obtain ⟨g1, h⟩ := gd h
  refine y_geti C fl_X1_43 g1 dX1_emit_1 ?_
  refine y_if_lt C dX1_emit_4 (tgt := 39) rfl (fun c2 => ?_) (fun c2 => ?_)
  · have h := itT c2 h
    have e0 := Option.some.inj h
    subst e0
    exact y_vret C E (Nat.zero_le _) (Nat.zero_le _) dX1_emit_39
  · have h := itF c2 h
    refine y_aload_n C dX1_emit_7 rfl ?_
    refine y_geti C fl_X1_43 g1 dX1_emit_8 ?_
    refine y_aload_n C dX1_emit_11 rfl ?_
    obtain ⟨q3, hq3, h⟩ := ob h
    refine y_getr C fl_X1_18 g1 hq3 dX1_emit_12 ?_
    obtain ⟨g4, h⟩ := gd h
    refine y_alen C g4 dX1_emit_15 ?_
    refine y_icmp_ge C dX1_emit_16 (tgt := 39) rfl (fun c5 => ?_) (fun c5 => ?_)
    · have h := itT c5 h
      have e0 := Option.some.inj h
      subst e0
      exact y_vret C E (Nat.zero_le _) (Nat.zero_le _) dX1_emit_39
    · have h := itF c5 h
      refine y_aload_n C dX1_emit_19 rfl ?_
      refine y_getr C fl_X1_18 g1 hq3 dX1_emit_20 ?_
      refine y_aload_n C dX1_emit_23 rfl ?_
      refine y_geti C fl_X1_43 g1 dX1_emit_24 ?_
      refine y_iload_n C dX1_emit_27 rfl ?_
      obtain ⟨g6, h⟩ := gd h
      obtain ⟨M7, eM7, h⟩ := ob h
      have eM7 := Option.some.inj eM7
      refine y_iast C g6 dX1_emit_28 eM7 ?_
      refine y_aload_n C dX1_emit_29 rfl ?_
      refine y_dup C dX1_emit_30 rfl ?_
      refine y_geti C fl_X1_43 g1 dX1_emit_31 ?_
      refine y_iconst C dX1_emit_34 kc_1 ?_
      refine y_iadd C dX1_emit_35 ?_
      obtain ⟨M8, eM8, h⟩ := ob h
      have eM8 := Option.some.inj eM8
      refine y_puti C fl_X1_43 rfl g1 rfl rfl dX1_emit_36 eM8 ?_
      have e0 := Option.some.inj h
      subst e0
      exact y_vret C E (Nat.zero_le _) (Nat.zero_le _) dX1_emit_39
set_option maxRecDepth 100000 in
def b_X1_fail (K : yK) (M : yM) (t : Nat) : Option yM := (if gO K t 1 = true then (Option.bind (if 0 ≤ (M t 6) then (some M) else (Option.bind (K.2.2 t 0) fun q4 => (if gO K q4 5 = true then (Option.bind (b_X6_placeAt K M q4 ((M t 3))) fun r6 => (Option.bind (some (yS M t 6 r6)) fun M7 => (some M7))) else none))) fun j3 => (Option.bind (some (yS j3 t 4 (-1 : Int32))) fun M8 => (some M8))) else none)
set_option maxHeartbeats 4000000 in
set_option maxRecDepth 100000 in
theorem m_X1_fail (K : yK) (M : yM) (t : Nat) : yMet yX1_fail cX1_fail 1 none rm_X1_fail K M [.ref t] (b_X1_fail K M t) (yGv K) := by
  refine yM_intro (by decide) (Nat.le_of_ble_eq_true rfl) (fun X r h C E => ?_)
  replace C : yCx X cX1_fail RX1 "fail" rm_X1_fail 1 := C
  show Y X K M 0 0 0 [(0, .ref t)] []
  unfold b_X1_fail at h
  refine y_aload_n C dX1_fail_0 rfl ?_
  obtain ⟨g1, h⟩ := gd h
  refine y_geti C fl_X1_22 g1 dX1_fail_1 ?_
  obtain ⟨j3, hj3, h⟩ := ob h
  have hJj3 : Y X K j3 0 0 22 [(0, .ref t)] [] := by
    refine y_aload_n C dX1_fail_22 rfl ?_
    refine y_iconst C dX1_fail_23 kc_m1 ?_
    obtain ⟨M8, eM8, h⟩ := ob h
    have eM8 := Option.some.inj eM8
    refine y_puti C fl_X1_37 rfl g1 rfl rfl dX1_fail_24 eM8 ?_
    have e0 := Option.some.inj h
    subst e0
    exact y_vret C E (Nat.zero_le _) (Nat.zero_le _) dX1_fail_27
  replace h := hj3
  refine y_if_ge C dX1_fail_4 (tgt := 22) rfl (fun c2 => ?_) (fun c2 => ?_)
  · have h := itT c2 h
    have e0 := Option.some.inj h
    subst e0
    exact y_sel [0] rfl hJj3
  · have h := itF c2 h
    refine y_aload_n C dX1_fail_7 rfl ?_
    refine y_aload_n C dX1_fail_8 rfl ?_
    obtain ⟨q4, hq4, h⟩ := ob h
    refine y_getr C fl_X1_12 g1 hq4 dX1_fail_9 ?_
    refine y_aload_n C dX1_fail_12 rfl ?_
    refine y_geti C fl_X1_30 g1 dX1_fail_13 ?_
    obtain ⟨g5, h⟩ := gd h
    obtain ⟨r6, hr6, h⟩ := ob h
    refine y_cV C [.int (M t 3)] (m_X6_placeAt K M q4 ((M t 3))) hr6 g5 cw_X1_64 rfl (by decide) ⟨rfl, rfl⟩ ⟨Nat.zero_le _, Nat.zero_le _⟩ (Nat.le_of_ble_eq_true rfl) rfl rfl rfl dX1_fail_16 ?_
    obtain ⟨M7, eM7, h⟩ := ob h
    have eM7 := Option.some.inj eM7
    refine y_puti C fl_X1_22 rfl g1 rfl rfl dX1_fail_19 eM7 ?_
    have e0 := Option.some.inj h
    subst e0
    exact y_sel [0] rfl hJj3
set_option maxRecDepth 100000 in
def b_X1_next (K : yK) (M : yM) (t : Nat) : Option yM := (if gO K t 1 = true then (Option.bind (some (yS M t 3 ((M t 3) + (1 : Int32)))) fun M2 => (Option.bind (K.2.2 t 0) fun q3 => (if gO K q3 5 = true then (Option.bind (b_X6_tokenAt K M2 q3 ((M2 t 3))) fun r5 => (Option.bind (some (yS M2 t 4 r5)) fun M6 => (some M6))) else none))) else none)
set_option maxHeartbeats 4000000 in
set_option maxRecDepth 100000 in
theorem m_X1_next (K : yK) (M : yM) (t : Nat) : yMet yX1_next cX1_next 1 none rm_X1_next K M [.ref t] (b_X1_next K M t) (yGv K) := by
  refine yM_intro (by decide) (Nat.le_of_ble_eq_true rfl) (fun X r h C E => ?_)
  replace C : yCx X cX1_next RX1 "next" rm_X1_next 1 := C
  show Y X K M 0 0 0 [(0, .ref t)] []
  unfold b_X1_next at h
  refine y_aload_n C dX1_next_0 rfl ?_
  refine y_dup C dX1_next_1 rfl ?_
  obtain ⟨g1, h⟩ := gd h
  refine y_geti C fl_X1_30 g1 dX1_next_2 ?_
  refine y_iconst C dX1_next_5 kc_1 ?_
  refine y_iadd C dX1_next_6 ?_
  obtain ⟨M2, eM2, h⟩ := ob h
  have eM2 := Option.some.inj eM2
  refine y_puti C fl_X1_30 rfl g1 rfl rfl dX1_next_7 eM2 ?_
  refine y_aload_n C dX1_next_10 rfl ?_
  refine y_aload_n C dX1_next_11 rfl ?_
  obtain ⟨q3, hq3, h⟩ := ob h
  refine y_getr C fl_X1_12 g1 hq3 dX1_next_12 ?_
  refine y_aload_n C dX1_next_15 rfl ?_
  refine y_geti C fl_X1_30 g1 dX1_next_16 ?_
  obtain ⟨g4, h⟩ := gd h
  obtain ⟨r5, hr5, h⟩ := ob h
  refine y_cV C [.int (M2 t 3)] (m_X6_tokenAt K M2 q3 ((M2 t 3))) hr5 g4 cw_X1_33 rfl (by decide) ⟨rfl, rfl⟩ ⟨Nat.zero_le _, Nat.zero_le _⟩ (Nat.le_of_ble_eq_true rfl) rfl rfl rfl dX1_next_19 ?_
  obtain ⟨M6, eM6, h⟩ := ob h
  have eM6 := Option.some.inj eM6
  refine y_puti C fl_X1_37 rfl g1 rfl rfl dX1_next_22 eM6 ?_
  have e0 := Option.some.inj h
  subst e0
  exact y_vret C E (Nat.zero_le _) (Nat.zero_le _) dX1_next_25
set_option maxRecDepth 100000 in
def b_X1_enter (K : yK) (M : yM) (t : Nat) : Option (Bool × yM) := (if gO K t 1 = true then (if (M t 5) < (5 : Int32) then (Option.bind (some (yS M t 5 ((M t 5) + (1 : Int32)))) fun M3 => (Option.bind (b_X1_next K M3 t) fun r4 => (some (true, r4)))) else (Option.bind (b_X1_fail K M t) fun r5 => (some (false, r5)))) else none)
set_option maxHeartbeats 4000000 in
set_option maxRecDepth 100000 in
theorem m_X1_enter (K : yK) (M : yM) (t : Nat) : yMet yX1_enter cX1_enter 1 (Option.some Jvm.ClassFile.FieldType.boolean) rm_X1_enter K M [.ref t] (b_X1_enter K M t) (yGb K) := by
  refine yM_intro (by decide) (Nat.le_of_ble_eq_true rfl) (fun X r h C E => ?_)
  replace C : yCx X cX1_enter RX1 "enter" rm_X1_enter 1 := C
  show Y X K M 0 0 0 [(0, .ref t)] []
  unfold b_X1_enter at h
  refine y_aload_n C dX1_enter_0 rfl ?_
  obtain ⟨g1, h⟩ := gd h
  refine y_geti C fl_X1_40 g1 dX1_enter_1 ?_
  refine y_iconst C dX1_enter_4 kc_5 ?_
  refine y_icmp_lt C dX1_enter_5 (tgt := 14) rfl (fun c2 => ?_) (fun c2 => ?_)
  · have h := itT c2 h
    refine y_aload_n C dX1_enter_14 rfl ?_
    refine y_dup C dX1_enter_15 rfl ?_
    refine y_geti C fl_X1_40 g1 dX1_enter_16 ?_
    refine y_iconst C dX1_enter_19 kc_1 ?_
    refine y_iadd C dX1_enter_20 ?_
    obtain ⟨M3, eM3, h⟩ := ob h
    have eM3 := Option.some.inj eM3
    refine y_puti C fl_X1_40 rfl g1 rfl rfl dX1_enter_21 eM3 ?_
    refine y_aload_n C dX1_enter_24 rfl ?_
    obtain ⟨r4, hr4, h⟩ := ob h
    refine y_cV C [] (m_X1_next K M3 t) hr4 g1 cw_X1_67 rfl (by decide) ⟨rfl, rfl⟩ ⟨Nat.zero_le _, Nat.zero_le _⟩ (Nat.le_of_ble_eq_true rfl) rfl rfl rfl dX1_enter_25 ?_
    refine y_iconst C dX1_enter_28 kc_1 ?_
    have e0 := Option.some.inj h
    subst e0
    exact y_bret (b := true) C E (Nat.zero_le _) (Nat.zero_le _) dX1_enter_29
  · have h := itF c2 h
    refine y_aload_n C dX1_enter_8 rfl ?_
    obtain ⟨r5, hr5, h⟩ := ob h
    refine y_cV C [] (m_X1_fail K M t) hr5 g1 cw_X1_50 rfl (by decide) ⟨rfl, rfl⟩ ⟨Nat.zero_le _, Nat.zero_le _⟩ (Nat.le_of_ble_eq_true rfl) rfl rfl rfl dX1_enter_9 ?_
    refine y_iconst C dX1_enter_12 kc_0 ?_
    have e0 := Option.some.inj h
    subst e0
    exact y_bret (b := false) C E (Nat.zero_le _) (Nat.zero_le _) dX1_enter_13
set_option maxRecDepth 100000 in
def b_X1_expect (K : yK) (M : yM) (t : Nat) (x1 : Int32) : Option yM := (if gO K t 1 = true then (if (M t 4) = x1 then (Option.bind (b_X1_next K M t) fun r4 => (some r4)) else (Option.bind (b_X1_fail K M t) fun r3 => (some r3))) else none)
set_option maxHeartbeats 4000000 in
set_option maxRecDepth 100000 in
theorem m_X1_expect (K : yK) (M : yM) (t : Nat) (x1 : Int32) : yMet yX1_expect cX1_expect 2 none rm_X1_expect K M [.ref t, .int x1] (b_X1_expect K M t x1) (yGv K) := by
  refine yM_intro (by decide) (Nat.le_of_ble_eq_true rfl) (fun X r h C E => ?_)
  replace C : yCx X cX1_expect RX1 "expect" rm_X1_expect 2 := C
  show Y X K M 0 0 0 [(0, .ref t), (1, .int x1)] []
  unfold b_X1_expect at h
  refine y_aload_n C dX1_expect_0 rfl ?_
  obtain ⟨g1, h⟩ := gd h
  refine y_geti C fl_X1_37 g1 dX1_expect_1 ?_
  refine y_iload_n C dX1_expect_4 rfl ?_
  refine y_icmp_ne C dX1_expect_5 (tgt := 15) rfl (fun c2 => ?_) (fun c2 => ?_)
  · have h := itF c2 h
    refine y_aload_n C dX1_expect_15 rfl ?_
    obtain ⟨r3, hr3, h⟩ := ob h
    refine y_cV C [] (m_X1_fail K M t) hr3 g1 cw_X1_50 rfl (by decide) ⟨rfl, rfl⟩ ⟨Nat.zero_le _, Nat.zero_le _⟩ (Nat.le_of_ble_eq_true rfl) rfl rfl rfl dX1_expect_16 ?_
    have e0 := Option.some.inj h
    subst e0
    exact y_vret C E (Nat.zero_le _) (Nat.zero_le _) dX1_expect_19
  · have h := itT c2 h
    refine y_aload_n C dX1_expect_8 rfl ?_
    obtain ⟨r4, hr4, h⟩ := ob h
    refine y_cV C [] (m_X1_next K M t) hr4 g1 cw_X1_67 rfl (by decide) ⟨rfl, rfl⟩ ⟨Nat.zero_le _, Nat.zero_le _⟩ (Nat.le_of_ble_eq_true rfl) rfl rfl rfl dX1_expect_9 ?_
    refine y_goto C dX1_expect_12 (tgt := 19) rfl ?_
    have e0 := Option.some.inj h
    subst e0
    exact y_vret C E (Nat.zero_le _) (Nat.zero_le _) dX1_expect_19
set_option maxRecDepth 100000 in
def b_X1_fault (K : yK) (M : yM) (t : Nat) : Option Int32 := (if gO K t 1 = true then (some (M t 6)) else none)
set_option maxHeartbeats 4000000 in
set_option maxRecDepth 100000 in
theorem m_X1_fault (K : yK) (M : yM) (t : Nat) : yMet yX1_fault cX1_fault 1 (Option.some Jvm.ClassFile.FieldType.int) rm_X1_fault K M [.ref t] (b_X1_fault K M t) (yFi K M) := by
  refine yM_intro (by decide) (Nat.le_of_ble_eq_true rfl) (fun X r h C E => ?_)
  replace C : yCx X cX1_fault RX1 "fault" rm_X1_fault 1 := C
  show Y X K M 0 0 0 [(0, .ref t)] []
  unfold b_X1_fault at h
  refine y_aload_n C dX1_fault_0 rfl ?_
  obtain ⟨g1, h⟩ := gd h
  refine y_geti C fl_X1_22 g1 dX1_fault_1 ?_
  have e0 := Option.some.inj h
  subst e0
  exact y_iret C E (Nat.zero_le _) (Nat.zero_le _) dX1_fault_4
set_option maxRecDepth 100000 in
def b_X1_readOne_F (f_readOr : yM → Option yM) (f_readOne : yM → Option yM) (K : yK) (M : yM) (t : Nat) : Option yM := (if gO K t 1 = true then (if (M t 4) = (1 : Int32) then (Option.bind (K.2.2 t 0) fun q33 => (if gO K q33 5 = true then (Option.bind (b_X6_numberAt K M q33 ((M t 3))) fun r35 => (Option.bind (b_X1_emit K M t r35) fun r36 => (Option.bind (b_X1_next K r36 t) fun r37 => (some r37)))) else none)) else (if (M t 4) < (262 : Int32) then (if (M t 4) = (45 : Int32) then (Option.bind (b_X1_enter K M t) fun r12 => (if r12.1 = true then (Option.bind (f_readOne r12.2) fun r14 => (Option.bind (some (yS r14 t 5 ((r14 t 5) - (1 : Int32)))) fun M15 => (Option.bind (b_X1_emit K M15 t ((-2 : Int32))) fun r16 => (some r16)))) else (some r12.2))) else (if (M t 4) = (40 : Int32) then (Option.bind (b_X1_enter K M t) fun r7 => (if r7.1 = true then (Option.bind (f_readOr r7.2) fun r9 => (Option.bind (some (yS r9 t 5 ((r9 t 5) - (1 : Int32)))) fun M10 => (Option.bind (b_X1_expect K M10 t ((41 : Int32))) fun r11 => (some r11)))) else (some r7.2))) else (Option.bind (b_X1_fail K M t) fun r6 => (some r6)))) else (if (268 : Int32) ≤ (M t 4) then (if (M t 4) = (45 : Int32) then (Option.bind (b_X1_enter K M t) fun r26 => (if r26.1 = true then (Option.bind (f_readOne r26.2) fun r28 => (Option.bind (some (yS r28 t 5 ((r28 t 5) - (1 : Int32)))) fun M29 => (Option.bind (b_X1_emit K M29 t ((-2 : Int32))) fun r30 => (some r30)))) else (some r26.2))) else (if (M t 4) = (40 : Int32) then (Option.bind (b_X1_enter K M t) fun r21 => (if r21.1 = true then (Option.bind (f_readOr r21.2) fun r23 => (Option.bind (some (yS r23 t 5 ((r23 t 5) - (1 : Int32)))) fun M24 => (Option.bind (b_X1_expect K M24 t ((41 : Int32))) fun r25 => (some r25)))) else (some r21.2))) else (Option.bind (b_X1_fail K M t) fun r20 => (some r20)))) else (Option.bind (b_X1_emit K M t ((-(M t 4)))) fun r31 => (Option.bind (b_X1_next K r31 t) fun r32 => (some r32)))))) else none)
set_option maxHeartbeats 4000000 in
set_option maxRecDepth 100000 in
theorem m_X1_readOne_F (f_readOr : yM → Option yM) (f_readOne : yM → Option yM) (K : yK) (M : yM) (t : Nat) (dd : Nat) (hf_readOr : ∀ M : yM, yMet yX1_readOr cX1_readOr 2 none (rG 5 dd) K M [.ref t] (f_readOr M) (yGv K)) (hf_readOne : ∀ M : yM, yMet yX1_readOne cX1_readOne 1 none (rG 0 dd) K M [.ref t] (f_readOne M) (yGv K)) : yMet yX1_readOne cX1_readOne 1 none (rG 0 (dd + 1)) K M [.ref t] (b_X1_readOne_F f_readOr f_readOne K M t) (yGv K) := by
  refine yM_intro (by decide) (Nat.le_of_ble_eq_true rfl) (fun X r h C E => ?_)
  replace C : yCx X cX1_readOne RX1 "readOne" (rG 0 (dd + 1)) 1 := C
  show Y X K M 0 0 0 [(0, .ref t)] []
  unfold b_X1_readOne_F at h
  refine y_aload_n C dX1_readOne_0 rfl ?_
  obtain ⟨g1, h⟩ := gd h
  refine y_geti C fl_X1_37 g1 dX1_readOne_1 ?_
  refine y_iconst C dX1_readOne_4 kc_1 ?_
  refine y_icmp_ne C dX1_readOne_5 (tgt := 30) rfl (fun c2 => ?_) (fun c2 => ?_)
  · have h := itF c2 h
    refine y_aload_n C dX1_readOne_30 rfl ?_
    refine y_geti C fl_X1_37 g1 dX1_readOne_31 ?_
    refine y_sipush C dX1_readOne_34 ks_262 ?_
    refine y_icmp_lt C dX1_readOne_37 (tgt := 66) rfl (fun c3 => ?_) (fun c3 => ?_)
    · have h := itT c3 h
      refine y_aload_n C dX1_readOne_66 rfl ?_
      refine y_geti C fl_X1_37 g1 dX1_readOne_67 ?_
      refine y_bipush C dX1_readOne_70 kb_45 ?_
      refine y_icmp_ne C dX1_readOne_72 (tgt := 105) rfl (fun c4 => ?_) (fun c4 => ?_)
      · have h := itF c4 h
        refine y_aload_n C dX1_readOne_105 rfl ?_
        refine y_geti C fl_X1_37 g1 dX1_readOne_106 ?_
        refine y_bipush C dX1_readOne_109 kb_40 ?_
        refine y_icmp_ne C dX1_readOne_111 (tgt := 144) rfl (fun c5 => ?_) (fun c5 => ?_)
        · have h := itF c5 h
          refine y_aload_n C dX1_readOne_144 rfl ?_
          obtain ⟨r6, hr6, h⟩ := ob h
          refine y_cV C [] (m_X1_fail K M t) hr6 g1 cw_X1_50 rfl (by constructor <;> simp only [rG, rm_X1_fail] <;> omega) ⟨rfl, rfl⟩ ⟨Nat.zero_le _, Nat.zero_le _⟩ (Nat.le_of_ble_eq_true rfl) rfl rfl rfl dX1_readOne_145 ?_
          have e0 := Option.some.inj h
          subst e0
          exact y_vret C E (Nat.zero_le _) (Nat.zero_le _) dX1_readOne_148
        · have h := itT c5 h
          refine y_aload_n C dX1_readOne_114 rfl ?_
          obtain ⟨r7, hr7, h⟩ := ob h
          refine y_cV C [] (m_X1_enter K M t) hr7 g1 cw_X1_85 rfl (by constructor <;> simp only [rG, rm_X1_enter] <;> omega) ⟨rfl, rfl⟩ ⟨Nat.zero_le _, Nat.zero_le _⟩ (Nat.le_of_ble_eq_true rfl) rfl rfl rfl dX1_readOne_115 ?_
          refine y_ifeqB C dX1_readOne_118 (tgt := 148) rfl (fun c8 => ?_) (fun c8 => ?_)
          · have h := itFb c8 h
            have e0 := Option.some.inj h
            subst e0
            exact y_vret C E (Nat.zero_le _) (Nat.zero_le _) dX1_readOne_148
          · have h := itT c8 h
            refine y_aload_n C dX1_readOne_121 rfl ?_
            obtain ⟨r9, hr9, h⟩ := ob h
            refine y_cV C [] (hf_readOr r7.2) hr9 g1 cw_X1_73 rfl (by constructor <;> simp only [rG] <;> omega) ⟨rfl, rfl⟩ ⟨Nat.zero_le _, Nat.zero_le _⟩ (Nat.le_of_ble_eq_true rfl) rfl rfl rfl dX1_readOne_122 ?_
            refine y_aload_n C dX1_readOne_125 rfl ?_
            refine y_dup C dX1_readOne_126 rfl ?_
            refine y_geti C fl_X1_40 g1 dX1_readOne_127 ?_
            refine y_iconst C dX1_readOne_130 kc_1 ?_
            refine y_isub C dX1_readOne_131 ?_
            obtain ⟨M10, eM10, h⟩ := ob h
            have eM10 := Option.some.inj eM10
            refine y_puti C fl_X1_40 rfl g1 rfl rfl dX1_readOne_132 eM10 ?_
            refine y_aload_n C dX1_readOne_135 rfl ?_
            refine y_bipush C dX1_readOne_136 kb_41 ?_
            obtain ⟨r11, hr11, h⟩ := ob h
            refine y_cV C [.int (41 : Int32)] (m_X1_expect K M10 t ((41 : Int32))) hr11 g1 cw_X1_70 rfl (by constructor <;> simp only [rG, rm_X1_expect] <;> omega) ⟨rfl, rfl⟩ ⟨Nat.zero_le _, Nat.zero_le _⟩ (Nat.le_of_ble_eq_true rfl) rfl rfl rfl dX1_readOne_138 ?_
            refine y_goto C dX1_readOne_141 (tgt := 148) rfl ?_
            have e0 := Option.some.inj h
            subst e0
            exact y_vret C E (Nat.zero_le _) (Nat.zero_le _) dX1_readOne_148
      · have h := itT c4 h
        refine y_aload_n C dX1_readOne_75 rfl ?_
        obtain ⟨r12, hr12, h⟩ := ob h
        refine y_cV C [] (m_X1_enter K M t) hr12 g1 cw_X1_85 rfl (by constructor <;> simp only [rG, rm_X1_enter] <;> omega) ⟨rfl, rfl⟩ ⟨Nat.zero_le _, Nat.zero_le _⟩ (Nat.le_of_ble_eq_true rfl) rfl rfl rfl dX1_readOne_76 ?_
        refine y_ifeqB C dX1_readOne_79 (tgt := 148) rfl (fun c13 => ?_) (fun c13 => ?_)
        · have h := itFb c13 h
          have e0 := Option.some.inj h
          subst e0
          exact y_vret C E (Nat.zero_le _) (Nat.zero_le _) dX1_readOne_148
        · have h := itT c13 h
          refine y_aload_n C dX1_readOne_82 rfl ?_
          obtain ⟨r14, hr14, h⟩ := ob h
          refine y_cV C [] (hf_readOne r12.2) hr14 g1 cw_X1_95 rfl (by constructor <;> simp only [rG] <;> omega) ⟨rfl, rfl⟩ ⟨Nat.zero_le _, Nat.zero_le _⟩ (Nat.le_of_ble_eq_true rfl) rfl rfl rfl dX1_readOne_83 ?_
          refine y_aload_n C dX1_readOne_86 rfl ?_
          refine y_dup C dX1_readOne_87 rfl ?_
          refine y_geti C fl_X1_40 g1 dX1_readOne_88 ?_
          refine y_iconst C dX1_readOne_91 kc_1 ?_
          refine y_isub C dX1_readOne_92 ?_
          obtain ⟨M15, eM15, h⟩ := ob h
          have eM15 := Option.some.inj eM15
          refine y_puti C fl_X1_40 rfl g1 rfl rfl dX1_readOne_93 eM15 ?_
          refine y_aload_n C dX1_readOne_96 rfl ?_
          refine y_bipush C dX1_readOne_97 kb_m2 ?_
          obtain ⟨r16, hr16, h⟩ := ob h
          refine y_cV C [.int (-2 : Int32)] (m_X1_emit K M15 t ((-2 : Int32))) hr16 g1 cw_X1_79 rfl (by constructor <;> simp only [rG, rm_X1_emit] <;> omega) ⟨rfl, rfl⟩ ⟨Nat.zero_le _, Nat.zero_le _⟩ (Nat.le_of_ble_eq_true rfl) rfl rfl rfl dX1_readOne_99 ?_
          refine y_goto C dX1_readOne_102 (tgt := 148) rfl ?_
          have e0 := Option.some.inj h
          subst e0
          exact y_vret C E (Nat.zero_le _) (Nat.zero_le _) dX1_readOne_148
    · have h := itF c3 h
      refine y_aload_n C dX1_readOne_40 rfl ?_
      refine y_geti C fl_X1_37 g1 dX1_readOne_41 ?_
      refine y_sipush C dX1_readOne_44 ks_268 ?_
      refine y_icmp_ge C dX1_readOne_47 (tgt := 66) rfl (fun c17 => ?_) (fun c17 => ?_)
      · have h := itT c17 h
        refine y_aload_n C dX1_readOne_66 rfl ?_
        refine y_geti C fl_X1_37 g1 dX1_readOne_67 ?_
        refine y_bipush C dX1_readOne_70 kb_45 ?_
        refine y_icmp_ne C dX1_readOne_72 (tgt := 105) rfl (fun c18 => ?_) (fun c18 => ?_)
        · have h := itF c18 h
          refine y_aload_n C dX1_readOne_105 rfl ?_
          refine y_geti C fl_X1_37 g1 dX1_readOne_106 ?_
          refine y_bipush C dX1_readOne_109 kb_40 ?_
          refine y_icmp_ne C dX1_readOne_111 (tgt := 144) rfl (fun c19 => ?_) (fun c19 => ?_)
          · have h := itF c19 h
            refine y_aload_n C dX1_readOne_144 rfl ?_
            obtain ⟨r20, hr20, h⟩ := ob h
            refine y_cV C [] (m_X1_fail K M t) hr20 g1 cw_X1_50 rfl (by constructor <;> simp only [rG, rm_X1_fail] <;> omega) ⟨rfl, rfl⟩ ⟨Nat.zero_le _, Nat.zero_le _⟩ (Nat.le_of_ble_eq_true rfl) rfl rfl rfl dX1_readOne_145 ?_
            have e0 := Option.some.inj h
            subst e0
            exact y_vret C E (Nat.zero_le _) (Nat.zero_le _) dX1_readOne_148
          · have h := itT c19 h
            refine y_aload_n C dX1_readOne_114 rfl ?_
            obtain ⟨r21, hr21, h⟩ := ob h
            refine y_cV C [] (m_X1_enter K M t) hr21 g1 cw_X1_85 rfl (by constructor <;> simp only [rG, rm_X1_enter] <;> omega) ⟨rfl, rfl⟩ ⟨Nat.zero_le _, Nat.zero_le _⟩ (Nat.le_of_ble_eq_true rfl) rfl rfl rfl dX1_readOne_115 ?_
            refine y_ifeqB C dX1_readOne_118 (tgt := 148) rfl (fun c22 => ?_) (fun c22 => ?_)
            · have h := itFb c22 h
              have e0 := Option.some.inj h
              subst e0
              exact y_vret C E (Nat.zero_le _) (Nat.zero_le _) dX1_readOne_148
            · have h := itT c22 h
              refine y_aload_n C dX1_readOne_121 rfl ?_
              obtain ⟨r23, hr23, h⟩ := ob h
              refine y_cV C [] (hf_readOr r21.2) hr23 g1 cw_X1_73 rfl (by constructor <;> simp only [rG] <;> omega) ⟨rfl, rfl⟩ ⟨Nat.zero_le _, Nat.zero_le _⟩ (Nat.le_of_ble_eq_true rfl) rfl rfl rfl dX1_readOne_122 ?_
              refine y_aload_n C dX1_readOne_125 rfl ?_
              refine y_dup C dX1_readOne_126 rfl ?_
              refine y_geti C fl_X1_40 g1 dX1_readOne_127 ?_
              refine y_iconst C dX1_readOne_130 kc_1 ?_
              refine y_isub C dX1_readOne_131 ?_
              obtain ⟨M24, eM24, h⟩ := ob h
              have eM24 := Option.some.inj eM24
              refine y_puti C fl_X1_40 rfl g1 rfl rfl dX1_readOne_132 eM24 ?_
              refine y_aload_n C dX1_readOne_135 rfl ?_
              refine y_bipush C dX1_readOne_136 kb_41 ?_
              obtain ⟨r25, hr25, h⟩ := ob h
              refine y_cV C [.int (41 : Int32)] (m_X1_expect K M24 t ((41 : Int32))) hr25 g1 cw_X1_70 rfl (by constructor <;> simp only [rG, rm_X1_expect] <;> omega) ⟨rfl, rfl⟩ ⟨Nat.zero_le _, Nat.zero_le _⟩ (Nat.le_of_ble_eq_true rfl) rfl rfl rfl dX1_readOne_138 ?_
              refine y_goto C dX1_readOne_141 (tgt := 148) rfl ?_
              have e0 := Option.some.inj h
              subst e0
              exact y_vret C E (Nat.zero_le _) (Nat.zero_le _) dX1_readOne_148
        · have h := itT c18 h
          refine y_aload_n C dX1_readOne_75 rfl ?_
          obtain ⟨r26, hr26, h⟩ := ob h
          refine y_cV C [] (m_X1_enter K M t) hr26 g1 cw_X1_85 rfl (by constructor <;> simp only [rG, rm_X1_enter] <;> omega) ⟨rfl, rfl⟩ ⟨Nat.zero_le _, Nat.zero_le _⟩ (Nat.le_of_ble_eq_true rfl) rfl rfl rfl dX1_readOne_76 ?_
          refine y_ifeqB C dX1_readOne_79 (tgt := 148) rfl (fun c27 => ?_) (fun c27 => ?_)
          · have h := itFb c27 h
            have e0 := Option.some.inj h
            subst e0
            exact y_vret C E (Nat.zero_le _) (Nat.zero_le _) dX1_readOne_148
          · have h := itT c27 h
            refine y_aload_n C dX1_readOne_82 rfl ?_
            obtain ⟨r28, hr28, h⟩ := ob h
            refine y_cV C [] (hf_readOne r26.2) hr28 g1 cw_X1_95 rfl (by constructor <;> simp only [rG] <;> omega) ⟨rfl, rfl⟩ ⟨Nat.zero_le _, Nat.zero_le _⟩ (Nat.le_of_ble_eq_true rfl) rfl rfl rfl dX1_readOne_83 ?_
            refine y_aload_n C dX1_readOne_86 rfl ?_
            refine y_dup C dX1_readOne_87 rfl ?_
            refine y_geti C fl_X1_40 g1 dX1_readOne_88 ?_
            refine y_iconst C dX1_readOne_91 kc_1 ?_
            refine y_isub C dX1_readOne_92 ?_
            obtain ⟨M29, eM29, h⟩ := ob h
            have eM29 := Option.some.inj eM29
            refine y_puti C fl_X1_40 rfl g1 rfl rfl dX1_readOne_93 eM29 ?_
            refine y_aload_n C dX1_readOne_96 rfl ?_
            refine y_bipush C dX1_readOne_97 kb_m2 ?_
            obtain ⟨r30, hr30, h⟩ := ob h
            refine y_cV C [.int (-2 : Int32)] (m_X1_emit K M29 t ((-2 : Int32))) hr30 g1 cw_X1_79 rfl (by constructor <;> simp only [rG, rm_X1_emit] <;> omega) ⟨rfl, rfl⟩ ⟨Nat.zero_le _, Nat.zero_le _⟩ (Nat.le_of_ble_eq_true rfl) rfl rfl rfl dX1_readOne_99 ?_
            refine y_goto C dX1_readOne_102 (tgt := 148) rfl ?_
            have e0 := Option.some.inj h
            subst e0
            exact y_vret C E (Nat.zero_le _) (Nat.zero_le _) dX1_readOne_148
      · have h := itF c17 h
        refine y_aload_n C dX1_readOne_50 rfl ?_
        refine y_aload_n C dX1_readOne_51 rfl ?_
        refine y_geti C fl_X1_37 g1 dX1_readOne_52 ?_
        refine y_ineg C dX1_readOne_55 ?_
        obtain ⟨r31, hr31, h⟩ := ob h
        refine y_cV C [.int (-(M t 4))] (m_X1_emit K M t ((-(M t 4)))) hr31 g1 cw_X1_79 rfl (by constructor <;> simp only [rG, rm_X1_emit] <;> omega) ⟨rfl, rfl⟩ ⟨Nat.zero_le _, Nat.zero_le _⟩ (Nat.le_of_ble_eq_true rfl) rfl rfl rfl dX1_readOne_56 ?_
        refine y_aload_n C dX1_readOne_59 rfl ?_
        obtain ⟨r32, hr32, h⟩ := ob h
        refine y_cV C [] (m_X1_next K r31 t) hr32 g1 cw_X1_67 rfl (by constructor <;> simp only [rG, rm_X1_next] <;> omega) ⟨rfl, rfl⟩ ⟨Nat.zero_le _, Nat.zero_le _⟩ (Nat.le_of_ble_eq_true rfl) rfl rfl rfl dX1_readOne_60 ?_
        refine y_goto C dX1_readOne_63 (tgt := 148) rfl ?_
        have e0 := Option.some.inj h
        subst e0
        exact y_vret C E (Nat.zero_le _) (Nat.zero_le _) dX1_readOne_148
  · have h := itT c2 h
    refine y_aload_n C dX1_readOne_8 rfl ?_
    refine y_aload_n C dX1_readOne_9 rfl ?_
    obtain ⟨q33, hq33, h⟩ := ob h
    refine y_getr C fl_X1_12 g1 hq33 dX1_readOne_10 ?_
    refine y_aload_n C dX1_readOne_13 rfl ?_
    refine y_geti C fl_X1_30 g1 dX1_readOne_14 ?_
    obtain ⟨g34, h⟩ := gd h
    obtain ⟨r35, hr35, h⟩ := ob h
    refine y_cV C [.int (M t 3)] (m_X6_numberAt K M q33 ((M t 3))) hr35 g34 cw_X1_98 rfl (by constructor <;> simp only [rG, rm_X6_numberAt] <;> omega) ⟨rfl, rfl⟩ ⟨Nat.zero_le _, Nat.zero_le _⟩ (Nat.le_of_ble_eq_true rfl) rfl rfl rfl dX1_readOne_17 ?_
    obtain ⟨r36, hr36, h⟩ := ob h
    refine y_cV C [.int r35] (m_X1_emit K M t r35) hr36 g1 cw_X1_79 rfl (by constructor <;> simp only [rG, rm_X1_emit] <;> omega) ⟨rfl, rfl⟩ ⟨Nat.zero_le _, Nat.zero_le _⟩ (Nat.le_of_ble_eq_true rfl) rfl rfl rfl dX1_readOne_20 ?_
    refine y_aload_n C dX1_readOne_23 rfl ?_
    obtain ⟨r37, hr37, h⟩ := ob h
    refine y_cV C [] (m_X1_next K r36 t) hr37 g1 cw_X1_67 rfl (by constructor <;> simp only [rG, rm_X1_next] <;> omega) ⟨rfl, rfl⟩ ⟨Nat.zero_le _, Nat.zero_le _⟩ (Nat.le_of_ble_eq_true rfl) rfl rfl rfl dX1_readOne_24 ?_
    refine y_goto C dX1_readOne_27 (tgt := 148) rfl ?_
    have e0 := Option.some.inj h
    subst e0
    exact y_vret C E (Nat.zero_le _) (Nat.zero_le _) dX1_readOne_148
def b_X1_readTerm_6 (f_readOne : yM → Option yM) (K : yK) (t : Nat) : Nat → yM → Int32 → Option yM
  | 0, _, _ => none
  | n + 1, M, u6_1 => (if (160 : Int32) ≤ u6_1 then (some M) else (if gO K t 1 = true then (if (M t 4) = (42 : Int32) then (Option.bind (b_X1_next K M t) fun r4 => (Option.bind (f_readOne r4) fun r5 => (Option.bind (b_X1_emit K r5 t ((-42 : Int32))) fun r6 => (Option.bind (some (u6_1 + (1 : Int32))) fun v7 => (b_X1_readTerm_6 f_readOne K t n r6 v7))))) else (some M)) else none))
set_option maxHeartbeats 4000000 in
set_option maxRecDepth 100000 in
theorem l_X1_readTerm_6 {X : yX} {K : yK} {t : Nat} (f_readOne : yM → Option yM) (dd : Nat) (hf_readOne : ∀ M : yM, yMet yX1_readOne cX1_readOne 1 none (rG 0 dd) K M [.ref t] (f_readOne M) (yGv K)) (C : yCx X cX1_readTerm RX1 "readTerm" (rG 1 dd) 2) : ∀ (n : Nat) (M : yM) (u6_1 : Int32) (x : yM), b_X1_readTerm_6 f_readOne K t n M u6_1 = some x → ∀ (hX : Y X K x 0 0 42 [] []), Y X K M 0 0 6 [(0, .ref t), (1, .int u6_1)] [] := by
  intro n
  induction n with
  | zero =>
    intro M u6_1 x h
    exact nomatch (show (none : Option _) = some x from h)
  | succ n ih =>
    intro M u6_1 x h hX
    rw [b_X1_readTerm_6] at h
    refine y_iload_n C dX1_readTerm_6 rfl ?_
    refine y_sipush C dX1_readTerm_7 ks_160 ?_
    refine y_icmp_ge C dX1_readTerm_10 (tgt := 42) rfl (fun c1 => ?_) (fun c1 => ?_)
    · have h := itT c1 h
      have e0 := Option.some.inj h
      subst e0
      exact y_sel [] rfl hX
    · have h := itF c1 h
      refine y_aload_n C dX1_readTerm_13 rfl ?_
      obtain ⟨g2, h⟩ := gd h
      refine y_geti C fl_X1_37 g2 dX1_readTerm_14 ?_
      refine y_bipush C dX1_readTerm_17 kb_42 ?_
      refine y_icmp_ne C dX1_readTerm_19 (tgt := 42) rfl (fun c3 => ?_) (fun c3 => ?_)
      · have h := itF c3 h
        have e0 := Option.some.inj h
        subst e0
        exact y_sel [] rfl hX
      · have h := itT c3 h
        refine y_aload_n C dX1_readTerm_22 rfl ?_
        obtain ⟨r4, hr4, h⟩ := ob h
        refine y_cV C [] (m_X1_next K M t) hr4 g2 cw_X1_67 rfl (by constructor <;> simp only [rG, rm_X1_next] <;> omega) ⟨rfl, rfl⟩ ⟨Nat.zero_le _, Nat.zero_le _⟩ (Nat.le_of_ble_eq_true rfl) rfl rfl rfl dX1_readTerm_23 ?_
        refine y_aload_n C dX1_readTerm_26 rfl ?_
        obtain ⟨r5, hr5, h⟩ := ob h
        refine y_cV C [] (hf_readOne r4) hr5 g2 cw_X1_95 rfl (by constructor <;> simp only [rG] <;> omega) ⟨rfl, rfl⟩ ⟨Nat.zero_le _, Nat.zero_le _⟩ (Nat.le_of_ble_eq_true rfl) rfl rfl rfl dX1_readTerm_27 ?_
        refine y_aload_n C dX1_readTerm_30 rfl ?_
        refine y_bipush C dX1_readTerm_31 kb_m42 ?_
        obtain ⟨r6, hr6, h⟩ := ob h
        refine y_cV C [.int (-42 : Int32)] (m_X1_emit K r5 t ((-42 : Int32))) hr6 g2 cw_X1_79 rfl (by constructor <;> simp only [rG, rm_X1_emit] <;> omega) ⟨rfl, rfl⟩ ⟨Nat.zero_le _, Nat.zero_le _⟩ (Nat.le_of_ble_eq_true rfl) rfl rfl rfl dX1_readTerm_33 ?_
        obtain ⟨v7, ev7, h⟩ := ob h
        have ev7 := Option.some.inj ev7
        refine y_iinc C dX1_readTerm_36 (by decide) rfl (v := v7) (by subst ev7; rfl) (L' := [(1, .int v7), (0, .ref t)]) rfl ?_
        refine y_goto C dX1_readTerm_39 (tgt := 6) rfl ?_
        exact y_sel [0, 1] rfl (ih _ _ _  h hX)
set_option maxRecDepth 100000 in
def b_X1_readTerm_F (f_readOne : yM → Option yM) (K : yK) (M : yM) (t : Nat) : Option yM := (if gO K t 1 = true then (Option.bind (f_readOne M) fun r2 => (Option.bind (b_X1_readTerm_6 f_readOne K t 1000 r2 ((0 : Int32))) fun j3 => (some j3))) else none)
set_option maxHeartbeats 4000000 in
set_option maxRecDepth 100000 in
theorem m_X1_readTerm_F (f_readOne : yM → Option yM) (K : yK) (M : yM) (t : Nat) (dd : Nat) (hf_readOne : ∀ M : yM, yMet yX1_readOne cX1_readOne 1 none (rG 0 dd) K M [.ref t] (f_readOne M) (yGv K)) : yMet yX1_readTerm cX1_readTerm 2 none (rG 1 dd) K M [.ref t] (b_X1_readTerm_F f_readOne K M t) (yGv K) := by
  refine yM_intro (by decide) (Nat.le_of_ble_eq_true rfl) (fun X r h C E => ?_)
  replace C : yCx X cX1_readTerm RX1 "readTerm" (rG 1 dd) 2 := C
  show Y X K M 0 0 0 [(0, .ref t)] []
  unfold b_X1_readTerm_F at h
  refine y_aload_n C dX1_readTerm_0 rfl ?_
  obtain ⟨g1, h⟩ := gd h
  obtain ⟨r2, hr2, h⟩ := ob h
  refine y_cV C [] (hf_readOne M) hr2 g1 cw_X1_95 rfl (by constructor <;> simp only [rG] <;> omega) ⟨rfl, rfl⟩ ⟨Nat.zero_le _, Nat.zero_le _⟩ (Nat.le_of_ble_eq_true rfl) rfl rfl rfl dX1_readTerm_1 ?_
  refine y_iconst C dX1_readTerm_4 kc_0 ?_
  refine y_istore_n C dX1_readTerm_5 (by decide) (L' := [(1, .int (0)), (0, .ref t)]) rfl ?_
  obtain ⟨j3, hj3, h⟩ := ob h
  refine y_sel [0, 1] rfl (l_X1_readTerm_6 f_readOne dd hf_readOne C 1000 _ _ _ hj3 ?_)
  have e0 := Option.some.inj h
  subst e0
  exact y_vret C E (Nat.zero_le _) (Nat.zero_le _) dX1_readTerm_42
def b_X1_readSum_6 (f_readTerm : yM → Option yM) (K : yK) (t : Nat) : Nat → yM → Int32 → Option yM
  | 0, _, _ => none
  | n + 1, M, u6_1 => (if (160 : Int32) ≤ u6_1 then (some M) else (if gO K t 1 = true then (if (M t 4) = (43 : Int32) then (Option.bind (some (M t 4)) fun v4 => (Option.bind (b_X1_next K M t) fun r5 => (Option.bind (f_readTerm r5) fun r6 => (Option.bind (b_X1_emit K r6 t (-v4)) fun r7 => (Option.bind (some (u6_1 + (1 : Int32))) fun v8 => (b_X1_readSum_6 f_readTerm K t n r7 v8)))))) else (if (M t 4) = (45 : Int32) then (Option.bind (some (M t 4)) fun v10 => (Option.bind (b_X1_next K M t) fun r11 => (Option.bind (f_readTerm r11) fun r12 => (Option.bind (b_X1_emit K r12 t (-v10)) fun r13 => (Option.bind (some (u6_1 + (1 : Int32))) fun v14 => (b_X1_readSum_6 f_readTerm K t n r13 v14)))))) else (some M))) else none))
set_option maxHeartbeats 4000000 in
set_option maxRecDepth 100000 in
theorem l_X1_readSum_6 {X : yX} {K : yK} {t : Nat} (f_readTerm : yM → Option yM) (dd : Nat) (hf_readTerm : ∀ M : yM, yMet yX1_readTerm cX1_readTerm 2 none (rG 1 dd) K M [.ref t] (f_readTerm M) (yGv K)) (C : yCx X cX1_readSum RX1 "readSum" (rG 2 dd) 3) : ∀ (n : Nat) (M : yM) (u6_1 : Int32) (x : yM), b_X1_readSum_6 f_readTerm K t n M u6_1 = some x → ∀ (hX : Y X K x 0 0 56 [] []), Y X K M 0 0 6 [(0, .ref t), (1, .int u6_1)] [] := by
  intro n
  induction n with
  | zero =>
    intro M u6_1 x h
    exact nomatch (show (none : Option _) = some x from h)
  | succ n ih =>
    intro M u6_1 x h hX
    rw [b_X1_readSum_6] at h
    refine y_iload_n C dX1_readSum_6 rfl ?_
    refine y_sipush C dX1_readSum_7 ks_160 ?_
    refine y_icmp_ge C dX1_readSum_10 (tgt := 56) rfl (fun c1 => ?_) (fun c1 => ?_)
    · have h := itT c1 h
      have e0 := Option.some.inj h
      subst e0
      exact y_sel [] rfl hX
    · have h := itF c1 h
      refine y_aload_n C dX1_readSum_13 rfl ?_
      obtain ⟨g2, h⟩ := gd h
      refine y_geti C fl_X1_37 g2 dX1_readSum_14 ?_
      refine y_bipush C dX1_readSum_17 kb_43 ?_
      refine y_icmp_eq C dX1_readSum_19 (tgt := 31) rfl (fun c3 => ?_) (fun c3 => ?_)
      · have h := itT c3 h
        refine y_aload_n C dX1_readSum_31 rfl ?_
        refine y_geti C fl_X1_37 g2 dX1_readSum_32 ?_
        obtain ⟨v4, ev4, h⟩ := ob h
        have ev4 := Option.some.inj ev4
        refine y_istore_n C dX1_readSum_35 (by decide) (L' := [(2, .int v4), (0, .ref t), (1, .int u6_1)]) (by subst ev4; rfl) ?_
        refine y_aload_n C dX1_readSum_36 rfl ?_
        obtain ⟨r5, hr5, h⟩ := ob h
        refine y_cV C [] (m_X1_next K M t) hr5 g2 cw_X1_67 rfl (by constructor <;> simp only [rG, rm_X1_next] <;> omega) ⟨rfl, rfl⟩ ⟨Nat.zero_le _, Nat.zero_le _⟩ (Nat.le_of_ble_eq_true rfl) rfl rfl rfl dX1_readSum_37 ?_
        refine y_aload_n C dX1_readSum_40 rfl ?_
        obtain ⟨r6, hr6, h⟩ := ob h
        refine y_cV C [] (hf_readTerm r5) hr6 g2 cw_X1_92 rfl (by constructor <;> simp only [rG] <;> omega) ⟨rfl, rfl⟩ ⟨Nat.zero_le _, Nat.zero_le _⟩ (Nat.le_of_ble_eq_true rfl) rfl rfl rfl dX1_readSum_41 ?_
        refine y_aload_n C dX1_readSum_44 rfl ?_
        refine y_iload_n C dX1_readSum_45 rfl ?_
        refine y_ineg C dX1_readSum_46 ?_
        obtain ⟨r7, hr7, h⟩ := ob h
        refine y_cV C [.int (-v4)] (m_X1_emit K r6 t (-v4)) hr7 g2 cw_X1_79 rfl (by constructor <;> simp only [rG, rm_X1_emit] <;> omega) ⟨rfl, rfl⟩ ⟨Nat.zero_le _, Nat.zero_le _⟩ (Nat.le_of_ble_eq_true rfl) rfl rfl rfl dX1_readSum_47 ?_
        obtain ⟨v8, ev8, h⟩ := ob h
        have ev8 := Option.some.inj ev8
        refine y_iinc C dX1_readSum_50 (by decide) rfl (v := v8) (by subst ev8; rfl) (L' := [(1, .int v8), (2, .int v4), (0, .ref t)]) rfl ?_
        refine y_goto C dX1_readSum_53 (tgt := 6) rfl ?_
        exact y_sel [0, 1] rfl (ih _ _ _  h hX)
      · have h := itF c3 h
        refine y_aload_n C dX1_readSum_22 rfl ?_
        refine y_geti C fl_X1_37 g2 dX1_readSum_23 ?_
        refine y_bipush C dX1_readSum_26 kb_45 ?_
        refine y_icmp_ne C dX1_readSum_28 (tgt := 56) rfl (fun c9 => ?_) (fun c9 => ?_)
        · have h := itF c9 h
          have e0 := Option.some.inj h
          subst e0
          exact y_sel [] rfl hX
        · have h := itT c9 h
          refine y_aload_n C dX1_readSum_31 rfl ?_
          refine y_geti C fl_X1_37 g2 dX1_readSum_32 ?_
          obtain ⟨v10, ev10, h⟩ := ob h
          have ev10 := Option.some.inj ev10
          refine y_istore_n C dX1_readSum_35 (by decide) (L' := [(2, .int v10), (0, .ref t), (1, .int u6_1)]) (by subst ev10; rfl) ?_
          refine y_aload_n C dX1_readSum_36 rfl ?_
          obtain ⟨r11, hr11, h⟩ := ob h
          refine y_cV C [] (m_X1_next K M t) hr11 g2 cw_X1_67 rfl (by constructor <;> simp only [rG, rm_X1_next] <;> omega) ⟨rfl, rfl⟩ ⟨Nat.zero_le _, Nat.zero_le _⟩ (Nat.le_of_ble_eq_true rfl) rfl rfl rfl dX1_readSum_37 ?_
          refine y_aload_n C dX1_readSum_40 rfl ?_
          obtain ⟨r12, hr12, h⟩ := ob h
          refine y_cV C [] (hf_readTerm r11) hr12 g2 cw_X1_92 rfl (by constructor <;> simp only [rG] <;> omega) ⟨rfl, rfl⟩ ⟨Nat.zero_le _, Nat.zero_le _⟩ (Nat.le_of_ble_eq_true rfl) rfl rfl rfl dX1_readSum_41 ?_
          refine y_aload_n C dX1_readSum_44 rfl ?_
          refine y_iload_n C dX1_readSum_45 rfl ?_
          refine y_ineg C dX1_readSum_46 ?_
          obtain ⟨r13, hr13, h⟩ := ob h
          refine y_cV C [.int (-v10)] (m_X1_emit K r12 t (-v10)) hr13 g2 cw_X1_79 rfl (by constructor <;> simp only [rG, rm_X1_emit] <;> omega) ⟨rfl, rfl⟩ ⟨Nat.zero_le _, Nat.zero_le _⟩ (Nat.le_of_ble_eq_true rfl) rfl rfl rfl dX1_readSum_47 ?_
          obtain ⟨v14, ev14, h⟩ := ob h
          have ev14 := Option.some.inj ev14
          refine y_iinc C dX1_readSum_50 (by decide) rfl (v := v14) (by subst ev14; rfl) (L' := [(1, .int v14), (2, .int v10), (0, .ref t)]) rfl ?_
          refine y_goto C dX1_readSum_53 (tgt := 6) rfl ?_
          exact y_sel [0, 1] rfl (ih _ _ _  h hX)
set_option maxRecDepth 100000 in
def b_X1_readSum_F (f_readTerm : yM → Option yM) (K : yK) (M : yM) (t : Nat) : Option yM := (if gO K t 1 = true then (Option.bind (f_readTerm M) fun r2 => (Option.bind (b_X1_readSum_6 f_readTerm K t 1000 r2 ((0 : Int32))) fun j3 => (some j3))) else none)
set_option maxHeartbeats 4000000 in
set_option maxRecDepth 100000 in
theorem m_X1_readSum_F (f_readTerm : yM → Option yM) (K : yK) (M : yM) (t : Nat) (dd : Nat) (hf_readTerm : ∀ M : yM, yMet yX1_readTerm cX1_readTerm 2 none (rG 1 dd) K M [.ref t] (f_readTerm M) (yGv K)) : yMet yX1_readSum cX1_readSum 3 none (rG 2 dd) K M [.ref t] (b_X1_readSum_F f_readTerm K M t) (yGv K) := by
  refine yM_intro (by decide) (Nat.le_of_ble_eq_true rfl) (fun X r h C E => ?_)
  replace C : yCx X cX1_readSum RX1 "readSum" (rG 2 dd) 3 := C
  show Y X K M 0 0 0 [(0, .ref t)] []
  unfold b_X1_readSum_F at h
  refine y_aload_n C dX1_readSum_0 rfl ?_
  obtain ⟨g1, h⟩ := gd h
  obtain ⟨r2, hr2, h⟩ := ob h
  refine y_cV C [] (hf_readTerm M) hr2 g1 cw_X1_92 rfl (by constructor <;> simp only [rG] <;> omega) ⟨rfl, rfl⟩ ⟨Nat.zero_le _, Nat.zero_le _⟩ (Nat.le_of_ble_eq_true rfl) rfl rfl rfl dX1_readSum_1 ?_
  refine y_iconst C dX1_readSum_4 kc_0 ?_
  refine y_istore_n C dX1_readSum_5 (by decide) (L' := [(1, .int (0)), (0, .ref t)]) rfl ?_
  obtain ⟨j3, hj3, h⟩ := ob h
  refine y_sel [0, 1] rfl (l_X1_readSum_6 f_readTerm dd hf_readTerm C 1000 _ _ _ hj3 ?_)
  have e0 := Option.some.inj h
  subst e0
  exact y_vret C E (Nat.zero_le _) (Nat.zero_le _) dX1_readSum_56
set_option maxRecDepth 100000 in
def b_X1_readNot_F (f_readNot : yM → Option yM) (f_readSum : yM → Option yM) (K : yK) (M : yM) (t : Nat) : Option yM := (if gO K t 1 = true then (if (M t 4) = (261 : Int32) then (Option.bind (b_X1_enter K M t) fun r14 => (if r14.1 = true then (Option.bind (f_readNot r14.2) fun r16 => (Option.bind (some (yS r16 t 5 ((r16 t 5) - (1 : Int32)))) fun M17 => (Option.bind (b_X1_emit K M17 t ((-261 : Int32))) fun r18 => (some r18)))) else (some r14.2))) else (Option.bind (f_readSum M) fun r3 => (if (r3 t 4) = (60 : Int32) then (Option.bind (some (r3 t 4)) fun v5 => (Option.bind (b_X1_next K r3 t) fun r6 => (Option.bind (f_readSum r6) fun r7 => (Option.bind (b_X1_emit K r7 t (-v5)) fun r8 => (some r8))))) else (if (r3 t 4) = (61 : Int32) then (Option.bind (some (r3 t 4)) fun v10 => (Option.bind (b_X1_next K r3 t) fun r11 => (Option.bind (f_readSum r11) fun r12 => (Option.bind (b_X1_emit K r12 t (-v10)) fun r13 => (some r13))))) else (some r3))))) else none)
set_option maxHeartbeats 4000000 in
set_option maxRecDepth 100000 in
theorem m_X1_readNot_F (f_readNot : yM → Option yM) (f_readSum : yM → Option yM) (K : yK) (M : yM) (t : Nat) (dd : Nat) (hf_readNot : ∀ M : yM, yMet yX1_readNot cX1_readNot 2 none (rG 3 dd) K M [.ref t] (f_readNot M) (yGv K)) (hf_readSum : ∀ M : yM, yMet yX1_readSum cX1_readSum 3 none (rG 2 (dd + 1)) K M [.ref t] (f_readSum M) (yGv K)) : yMet yX1_readNot cX1_readNot 2 none (rG 3 (dd + 1)) K M [.ref t] (b_X1_readNot_F f_readNot f_readSum K M t) (yGv K) := by
  refine yM_intro (by decide) (Nat.le_of_ble_eq_true rfl) (fun X r h C E => ?_)
  replace C : yCx X cX1_readNot RX1 "readNot" (rG 3 (dd + 1)) 2 := C
  show Y X K M 0 0 0 [(0, .ref t)] []
  unfold b_X1_readNot_F at h
  refine y_aload_n C dX1_readNot_0 rfl ?_
  obtain ⟨g1, h⟩ := gd h
  refine y_geti C fl_X1_37 g1 dX1_readNot_1 ?_
  refine y_sipush C dX1_readNot_4 ks_261 ?_
  refine y_icmp_ne C dX1_readNot_7 (tgt := 39) rfl (fun c2 => ?_) (fun c2 => ?_)
  · have h := itF c2 h
    refine y_aload_n C dX1_readNot_39 rfl ?_
    obtain ⟨r3, hr3, h⟩ := ob h
    refine y_cV C [] (hf_readSum M) hr3 g1 cw_X1_89 rfl (by constructor <;> simp only [rG] <;> omega) ⟨rfl, rfl⟩ ⟨Nat.zero_le _, Nat.zero_le _⟩ (Nat.le_of_ble_eq_true rfl) rfl rfl rfl dX1_readNot_40 ?_
    refine y_aload_n C dX1_readNot_43 rfl ?_
    refine y_geti C fl_X1_37 g1 dX1_readNot_44 ?_
    refine y_bipush C dX1_readNot_47 kb_60 ?_
    refine y_icmp_eq C dX1_readNot_49 (tgt := 61) rfl (fun c4 => ?_) (fun c4 => ?_)
    · have h := itT c4 h
      refine y_aload_n C dX1_readNot_61 rfl ?_
      refine y_geti C fl_X1_37 g1 dX1_readNot_62 ?_
      obtain ⟨v5, ev5, h⟩ := ob h
      have ev5 := Option.some.inj ev5
      refine y_istore_n C dX1_readNot_65 (by decide) (L' := [(1, .int v5), (0, .ref t)]) (by subst ev5; rfl) ?_
      refine y_aload_n C dX1_readNot_66 rfl ?_
      obtain ⟨r6, hr6, h⟩ := ob h
      refine y_cV C [] (m_X1_next K r3 t) hr6 g1 cw_X1_67 rfl (by constructor <;> simp only [rG, rm_X1_next] <;> omega) ⟨rfl, rfl⟩ ⟨Nat.zero_le _, Nat.zero_le _⟩ (Nat.le_of_ble_eq_true rfl) rfl rfl rfl dX1_readNot_67 ?_
      refine y_aload_n C dX1_readNot_70 rfl ?_
      obtain ⟨r7, hr7, h⟩ := ob h
      refine y_cV C [] (hf_readSum r6) hr7 g1 cw_X1_89 rfl (by constructor <;> simp only [rG] <;> omega) ⟨rfl, rfl⟩ ⟨Nat.zero_le _, Nat.zero_le _⟩ (Nat.le_of_ble_eq_true rfl) rfl rfl rfl dX1_readNot_71 ?_
      refine y_aload_n C dX1_readNot_74 rfl ?_
      refine y_iload_n C dX1_readNot_75 rfl ?_
      refine y_ineg C dX1_readNot_76 ?_
      obtain ⟨r8, hr8, h⟩ := ob h
      refine y_cV C [.int (-v5)] (m_X1_emit K r7 t (-v5)) hr8 g1 cw_X1_79 rfl (by constructor <;> simp only [rG, rm_X1_emit] <;> omega) ⟨rfl, rfl⟩ ⟨Nat.zero_le _, Nat.zero_le _⟩ (Nat.le_of_ble_eq_true rfl) rfl rfl rfl dX1_readNot_77 ?_
      have e0 := Option.some.inj h
      subst e0
      exact y_vret C E (Nat.zero_le _) (Nat.zero_le _) dX1_readNot_80
    · have h := itF c4 h
      refine y_aload_n C dX1_readNot_52 rfl ?_
      refine y_geti C fl_X1_37 g1 dX1_readNot_53 ?_
      refine y_bipush C dX1_readNot_56 kb_61 ?_
      refine y_icmp_ne C dX1_readNot_58 (tgt := 80) rfl (fun c9 => ?_) (fun c9 => ?_)
      · have h := itF c9 h
        have e0 := Option.some.inj h
        subst e0
        exact y_vret C E (Nat.zero_le _) (Nat.zero_le _) dX1_readNot_80
      · have h := itT c9 h
        refine y_aload_n C dX1_readNot_61 rfl ?_
        refine y_geti C fl_X1_37 g1 dX1_readNot_62 ?_
        obtain ⟨v10, ev10, h⟩ := ob h
        have ev10 := Option.some.inj ev10
        refine y_istore_n C dX1_readNot_65 (by decide) (L' := [(1, .int v10), (0, .ref t)]) (by subst ev10; rfl) ?_
        refine y_aload_n C dX1_readNot_66 rfl ?_
        obtain ⟨r11, hr11, h⟩ := ob h
        refine y_cV C [] (m_X1_next K r3 t) hr11 g1 cw_X1_67 rfl (by constructor <;> simp only [rG, rm_X1_next] <;> omega) ⟨rfl, rfl⟩ ⟨Nat.zero_le _, Nat.zero_le _⟩ (Nat.le_of_ble_eq_true rfl) rfl rfl rfl dX1_readNot_67 ?_
        refine y_aload_n C dX1_readNot_70 rfl ?_
        obtain ⟨r12, hr12, h⟩ := ob h
        refine y_cV C [] (hf_readSum r11) hr12 g1 cw_X1_89 rfl (by constructor <;> simp only [rG] <;> omega) ⟨rfl, rfl⟩ ⟨Nat.zero_le _, Nat.zero_le _⟩ (Nat.le_of_ble_eq_true rfl) rfl rfl rfl dX1_readNot_71 ?_
        refine y_aload_n C dX1_readNot_74 rfl ?_
        refine y_iload_n C dX1_readNot_75 rfl ?_
        refine y_ineg C dX1_readNot_76 ?_
        obtain ⟨r13, hr13, h⟩ := ob h
        refine y_cV C [.int (-v10)] (m_X1_emit K r12 t (-v10)) hr13 g1 cw_X1_79 rfl (by constructor <;> simp only [rG, rm_X1_emit] <;> omega) ⟨rfl, rfl⟩ ⟨Nat.zero_le _, Nat.zero_le _⟩ (Nat.le_of_ble_eq_true rfl) rfl rfl rfl dX1_readNot_77 ?_
        have e0 := Option.some.inj h
        subst e0
        exact y_vret C E (Nat.zero_le _) (Nat.zero_le _) dX1_readNot_80
  · have h := itT c2 h
    refine y_aload_n C dX1_readNot_10 rfl ?_
    obtain ⟨r14, hr14, h⟩ := ob h
    refine y_cV C [] (m_X1_enter K M t) hr14 g1 cw_X1_85 rfl (by constructor <;> simp only [rG, rm_X1_enter] <;> omega) ⟨rfl, rfl⟩ ⟨Nat.zero_le _, Nat.zero_le _⟩ (Nat.le_of_ble_eq_true rfl) rfl rfl rfl dX1_readNot_11 ?_
    refine y_ifeqB C dX1_readNot_14 (tgt := 38) rfl (fun c15 => ?_) (fun c15 => ?_)
    · have h := itFb c15 h
      have e0 := Option.some.inj h
      subst e0
      exact y_vret C E (Nat.zero_le _) (Nat.zero_le _) dX1_readNot_38
    · have h := itT c15 h
      refine y_aload_n C dX1_readNot_17 rfl ?_
      obtain ⟨r16, hr16, h⟩ := ob h
      refine y_cV C [] (hf_readNot r14.2) hr16 g1 cw_X1_82 rfl (by constructor <;> simp only [rG] <;> omega) ⟨rfl, rfl⟩ ⟨Nat.zero_le _, Nat.zero_le _⟩ (Nat.le_of_ble_eq_true rfl) rfl rfl rfl dX1_readNot_18 ?_
      refine y_aload_n C dX1_readNot_21 rfl ?_
      refine y_dup C dX1_readNot_22 rfl ?_
      refine y_geti C fl_X1_40 g1 dX1_readNot_23 ?_
      refine y_iconst C dX1_readNot_26 kc_1 ?_
      refine y_isub C dX1_readNot_27 ?_
      obtain ⟨M17, eM17, h⟩ := ob h
      have eM17 := Option.some.inj eM17
      refine y_puti C fl_X1_40 rfl g1 rfl rfl dX1_readNot_28 eM17 ?_
      refine y_aload_n C dX1_readNot_31 rfl ?_
      refine y_sipush C dX1_readNot_32 ks_m261 ?_
      obtain ⟨r18, hr18, h⟩ := ob h
      refine y_cV C [.int (-261 : Int32)] (m_X1_emit K M17 t ((-261 : Int32))) hr18 g1 cw_X1_79 rfl (by constructor <;> simp only [rG, rm_X1_emit] <;> omega) ⟨rfl, rfl⟩ ⟨Nat.zero_le _, Nat.zero_le _⟩ (Nat.le_of_ble_eq_true rfl) rfl rfl rfl dX1_readNot_35 ?_
      have e0 := Option.some.inj h
      subst e0
      exact y_vret C E (Nat.zero_le _) (Nat.zero_le _) dX1_readNot_38
def b_X1_readAnd_6 (f_readNot : yM → Option yM) (K : yK) (t : Nat) : Nat → yM → Int32 → Option yM
  | 0, _, _ => none
  | n + 1, M, u6_1 => (if (160 : Int32) ≤ u6_1 then (some M) else (if gO K t 1 = true then (if (M t 4) = (260 : Int32) then (Option.bind (b_X1_next K M t) fun r4 => (Option.bind (f_readNot r4) fun r5 => (Option.bind (b_X1_emit K r5 t ((-260 : Int32))) fun r6 => (Option.bind (some (u6_1 + (1 : Int32))) fun v7 => (b_X1_readAnd_6 f_readNot K t n r6 v7))))) else (some M)) else none))
set_option maxHeartbeats 4000000 in
set_option maxRecDepth 100000 in
theorem l_X1_readAnd_6 {X : yX} {K : yK} {t : Nat} (f_readNot : yM → Option yM) (dd : Nat) (hf_readNot : ∀ M : yM, yMet yX1_readNot cX1_readNot 2 none (rG 3 dd) K M [.ref t] (f_readNot M) (yGv K)) (C : yCx X cX1_readAnd RX1 "readAnd" (rG 4 dd) 2) : ∀ (n : Nat) (M : yM) (u6_1 : Int32) (x : yM), b_X1_readAnd_6 f_readNot K t n M u6_1 = some x → ∀ (hX : Y X K x 0 0 44 [] []), Y X K M 0 0 6 [(0, .ref t), (1, .int u6_1)] [] := by
  intro n
  induction n with
  | zero =>
    intro M u6_1 x h
    exact nomatch (show (none : Option _) = some x from h)
  | succ n ih =>
    intro M u6_1 x h hX
    rw [b_X1_readAnd_6] at h
    refine y_iload_n C dX1_readAnd_6 rfl ?_
    refine y_sipush C dX1_readAnd_7 ks_160 ?_
    refine y_icmp_ge C dX1_readAnd_10 (tgt := 44) rfl (fun c1 => ?_) (fun c1 => ?_)
    · have h := itT c1 h
      have e0 := Option.some.inj h
      subst e0
      exact y_sel [] rfl hX
    · have h := itF c1 h
      refine y_aload_n C dX1_readAnd_13 rfl ?_
      obtain ⟨g2, h⟩ := gd h
      refine y_geti C fl_X1_37 g2 dX1_readAnd_14 ?_
      refine y_sipush C dX1_readAnd_17 ks_260 ?_
      refine y_icmp_ne C dX1_readAnd_20 (tgt := 44) rfl (fun c3 => ?_) (fun c3 => ?_)
      · have h := itF c3 h
        have e0 := Option.some.inj h
        subst e0
        exact y_sel [] rfl hX
      · have h := itT c3 h
        refine y_aload_n C dX1_readAnd_23 rfl ?_
        obtain ⟨r4, hr4, h⟩ := ob h
        refine y_cV C [] (m_X1_next K M t) hr4 g2 cw_X1_67 rfl (by constructor <;> simp only [rG, rm_X1_next] <;> omega) ⟨rfl, rfl⟩ ⟨Nat.zero_le _, Nat.zero_le _⟩ (Nat.le_of_ble_eq_true rfl) rfl rfl rfl dX1_readAnd_24 ?_
        refine y_aload_n C dX1_readAnd_27 rfl ?_
        obtain ⟨r5, hr5, h⟩ := ob h
        refine y_cV C [] (hf_readNot r4) hr5 g2 cw_X1_82 rfl (by constructor <;> simp only [rG] <;> omega) ⟨rfl, rfl⟩ ⟨Nat.zero_le _, Nat.zero_le _⟩ (Nat.le_of_ble_eq_true rfl) rfl rfl rfl dX1_readAnd_28 ?_
        refine y_aload_n C dX1_readAnd_31 rfl ?_
        refine y_sipush C dX1_readAnd_32 ks_m260 ?_
        obtain ⟨r6, hr6, h⟩ := ob h
        refine y_cV C [.int (-260 : Int32)] (m_X1_emit K r5 t ((-260 : Int32))) hr6 g2 cw_X1_79 rfl (by constructor <;> simp only [rG, rm_X1_emit] <;> omega) ⟨rfl, rfl⟩ ⟨Nat.zero_le _, Nat.zero_le _⟩ (Nat.le_of_ble_eq_true rfl) rfl rfl rfl dX1_readAnd_35 ?_
        obtain ⟨v7, ev7, h⟩ := ob h
        have ev7 := Option.some.inj ev7
        refine y_iinc C dX1_readAnd_38 (by decide) rfl (v := v7) (by subst ev7; rfl) (L' := [(1, .int v7), (0, .ref t)]) rfl ?_
        refine y_goto C dX1_readAnd_41 (tgt := 6) rfl ?_
        exact y_sel [0, 1] rfl (ih _ _ _  h hX)
set_option maxRecDepth 100000 in
def b_X1_readAnd_F (f_readNot : yM → Option yM) (K : yK) (M : yM) (t : Nat) : Option yM := (if gO K t 1 = true then (Option.bind (f_readNot M) fun r2 => (Option.bind (b_X1_readAnd_6 f_readNot K t 1000 r2 ((0 : Int32))) fun j3 => (some j3))) else none)
set_option maxHeartbeats 4000000 in
set_option maxRecDepth 100000 in
theorem m_X1_readAnd_F (f_readNot : yM → Option yM) (K : yK) (M : yM) (t : Nat) (dd : Nat) (hf_readNot : ∀ M : yM, yMet yX1_readNot cX1_readNot 2 none (rG 3 dd) K M [.ref t] (f_readNot M) (yGv K)) : yMet yX1_readAnd cX1_readAnd 2 none (rG 4 dd) K M [.ref t] (b_X1_readAnd_F f_readNot K M t) (yGv K) := by
  refine yM_intro (by decide) (Nat.le_of_ble_eq_true rfl) (fun X r h C E => ?_)
  replace C : yCx X cX1_readAnd RX1 "readAnd" (rG 4 dd) 2 := C
  show Y X K M 0 0 0 [(0, .ref t)] []
  unfold b_X1_readAnd_F at h
  refine y_aload_n C dX1_readAnd_0 rfl ?_
  obtain ⟨g1, h⟩ := gd h
  obtain ⟨r2, hr2, h⟩ := ob h
  refine y_cV C [] (hf_readNot M) hr2 g1 cw_X1_82 rfl (by constructor <;> simp only [rG] <;> omega) ⟨rfl, rfl⟩ ⟨Nat.zero_le _, Nat.zero_le _⟩ (Nat.le_of_ble_eq_true rfl) rfl rfl rfl dX1_readAnd_1 ?_
  refine y_iconst C dX1_readAnd_4 kc_0 ?_
  refine y_istore_n C dX1_readAnd_5 (by decide) (L' := [(1, .int (0)), (0, .ref t)]) rfl ?_
  obtain ⟨j3, hj3, h⟩ := ob h
  refine y_sel [0, 1] rfl (l_X1_readAnd_6 f_readNot dd hf_readNot C 1000 _ _ _ hj3 ?_)
  have e0 := Option.some.inj h
  subst e0
  exact y_vret C E (Nat.zero_le _) (Nat.zero_le _) dX1_readAnd_44
def b_X1_readOr_6 (f_readAnd : yM → Option yM) (K : yK) (t : Nat) : Nat → yM → Int32 → Option yM
  | 0, _, _ => none
  | n + 1, M, u6_1 => (if (160 : Int32) ≤ u6_1 then (some M) else (if gO K t 1 = true then (if (M t 4) = (259 : Int32) then (Option.bind (b_X1_next K M t) fun r4 => (Option.bind (f_readAnd r4) fun r5 => (Option.bind (b_X1_emit K r5 t ((-259 : Int32))) fun r6 => (Option.bind (some (u6_1 + (1 : Int32))) fun v7 => (b_X1_readOr_6 f_readAnd K t n r6 v7))))) else (some M)) else none))
set_option maxHeartbeats 4000000 in
set_option maxRecDepth 100000 in
theorem l_X1_readOr_6 {X : yX} {K : yK} {t : Nat} (f_readAnd : yM → Option yM) (dd : Nat) (hf_readAnd : ∀ M : yM, yMet yX1_readAnd cX1_readAnd 2 none (rG 4 dd) K M [.ref t] (f_readAnd M) (yGv K)) (C : yCx X cX1_readOr RX1 "readOr" (rG 5 dd) 2) : ∀ (n : Nat) (M : yM) (u6_1 : Int32) (x : yM), b_X1_readOr_6 f_readAnd K t n M u6_1 = some x → ∀ (hX : Y X K x 0 0 44 [] []), Y X K M 0 0 6 [(0, .ref t), (1, .int u6_1)] [] := by
  intro n
  induction n with
  | zero =>
    intro M u6_1 x h
    exact nomatch (show (none : Option _) = some x from h)
  | succ n ih =>
    intro M u6_1 x h hX
    rw [b_X1_readOr_6] at h
    refine y_iload_n C dX1_readOr_6 rfl ?_
    refine y_sipush C dX1_readOr_7 ks_160 ?_
    refine y_icmp_ge C dX1_readOr_10 (tgt := 44) rfl (fun c1 => ?_) (fun c1 => ?_)
    · have h := itT c1 h
      have e0 := Option.some.inj h
      subst e0
      exact y_sel [] rfl hX
    · have h := itF c1 h
      refine y_aload_n C dX1_readOr_13 rfl ?_
      obtain ⟨g2, h⟩ := gd h
      refine y_geti C fl_X1_37 g2 dX1_readOr_14 ?_
      refine y_sipush C dX1_readOr_17 ks_259 ?_
      refine y_icmp_ne C dX1_readOr_20 (tgt := 44) rfl (fun c3 => ?_) (fun c3 => ?_)
      · have h := itF c3 h
        have e0 := Option.some.inj h
        subst e0
        exact y_sel [] rfl hX
      · have h := itT c3 h
        refine y_aload_n C dX1_readOr_23 rfl ?_
        obtain ⟨r4, hr4, h⟩ := ob h
        refine y_cV C [] (m_X1_next K M t) hr4 g2 cw_X1_67 rfl (by constructor <;> simp only [rG, rm_X1_next] <;> omega) ⟨rfl, rfl⟩ ⟨Nat.zero_le _, Nat.zero_le _⟩ (Nat.le_of_ble_eq_true rfl) rfl rfl rfl dX1_readOr_24 ?_
        refine y_aload_n C dX1_readOr_27 rfl ?_
        obtain ⟨r5, hr5, h⟩ := ob h
        refine y_cV C [] (hf_readAnd r4) hr5 g2 cw_X1_76 rfl (by constructor <;> simp only [rG] <;> omega) ⟨rfl, rfl⟩ ⟨Nat.zero_le _, Nat.zero_le _⟩ (Nat.le_of_ble_eq_true rfl) rfl rfl rfl dX1_readOr_28 ?_
        refine y_aload_n C dX1_readOr_31 rfl ?_
        refine y_sipush C dX1_readOr_32 ks_m259 ?_
        obtain ⟨r6, hr6, h⟩ := ob h
        refine y_cV C [.int (-259 : Int32)] (m_X1_emit K r5 t ((-259 : Int32))) hr6 g2 cw_X1_79 rfl (by constructor <;> simp only [rG, rm_X1_emit] <;> omega) ⟨rfl, rfl⟩ ⟨Nat.zero_le _, Nat.zero_le _⟩ (Nat.le_of_ble_eq_true rfl) rfl rfl rfl dX1_readOr_35 ?_
        obtain ⟨v7, ev7, h⟩ := ob h
        have ev7 := Option.some.inj ev7
        refine y_iinc C dX1_readOr_38 (by decide) rfl (v := v7) (by subst ev7; rfl) (L' := [(1, .int v7), (0, .ref t)]) rfl ?_
        refine y_goto C dX1_readOr_41 (tgt := 6) rfl ?_
        exact y_sel [0, 1] rfl (ih _ _ _  h hX)
set_option maxRecDepth 100000 in
def b_X1_readOr_F (f_readAnd : yM → Option yM) (K : yK) (M : yM) (t : Nat) : Option yM := (if gO K t 1 = true then (Option.bind (f_readAnd M) fun r2 => (Option.bind (b_X1_readOr_6 f_readAnd K t 1000 r2 ((0 : Int32))) fun j3 => (some j3))) else none)
set_option maxHeartbeats 4000000 in
set_option maxRecDepth 100000 in
theorem m_X1_readOr_F (f_readAnd : yM → Option yM) (K : yK) (M : yM) (t : Nat) (dd : Nat) (hf_readAnd : ∀ M : yM, yMet yX1_readAnd cX1_readAnd 2 none (rG 4 dd) K M [.ref t] (f_readAnd M) (yGv K)) : yMet yX1_readOr cX1_readOr 2 none (rG 5 dd) K M [.ref t] (b_X1_readOr_F f_readAnd K M t) (yGv K) := by
  refine yM_intro (by decide) (Nat.le_of_ble_eq_true rfl) (fun X r h C E => ?_)
  replace C : yCx X cX1_readOr RX1 "readOr" (rG 5 dd) 2 := C
  show Y X K M 0 0 0 [(0, .ref t)] []
  unfold b_X1_readOr_F at h
  refine y_aload_n C dX1_readOr_0 rfl ?_
  obtain ⟨g1, h⟩ := gd h
  obtain ⟨r2, hr2, h⟩ := ob h
  refine y_cV C [] (hf_readAnd M) hr2 g1 cw_X1_76 rfl (by constructor <;> simp only [rG] <;> omega) ⟨rfl, rfl⟩ ⟨Nat.zero_le _, Nat.zero_le _⟩ (Nat.le_of_ble_eq_true rfl) rfl rfl rfl dX1_readOr_1 ?_
  refine y_iconst C dX1_readOr_4 kc_0 ?_
  refine y_istore_n C dX1_readOr_5 (by decide) (L' := [(1, .int (0)), (0, .ref t)]) rfl ?_
  obtain ⟨j3, hj3, h⟩ := ob h
  refine y_sel [0, 1] rfl (l_X1_readOr_6 f_readAnd dd hf_readAnd C 1000 _ _ _ hj3 ?_)
  have e0 := Option.some.inj h
  subst e0
  exact y_vret C E (Nat.zero_le _) (Nat.zero_le _) dX1_readOr_44
/-! the grammar's methods call one another: by depth -/
def gLv (K : yK) (t : Nat) : Nat → (yM → Option yM) × (yM → Option yM) × (yM → Option yM)
  | 0 => (fun _ => none, fun _ => none, fun _ => none)
  | d + 1 => (fun M => b_X1_readNot_F (gLv K t d).1 (fun M => b_X1_readSum_F (fun M => b_X1_readTerm_F (fun M => b_X1_readOne_F (gLv K t d).2.2 (gLv K t d).2.1 K M t) K M t) K M t) K M t,
    fun M => b_X1_readOne_F (gLv K t d).2.2 (gLv K t d).2.1 K M t,
    fun M => b_X1_readOr_F (fun M => b_X1_readAnd_F (fun M => b_X1_readNot_F (gLv K t d).1 (fun M => b_X1_readSum_F (fun M => b_X1_readTerm_F (fun M => b_X1_readOne_F (gLv K t d).2.2 (gLv K t d).2.1 K M t) K M t) K M t) K M t) K M t) K M t)
theorem gLv_ok (K : yK) (t : Nat) : ∀ d : Nat, (∀ M : yM, yMet yX1_readNot cX1_readNot 2 none (rG 3 d) K M [.ref t] ((gLv K t d).1 M) (yGv K)) ∧ (∀ M : yM, yMet yX1_readOne cX1_readOne 1 none (rG 0 d) K M [.ref t] ((gLv K t d).2.1 M) (yGv K)) ∧ (∀ M : yM, yMet yX1_readOr cX1_readOr 2 none (rG 5 d) K M [.ref t] ((gLv K t d).2.2 M) (yGv K)) := by
  intro d
  induction d with
  | zero => exact ⟨fun M l r hr => (nomatch (show (none : Option yM) = some r from hr)), fun M l r hr => (nomatch (show (none : Option yM) = some r from hr)), fun M l r hr => (nomatch (show (none : Option yM) = some r from hr))⟩
  | succ d ih =>
    obtain ⟨h1, h2, h3⟩ := ih
    have one : ∀ M : yM, yMet yX1_readOne cX1_readOne 1 none (rG 0 (d + 1)) K M [.ref t] (b_X1_readOne_F (gLv K t d).2.2 (gLv K t d).2.1 K M t) (yGv K) := fun M => m_X1_readOne_F _ _ K M t d h3 h2
    have term : ∀ M : yM, yMet yX1_readTerm cX1_readTerm 2 none (rG 1 (d + 1)) K M [.ref t] (b_X1_readTerm_F (fun M => b_X1_readOne_F (gLv K t d).2.2 (gLv K t d).2.1 K M t) K M t) (yGv K) := fun M => m_X1_readTerm_F _ K M t (d + 1) one
    have sum : ∀ M : yM, yMet yX1_readSum cX1_readSum 3 none (rG 2 (d + 1)) K M [.ref t] (b_X1_readSum_F (fun M => b_X1_readTerm_F (fun M => b_X1_readOne_F (gLv K t d).2.2 (gLv K t d).2.1 K M t) K M t) K M t) (yGv K) := fun M => m_X1_readSum_F _ K M t (d + 1) term
    have nt : ∀ M : yM, yMet yX1_readNot cX1_readNot 2 none (rG 3 (d + 1)) K M [.ref t] ((gLv K t (d + 1)).1 M) (yGv K) := fun M => m_X1_readNot_F _ _ K M t d h1 sum
    have an : ∀ M : yM, yMet yX1_readAnd cX1_readAnd 2 none (rG 4 (d + 1)) K M [.ref t] (b_X1_readAnd_F (gLv K t (d + 1)).1 K M t) (yGv K) := fun M => m_X1_readAnd_F _ K M t (d + 1) nt
    exact ⟨nt, one, fun M => m_X1_readOr_F _ K M t (d + 1) an⟩
def b_X1_readOr (K : yK) (M : yM) (t : Nat) : Option yM := (gLv K t 8).2.2 M
theorem m_X1_readOr (K : yK) (M : yM) (t : Nat) : yMet yX1_readOr cX1_readOr 2 none rm_X1_readOr K M [.ref t] (b_X1_readOr K M t) (yGv K) := (gLv_ok K t 8).2.2 M

