set_option maxRecDepth 100000 in
def b_J7_copyOf_59c91 (K : yK) (M : yM) (a1 : Nat) (x2 : Int32) : Option (Nat × yK × yM) := (if gI K a1 = true then (if x2 = (Int32.ofNat (K.2.1 a1).2) then none else (if K.1 < 1000000 then (if a1 < K.1 then (if ¬ x2 < 0 then (if (x2).toNatClampNeg ≤ 160 then (Option.bind (some K.1) fun p7 => (Option.bind (some (yKn K (0, (x2).toNatClampNeg))) fun K8 => (Option.bind (some (yMn K M)) fun M9 => (if gI K8 a1 = true then (if gC K8 a1 (0 : Int32) p7 (0 : Int32) (if x2 < (Int32.ofNat (K8.2.1 a1).2) then x2 else (Int32.ofNat (K8.2.1 a1).2)) = true then (Option.bind (some (yCp M9 a1 (0 : Int32) p7 (0 : Int32) (if x2 < (Int32.ofNat (K8.2.1 a1).2) then x2 else (Int32.ofNat (K8.2.1 a1).2)))) fun M12 => (some (p7, K8, M12))) else none) else none)))) else none) else none) else none) else none)) else none)
set_option maxHeartbeats 4000000 in
set_option maxRecDepth 100000 in
theorem m_J7_copyOf_59c91 (K : yK) (M : yM) (a1 : Nat) (x2 : Int32) : yMet yJ7_copyOf_59c91 cJ7_copyOf_59c91 3 (Option.some (Jvm.ClassFile.FieldType.array Jvm.ClassFile.FieldType.int)) rm_J7_copyOf_59c91 K M [.ref a1, .int x2] (b_J7_copyOf_59c91 K M a1 x2) yHr := by
  refine yM_intro (by decide) (Nat.le_of_ble_eq_true rfl) (fun X r h C E => ?_)
  replace C : yCx X cJ7_copyOf_59c91 RJ7 "copyOf" rm_J7_copyOf_59c91 3 := C
  show Y X K M 0 0 0 [(0, .ref a1), (1, .int x2)] []
  unfold b_J7_copyOf_59c91 at h
  refine y_iload_n C dJ7_copyOf_59c91_0 rfl ?_
  refine y_aload_n C dJ7_copyOf_59c91_1 rfl ?_
  obtain ⟨g1, h⟩ := gd h
  refine y_alen C g1 dJ7_copyOf_59c91_2 ?_
  refine y_icmp_ne C dJ7_copyOf_59c91_3 (tgt := 14) rfl (fun c2 => ?_) (fun c2 => ?_)
  · have h := itF c2 h
    refine y_iload_n C dJ7_copyOf_59c91_14 rfl ?_
    obtain ⟨g3, h⟩ := gp h
    obtain ⟨g4, h⟩ := gp h
    obtain ⟨g5, h⟩ := gp h
    obtain ⟨g6, h⟩ := gp h
    obtain ⟨p7, ep7, h⟩ := ob h
    have ep7 := Option.some.inj ep7
    obtain ⟨K8, eK8, h⟩ := ob h
    have eK8 := Option.some.inj eK8
    obtain ⟨M9, eM9, h⟩ := ob h
    have eM9 := Option.some.inj eM9
    refine y_newI C wd_46 g5 (N' := (x2).toNatClampNeg) rfl (Nat.le_trans g6 (by decide)) g3 ⟨Nat.le_of_ble_eq_true rfl, by show 0 + _ ≤ 160; omega⟩ (by simp [yCl, Nat.ne_of_lt g4]) dJ7_copyOf_59c91_15 ?_
    rw [eK8, eM9, ep7]
    refine y_widen (k' := 1) (n' := 160) (by decide) (by omega) ?_
    refine y_astore_n C dJ7_copyOf_59c91_17 (by decide) (L' := [(2, .ref p7), (0, .ref a1), (1, .int x2)]) rfl ?_
    refine y_aload_n C dJ7_copyOf_59c91_18 rfl ?_
    refine y_iconst C dJ7_copyOf_59c91_19 kc_0 ?_
    refine y_aload_n C dJ7_copyOf_59c91_20 rfl ?_
    refine y_iconst C dJ7_copyOf_59c91_21 kc_0 ?_
    refine y_aload_n C dJ7_copyOf_59c91_22 rfl ?_
    obtain ⟨g10, h⟩ := gd h
    refine y_alen C g10 dJ7_copyOf_59c91_23 ?_
    refine y_iload_n C dJ7_copyOf_59c91_24 rfl ?_
    refine y_min C jm_J7_304 ⟨by decide, Nat.le_of_ble_eq_true rfl, Nat.le_of_ble_eq_true rfl, Nat.le_of_ble_eq_true rfl⟩ dJ7_copyOf_59c91_25 ?_
    obtain ⟨g11, h⟩ := gd h
    obtain ⟨M12, eM12, h⟩ := ob h
    have eM12 := Option.some.inj eM12
    refine y_copy C jm_J7_150 ⟨by decide, Nat.le_of_ble_eq_true rfl⟩ g11 dJ7_copyOf_59c91_28 eM12 ?_
    refine y_aload_n C dJ7_copyOf_59c91_31 rfl ?_
    have e0 := Option.some.inj h
    subst e0
    exact y_aret C E (Or.inr ⟨_, rfl⟩) (Or.inr ⟨_, rfl⟩) (Nat.le_of_ble_eq_true rfl) (Nat.le_of_ble_eq_true rfl) dJ7_copyOf_59c91_32
  · have h := itT c2 h
    refine y_aload_n C dJ7_copyOf_59c91_6 rfl ?_
    cases h
set_option maxRecDepth 100000 in
def b_X0_init (K : yK) (M : yM) (t : Nat) (a1 : Nat) (a2 : Nat) : Option (yK × yM) := (if K.1 < 1000000 then (if t < K.1 then (if a1 < K.1 then (if a2 < K.1 then (Option.bind (some K.1) fun p5 => (Option.bind (some (yKn K (0, 12))) fun K6 => (Option.bind (some (yMn K M)) fun M7 => (if gO K6 t 0 = true then (if p5 < K6.1 then (Option.bind (some (yKr K6 t 0 p5)) fun K10 => (if K10.1 < 1000000 then (if t < K10.1 then (if a1 < K10.1 then (if a2 < K10.1 then (Option.bind (some K10.1) fun p15 => (Option.bind (some (yKn K10 (0, 12))) fun K16 => (Option.bind (some (yMn K10 M7)) fun M17 => (if gO K16 t 0 = true then (if p15 < K16.1 then (Option.bind (some (yKr K16 t 1 p15)) fun K20 => (if K20.1 < 1000000 then (if t < K20.1 then (if a1 < K20.1 then (if a2 < K20.1 then (Option.bind (some K20.1) fun p25 => (Option.bind (some (yKn K20 (0, 12))) fun K26 => (Option.bind (some (yMn K20 M17)) fun M27 => (if gO K26 t 0 = true then (if p25 < K26.1 then (Option.bind (some (yKr K26 t 2 p25)) fun K30 => (if K30.1 < 1000000 then (if t < K30.1 then (if a1 < K30.1 then (if a2 < K30.1 then (Option.bind (some K30.1) fun p35 => (Option.bind (some (yKn K30 (0, 12))) fun K36 => (Option.bind (some (yMn K30 M27)) fun M37 => (if gO K36 t 0 = true then (if p35 < K36.1 then (Option.bind (some (yKr K36 t 3 p35)) fun K40 => (if K40.1 < 1000000 then (if t < K40.1 then (if a1 < K40.1 then (if a2 < K40.1 then (Option.bind (some K40.1) fun p45 => (Option.bind (some (yKn K40 (0, 12))) fun K46 => (Option.bind (some (yMn K40 M37)) fun M47 => (if gO K46 t 0 = true then (if p45 < K46.1 then (Option.bind (some (yKr K46 t 4 p45)) fun K50 => (if K50.1 < 1000000 then (if t < K50.1 then (if a1 < K50.1 then (if a2 < K50.1 then (Option.bind (some K50.1) fun p55 => (Option.bind (some (yKn K50 (0, 13))) fun K56 => (Option.bind (some (yMn K50 M47)) fun M57 => (if gO K56 t 0 = true then (if p55 < K56.1 then (Option.bind (some (yKr K56 t 5 p55)) fun K60 => (if K60.1 < 1000000 then (if t < K60.1 then (if a1 < K60.1 then (if a2 < K60.1 then (Option.bind (some K60.1) fun p65 => (Option.bind (some (yKn K60 (0, 12))) fun K66 => (Option.bind (some (yMn K60 M57)) fun M67 => (if gO K66 t 0 = true then (if p65 < K66.1 then (Option.bind (some (yKr K66 t 6 p65)) fun K70 => (if K70.1 < 1000000 then (if t < K70.1 then (if a1 < K70.1 then (if a2 < K70.1 then (Option.bind (some K70.1) fun p75 => (Option.bind (some (yKn K70 (0, 6))) fun K76 => (Option.bind (some (yMn K70 M67)) fun M77 => (if gO K76 t 0 = true then (if p75 < K76.1 then (Option.bind (some (yKr K76 t 7 p75)) fun K80 => (if gO K80 t 0 = true then (Option.bind (some (yS M77 t 12 (-1 : Int32))) fun M82 => (if a1 < K80.1 then (Option.bind (some (yKr K80 t 17 a1)) fun K84 => (if gO K84 t 0 = true then (if a2 < K84.1 then (Option.bind (some (yKr K84 t 18 a2)) fun K87 => (some (K87, M82))) else none) else none)) else none)) else none)) else none) else none)))) else none) else none) else none) else none)) else none) else none)))) else none) else none) else none) else none)) else none) else none)))) else none) else none) else none) else none)) else none) else none)))) else none) else none) else none) else none)) else none) else none)))) else none) else none) else none) else none)) else none) else none)))) else none) else none) else none) else none)) else none) else none)))) else none) else none) else none) else none)) else none) else none)))) else none) else none) else none) else none)
set_option maxHeartbeats 4000000 in
set_option maxRecDepth 100000 in
theorem m_X0_init (K : yK) (M : yM) (t : Nat) (a1 : Nat) (a2 : Nat) : yMet yX0_init cX0_init 3 none rm_X0_init K M [.ref t, .ref a1, .ref a2] (b_X0_init K M t a1 a2) yHv := by
  refine yM_intro (by decide) (Nat.le_of_ble_eq_true rfl) (fun X r h C E => ?_)
  replace C : yCx X cX0_init RX0 "<init>" rm_X0_init 3 := C
  show Y X K M 0 0 0 [(0, .ref t), (1, .ref a1), (2, .ref a2)] []
  unfold b_X0_init at h
  refine y_aload_n C dX0_init_0 rfl ?_
  refine y_objInit C ⟨wd_65, wd_24, wd_25⟩ ⟨by decide, Nat.le_of_ble_eq_true rfl⟩ dX0_init_1 ?_
  refine y_aload_n C dX0_init_4 rfl ?_
  refine y_bipush C dX0_init_5 kb_12 ?_
  obtain ⟨g1, h⟩ := gp h
  obtain ⟨g2, h⟩ := gp h
  obtain ⟨g3, h⟩ := gp h
  obtain ⟨g4, h⟩ := gp h
  obtain ⟨p5, ep5, h⟩ := ob h
  have ep5 := Option.some.inj ep5
  obtain ⟨K6, eK6, h⟩ := ob h
  have eK6 := Option.some.inj eK6
  obtain ⟨M7, eM7, h⟩ := ob h
  have eM7 := Option.some.inj eM7
  refine y_newI C wd_46 (by decide) (N' := 12) (by decide) (by decide) g1 ⟨Nat.le_of_ble_eq_true rfl, Nat.le_of_ble_eq_true rfl⟩ (by simp [yCl, Nat.ne_of_lt g2, Nat.ne_of_lt g3, Nat.ne_of_lt g4]) dX0_init_7 ?_
  rw [eK6, eM7, ep5]
  obtain ⟨g8, h⟩ := gd h
  obtain ⟨g9, h⟩ := gp h
  obtain ⟨K10, eK10, h⟩ := ob h
  have eK10 := Option.some.inj eK10
  refine y_putFr C fl_X0_9 rfl rfl g8 g9 rfl rfl dX0_init_9 ?_
  rw [eK10]
  refine y_aload_n C dX0_init_12 rfl ?_
  refine y_bipush C dX0_init_13 kb_12 ?_
  obtain ⟨g11, h⟩ := gp h
  obtain ⟨g12, h⟩ := gp h
  obtain ⟨g13, h⟩ := gp h
  obtain ⟨g14, h⟩ := gp h
  obtain ⟨p15, ep15, h⟩ := ob h
  have ep15 := Option.some.inj ep15
  obtain ⟨K16, eK16, h⟩ := ob h
  have eK16 := Option.some.inj eK16
  obtain ⟨M17, eM17, h⟩ := ob h
  have eM17 := Option.some.inj eM17
  refine y_newI C wd_46 (by decide) (N' := 12) (by decide) (by decide) g11 ⟨Nat.le_of_ble_eq_true rfl, Nat.le_of_ble_eq_true rfl⟩ (by simp [yCl, Nat.ne_of_lt g12, Nat.ne_of_lt g13, Nat.ne_of_lt g14]) dX0_init_15 ?_
  rw [eK16, eM17, ep15]
  obtain ⟨g18, h⟩ := gd h
  obtain ⟨g19, h⟩ := gp h
  obtain ⟨K20, eK20, h⟩ := ob h
  have eK20 := Option.some.inj eK20
  refine y_putFr C fl_X0_15 rfl rfl g18 g19 rfl rfl dX0_init_17 ?_
  rw [eK20]
  refine y_aload_n C dX0_init_20 rfl ?_
  refine y_bipush C dX0_init_21 kb_12 ?_
  obtain ⟨g21, h⟩ := gp h
  obtain ⟨g22, h⟩ := gp h
  obtain ⟨g23, h⟩ := gp h
  obtain ⟨g24, h⟩ := gp h
  obtain ⟨p25, ep25, h⟩ := ob h
  have ep25 := Option.some.inj ep25
  obtain ⟨K26, eK26, h⟩ := ob h
  have eK26 := Option.some.inj eK26
  obtain ⟨M27, eM27, h⟩ := ob h
  have eM27 := Option.some.inj eM27
  refine y_newI C wd_46 (by decide) (N' := 12) (by decide) (by decide) g21 ⟨Nat.le_of_ble_eq_true rfl, Nat.le_of_ble_eq_true rfl⟩ (by simp [yCl, Nat.ne_of_lt g22, Nat.ne_of_lt g23, Nat.ne_of_lt g24]) dX0_init_23 ?_
  rw [eK26, eM27, ep25]
  obtain ⟨g28, h⟩ := gd h
  obtain ⟨g29, h⟩ := gp h
  obtain ⟨K30, eK30, h⟩ := ob h
  have eK30 := Option.some.inj eK30
  refine y_putFr C fl_X0_18 rfl rfl g28 g29 rfl rfl dX0_init_25 ?_
  rw [eK30]
  refine y_aload_n C dX0_init_28 rfl ?_
  refine y_bipush C dX0_init_29 kb_12 ?_
  obtain ⟨g31, h⟩ := gp h
  obtain ⟨g32, h⟩ := gp h
  obtain ⟨g33, h⟩ := gp h
  obtain ⟨g34, h⟩ := gp h
  obtain ⟨p35, ep35, h⟩ := ob h
  have ep35 := Option.some.inj ep35
  obtain ⟨K36, eK36, h⟩ := ob h
  have eK36 := Option.some.inj eK36
  obtain ⟨M37, eM37, h⟩ := ob h
  have eM37 := Option.some.inj eM37
  refine y_newI C wd_46 (by decide) (N' := 12) (by decide) (by decide) g31 ⟨Nat.le_of_ble_eq_true rfl, Nat.le_of_ble_eq_true rfl⟩ (by simp [yCl, Nat.ne_of_lt g32, Nat.ne_of_lt g33, Nat.ne_of_lt g34]) dX0_init_31 ?_
  rw [eK36, eM37, ep35]
  obtain ⟨g38, h⟩ := gd h
  obtain ⟨g39, h⟩ := gp h
  obtain ⟨K40, eK40, h⟩ := ob h
  have eK40 := Option.some.inj eK40
  refine y_putFr C fl_X0_21 rfl rfl g38 g39 rfl rfl dX0_init_33 ?_
  rw [eK40]
  refine y_aload_n C dX0_init_36 rfl ?_
  refine y_bipush C dX0_init_37 kb_12 ?_
  obtain ⟨g41, h⟩ := gp h
  obtain ⟨g42, h⟩ := gp h
  obtain ⟨g43, h⟩ := gp h
  obtain ⟨g44, h⟩ := gp h
  obtain ⟨p45, ep45, h⟩ := ob h
  have ep45 := Option.some.inj ep45
  obtain ⟨K46, eK46, h⟩ := ob h
  have eK46 := Option.some.inj eK46
  obtain ⟨M47, eM47, h⟩ := ob h
  have eM47 := Option.some.inj eM47
  refine y_newI C wd_46 (by decide) (N' := 12) (by decide) (by decide) g41 ⟨Nat.le_of_ble_eq_true rfl, Nat.le_of_ble_eq_true rfl⟩ (by simp [yCl, Nat.ne_of_lt g42, Nat.ne_of_lt g43, Nat.ne_of_lt g44]) dX0_init_39 ?_
  rw [eK46, eM47, ep45]
  obtain ⟨g48, h⟩ := gd h
  obtain ⟨g49, h⟩ := gp h
  obtain ⟨K50, eK50, h⟩ := ob h
  have eK50 := Option.some.inj eK50
  refine y_putFr C fl_X0_24 rfl rfl g48 g49 rfl rfl dX0_init_41 ?_
  rw [eK50]
  refine y_aload_n C dX0_init_44 rfl ?_
  refine y_bipush C dX0_init_45 kb_13 ?_
  obtain ⟨g51, h⟩ := gp h
  obtain ⟨g52, h⟩ := gp h
  obtain ⟨g53, h⟩ := gp h
  obtain ⟨g54, h⟩ := gp h
  obtain ⟨p55, ep55, h⟩ := ob h
  have ep55 := Option.some.inj ep55
  obtain ⟨K56, eK56, h⟩ := ob h
  have eK56 := Option.some.inj eK56
  obtain ⟨M57, eM57, h⟩ := ob h
  have eM57 := Option.some.inj eM57
  refine y_newI C wd_46 (by decide) (N' := 13) (by decide) (by decide) g51 ⟨Nat.le_of_ble_eq_true rfl, Nat.le_of_ble_eq_true rfl⟩ (by simp [yCl, Nat.ne_of_lt g52, Nat.ne_of_lt g53, Nat.ne_of_lt g54]) dX0_init_47 ?_
  rw [eK56, eM57, ep55]
  obtain ⟨g58, h⟩ := gd h
  obtain ⟨g59, h⟩ := gp h
  obtain ⟨K60, eK60, h⟩ := ob h
  have eK60 := Option.some.inj eK60
  refine y_putFr C fl_X0_27 rfl rfl g58 g59 rfl rfl dX0_init_49 ?_
  rw [eK60]
  refine y_aload_n C dX0_init_52 rfl ?_
  refine y_bipush C dX0_init_53 kb_12 ?_
  obtain ⟨g61, h⟩ := gp h
  obtain ⟨g62, h⟩ := gp h
  obtain ⟨g63, h⟩ := gp h
  obtain ⟨g64, h⟩ := gp h
  obtain ⟨p65, ep65, h⟩ := ob h
  have ep65 := Option.some.inj ep65
  obtain ⟨K66, eK66, h⟩ := ob h
  have eK66 := Option.some.inj eK66
  obtain ⟨M67, eM67, h⟩ := ob h
  have eM67 := Option.some.inj eM67
  refine y_newI C wd_46 (by decide) (N' := 12) (by decide) (by decide) g61 ⟨Nat.le_of_ble_eq_true rfl, Nat.le_of_ble_eq_true rfl⟩ (by simp [yCl, Nat.ne_of_lt g62, Nat.ne_of_lt g63, Nat.ne_of_lt g64]) dX0_init_55 ?_
  rw [eK66, eM67, ep65]
  obtain ⟨g68, h⟩ := gd h
  obtain ⟨g69, h⟩ := gp h
  obtain ⟨K70, eK70, h⟩ := ob h
  have eK70 := Option.some.inj eK70
  refine y_putFr C fl_X0_30 rfl rfl g68 g69 rfl rfl dX0_init_57 ?_
  rw [eK70]
  refine y_aload_n C dX0_init_60 rfl ?_
  refine y_bipush C dX0_init_61 kb_6 ?_
  obtain ⟨g71, h⟩ := gp h
  obtain ⟨g72, h⟩ := gp h
  obtain ⟨g73, h⟩ := gp h
  obtain ⟨g74, h⟩ := gp h
  obtain ⟨p75, ep75, h⟩ := ob h
  have ep75 := Option.some.inj ep75
  obtain ⟨K76, eK76, h⟩ := ob h
  have eK76 := Option.some.inj eK76
  obtain ⟨M77, eM77, h⟩ := ob h
  have eM77 := Option.some.inj eM77
  refine y_newI C wd_46 (by decide) (N' := 6) (by decide) (by decide) g71 ⟨Nat.le_of_ble_eq_true rfl, Nat.le_of_ble_eq_true rfl⟩ (by simp [yCl, Nat.ne_of_lt g72, Nat.ne_of_lt g73, Nat.ne_of_lt g74]) dX0_init_63 ?_
  rw [eK76, eM77, ep75]
  obtain ⟨g78, h⟩ := gd h
  obtain ⟨g79, h⟩ := gp h
  obtain ⟨K80, eK80, h⟩ := ob h
  have eK80 := Option.some.inj eK80
  refine y_putFr C fl_X0_33 rfl rfl g78 g79 rfl rfl dX0_init_65 ?_
  rw [eK80]
  refine y_aload_n C dX0_init_68 rfl ?_
  refine y_iconst C dX0_init_69 kc_m1 ?_
  obtain ⟨g81, h⟩ := gd h
  obtain ⟨M82, eM82, h⟩ := ob h
  have eM82 := Option.some.inj eM82
  refine y_puti C fl_X0_36 rfl g81 rfl rfl dX0_init_70 eM82 ?_
  refine y_aload_n C dX0_init_73 rfl ?_
  refine y_aload_n C dX0_init_74 rfl ?_
  obtain ⟨g83, h⟩ := gp h
  obtain ⟨K84, eK84, h⟩ := ob h
  have eK84 := Option.some.inj eK84
  refine y_putFr C fl_X0_40 rfl rfl g81 g83 rfl rfl dX0_init_75 ?_
  rw [eK84]
  refine y_aload_n C dX0_init_78 rfl ?_
  refine y_aload_n C dX0_init_79 rfl ?_
  obtain ⟨g85, h⟩ := gd h
  obtain ⟨g86, h⟩ := gp h
  obtain ⟨K87, eK87, h⟩ := ob h
  have eK87 := Option.some.inj eK87
  refine y_putFr C fl_X0_44 rfl rfl g85 g86 rfl rfl dX0_init_80 ?_
  rw [eK87]
  have e0 := Option.some.inj h
  subst e0
  exact y_vret C E (Nat.le_of_ble_eq_true rfl) (Nat.le_of_ble_eq_true rfl) dX0_init_83
set_option maxRecDepth 100000 in
def b_X6_init (K : yK) (M : yM) (t : Nat) : Option (yK × yM) := (if K.1 < 1000000 then (if t < K.1 then (Option.bind (some K.1) fun p3 => (Option.bind (some (yKn K (0, 161))) fun K4 => (Option.bind (some (yMn K M)) fun M5 => (if gO K4 t 5 = true then (if p3 < K4.1 then (Option.bind (some (yKr K4 t 0 p3)) fun K8 => (if K8.1 < 1000000 then (if t < K8.1 then (Option.bind (some K8.1) fun p11 => (Option.bind (some (yKn K8 (0, 161))) fun K12 => (Option.bind (some (yMn K8 M5)) fun M13 => (if gO K12 t 5 = true then (if p11 < K12.1 then (Option.bind (some (yKr K12 t 1 p11)) fun K16 => (if K16.1 < 1000000 then (if t < K16.1 then (Option.bind (some K16.1) fun p19 => (Option.bind (some (yKn K16 (0, 161))) fun K20 => (Option.bind (some (yMn K16 M13)) fun M21 => (if gO K20 t 5 = true then (if p19 < K20.1 then (Option.bind (some (yKr K20 t 2 p19)) fun K24 => (some (K24, M21))) else none) else none)))) else none) else none)) else none) else none)))) else none) else none)) else none) else none)))) else none) else none)
set_option maxHeartbeats 4000000 in
set_option maxRecDepth 100000 in
theorem m_X6_init (K : yK) (M : yM) (t : Nat) : yMet yX6_init cX6_init 1 none rm_X6_init K M [.ref t] (b_X6_init K M t) yHv := by
  refine yM_intro (by decide) (Nat.le_of_ble_eq_true rfl) (fun X r h C E => ?_)
  replace C : yCx X cX6_init RX6 "<init>" rm_X6_init 1 := C
  show Y X K M 0 0 0 [(0, .ref t)] []
  unfold b_X6_init at h
  refine y_aload_n C dX6_init_0 rfl ?_
  refine y_objInit C ⟨wd_153, wd_24, wd_25⟩ ⟨by decide, Nat.le_of_ble_eq_true rfl⟩ dX6_init_1 ?_
  refine y_aload_n C dX6_init_4 rfl ?_
  refine y_sipush C dX6_init_5 ks_161 ?_
  obtain ⟨g1, h⟩ := gp h
  obtain ⟨g2, h⟩ := gp h
  obtain ⟨p3, ep3, h⟩ := ob h
  have ep3 := Option.some.inj ep3
  obtain ⟨K4, eK4, h⟩ := ob h
  have eK4 := Option.some.inj eK4
  obtain ⟨M5, eM5, h⟩ := ob h
  have eM5 := Option.some.inj eM5
  refine y_newI C wd_46 (by decide) (N' := 161) (by decide) (by decide) g1 ⟨Nat.le_of_ble_eq_true rfl, Nat.le_of_ble_eq_true rfl⟩ (by simp [yCl, Nat.ne_of_lt g2]) dX6_init_8 ?_
  rw [eK4, eM5, ep3]
  obtain ⟨g6, h⟩ := gd h
  obtain ⟨g7, h⟩ := gp h
  obtain ⟨K8, eK8, h⟩ := ob h
  have eK8 := Option.some.inj eK8
  refine y_putFr C fl_X6_9 rfl rfl g6 g7 rfl rfl dX6_init_10 ?_
  rw [eK8]
  refine y_aload_n C dX6_init_13 rfl ?_
  refine y_sipush C dX6_init_14 ks_161 ?_
  obtain ⟨g9, h⟩ := gp h
  obtain ⟨g10, h⟩ := gp h
  obtain ⟨p11, ep11, h⟩ := ob h
  have ep11 := Option.some.inj ep11
  obtain ⟨K12, eK12, h⟩ := ob h
  have eK12 := Option.some.inj eK12
  obtain ⟨M13, eM13, h⟩ := ob h
  have eM13 := Option.some.inj eM13
  refine y_newI C wd_46 (by decide) (N' := 161) (by decide) (by decide) g9 ⟨Nat.le_of_ble_eq_true rfl, Nat.le_of_ble_eq_true rfl⟩ (by simp [yCl, Nat.ne_of_lt g10]) dX6_init_17 ?_
  rw [eK12, eM13, ep11]
  obtain ⟨g14, h⟩ := gd h
  obtain ⟨g15, h⟩ := gp h
  obtain ⟨K16, eK16, h⟩ := ob h
  have eK16 := Option.some.inj eK16
  refine y_putFr C fl_X6_15 rfl rfl g14 g15 rfl rfl dX6_init_19 ?_
  rw [eK16]
  refine y_aload_n C dX6_init_22 rfl ?_
  refine y_sipush C dX6_init_23 ks_161 ?_
  obtain ⟨g17, h⟩ := gp h
  obtain ⟨g18, h⟩ := gp h
  obtain ⟨p19, ep19, h⟩ := ob h
  have ep19 := Option.some.inj ep19
  obtain ⟨K20, eK20, h⟩ := ob h
  have eK20 := Option.some.inj eK20
  obtain ⟨M21, eM21, h⟩ := ob h
  have eM21 := Option.some.inj eM21
  refine y_newI C wd_46 (by decide) (N' := 161) (by decide) (by decide) g17 ⟨Nat.le_of_ble_eq_true rfl, Nat.le_of_ble_eq_true rfl⟩ (by simp [yCl, Nat.ne_of_lt g18]) dX6_init_26 ?_
  rw [eK20, eM21, ep19]
  obtain ⟨g22, h⟩ := gd h
  obtain ⟨g23, h⟩ := gp h
  obtain ⟨K24, eK24, h⟩ := ob h
  have eK24 := Option.some.inj eK24
  refine y_putFr C fl_X6_18 rfl rfl g22 g23 rfl rfl dX6_init_28 ?_
  rw [eK24]
  have e0 := Option.some.inj h
  subst e0
  exact y_vret C E (Nat.le_of_ble_eq_true rfl) (Nat.le_of_ble_eq_true rfl) dX6_init_31
set_option maxRecDepth 100000 in
def b_X1_init (K : yK) (M : yM) (t : Nat) : Option (yK × yM) := (if K.1 < 1000000 then (if t < K.1 then (Option.bind (some K.1) fun p3 => (Option.bind (some (yKn K (8, 0))) fun K4 => (Option.bind (some (yMn K M)) fun M5 => (if t < K4.1 then (if p3 < K4.1 then (Option.bind (b_X6_init K4 M5 p3) fun r6 => (if gO r6.1 t 1 = true then (if p3 < r6.1.1 then (Option.bind (some (yKr r6.1 t 0 p3)) fun K11 => (if K11.1 < 1000000 then (if t < K11.1 then (Option.bind (some K11.1) fun p14 => (Option.bind (some (yKn K11 (0, 160))) fun K15 => (Option.bind (some (yMn K11 r6.2)) fun M16 => (if gO K15 t 1 = true then (if p14 < K15.1 then (Option.bind (some (yKr K15 t 1 p14)) fun K19 => (some (K19, M16))) else none) else none)))) else none) else none)) else none) else none)) else none) else none)))) else none) else none)
set_option maxHeartbeats 4000000 in
set_option maxRecDepth 100000 in
theorem m_X1_init (K : yK) (M : yM) (t : Nat) : yMet yX1_init cX1_init 1 none rm_X1_init K M [.ref t] (b_X1_init K M t) yHv := by
  refine yM_intro (by decide) (Nat.le_of_ble_eq_true rfl) (fun X r h C E => ?_)
  replace C : yCx X cX1_init RX1 "<init>" rm_X1_init 1 := C
  show Y X K M 0 0 0 [(0, .ref t)] []
  unfold b_X1_init at h
  refine y_aload_n C dX1_init_0 rfl ?_
  refine y_objInit C ⟨wd_147, wd_24, wd_25⟩ ⟨by decide, Nat.le_of_ble_eq_true rfl⟩ dX1_init_1 ?_
  refine y_aload_n C dX1_init_4 rfl ?_
  obtain ⟨g1, h⟩ := gp h
  obtain ⟨g2, h⟩ := gp h
  obtain ⟨p3, ep3, h⟩ := ob h
  have ep3 := Option.some.inj ep3
  obtain ⟨K4, eK4, h⟩ := ob h
  have eK4 := Option.some.inj eK4
  obtain ⟨M5, eM5, h⟩ := ob h
  have eM5 := Option.some.inj eM5
  refine y_newO C (ci := 5) (by decide) ⟨wd_148, wd_149, wd_6⟩ g1 ⟨Nat.le_of_ble_eq_true rfl, Nat.le_of_ble_eq_true rfl⟩ (by simp [yCl, Nat.ne_of_lt g2]) dX1_init_5 ?_
  rw [eK4, eM5, ep3]
  refine y_dup C dX1_init_8 rfl ?_
  obtain ⟨g7, h⟩ := gp h
  obtain ⟨g8, h⟩ := gp h
  obtain ⟨r6, hr6, h⟩ := ob h
  refine y_aN (k' := 4) (n' := 487) C [] (m_X6_init K4 M5 p3) hr6 (by decide) cw_X1_11 rfl rfl (by decide) ⟨Nat.le_of_ble_eq_true rfl, Nat.le_of_ble_eq_true rfl⟩ (Nat.le_of_ble_eq_true rfl) rfl rfl rfl rfl rfl (by simp [yCl2, g7, g8]) dX1_init_9 ?_
  obtain ⟨g9, h⟩ := gd h
  obtain ⟨g10, h⟩ := gp h
  obtain ⟨K11, eK11, h⟩ := ob h
  have eK11 := Option.some.inj eK11
  refine y_putFr C fl_X1_12 rfl rfl g9 g10 rfl rfl dX1_init_12 ?_
  rw [eK11]
  refine y_aload_n C dX1_init_15 rfl ?_
  refine y_sipush C dX1_init_16 ks_160 ?_
  obtain ⟨g12, h⟩ := gp h
  obtain ⟨g13, h⟩ := gp h
  obtain ⟨p14, ep14, h⟩ := ob h
  have ep14 := Option.some.inj ep14
  obtain ⟨K15, eK15, h⟩ := ob h
  have eK15 := Option.some.inj eK15
  obtain ⟨M16, eM16, h⟩ := ob h
  have eM16 := Option.some.inj eM16
  refine y_newI C wd_46 (by decide) (N' := 160) (by decide) (by decide) g12 ⟨Nat.le_of_ble_eq_true rfl, Nat.le_of_ble_eq_true rfl⟩ (by simp [yCl, Nat.ne_of_lt g13]) dX1_init_19 ?_
  rw [eK15, eM16, ep14]
  obtain ⟨g17, h⟩ := gd h
  obtain ⟨g18, h⟩ := gp h
  obtain ⟨K19, eK19, h⟩ := ob h
  have eK19 := Option.some.inj eK19
  refine y_putFr C fl_X1_18 rfl rfl g17 g18 rfl rfl dX1_init_21 ?_
  rw [eK19]
  have e0 := Option.some.inj h
  subst e0
  exact y_vret C E (Nat.le_of_ble_eq_true rfl) (Nat.le_of_ble_eq_true rfl) dX1_init_24
set_option maxRecDepth 100000 in
def b_X3_init (K : yK) (M : yM) (t : Nat) (a1 : Nat) (x2 : Int32) (x3 : Int32) : Option (yK × yM) := (if gO K t 2 = true then (if a1 < K.1 then (Option.bind (some (yKr K t 0 a1)) fun K3 => (if gO K3 t 2 = true then (Option.bind (some (yS M t 1 x2)) fun M5 => (Option.bind (some (yS M5 t 2 x3)) fun M6 => (some (K3, M6)))) else none)) else none) else none)
set_option maxHeartbeats 4000000 in
set_option maxRecDepth 100000 in
theorem m_X3_init (K : yK) (M : yM) (t : Nat) (a1 : Nat) (x2 : Int32) (x3 : Int32) : yMet yX3_init cX3_init 4 none rm_X3_init K M [.ref t, .ref a1, .int x2, .int x3] (b_X3_init K M t a1 x2 x3) yHv := by
  refine yM_intro (by decide) (Nat.le_of_ble_eq_true rfl) (fun X r h C E => ?_)
  replace C : yCx X cX3_init RX3 "<init>" rm_X3_init 4 := C
  show Y X K M 0 0 0 [(0, .ref t), (1, .ref a1), (2, .int x2), (3, .int x3)] []
  unfold b_X3_init at h
  refine y_aload_n C dX3_init_0 rfl ?_
  refine y_objInit C ⟨wd_35, wd_24, wd_25⟩ ⟨by decide, Nat.le_of_ble_eq_true rfl⟩ dX3_init_1 ?_
  refine y_aload_n C dX3_init_4 rfl ?_
  refine y_aload_n C dX3_init_5 rfl ?_
  obtain ⟨g1, h⟩ := gd h
  obtain ⟨g2, h⟩ := gp h
  obtain ⟨K3, eK3, h⟩ := ob h
  have eK3 := Option.some.inj eK3
  refine y_putFr C fl_X3_9 rfl rfl g1 g2 rfl rfl dX3_init_6 ?_
  rw [eK3]
  refine y_aload_n C dX3_init_9 rfl ?_
  refine y_iload_n C dX3_init_10 rfl ?_
  obtain ⟨g4, h⟩ := gd h
  obtain ⟨M5, eM5, h⟩ := ob h
  have eM5 := Option.some.inj eM5
  refine y_putFi C fl_X3_15 rfl rfl g4 rfl rfl dX3_init_11 eM5 ?_
  refine y_aload_n C dX3_init_14 rfl ?_
  refine y_iload_n C dX3_init_15 rfl ?_
  obtain ⟨M6, eM6, h⟩ := ob h
  have eM6 := Option.some.inj eM6
  refine y_putFi C fl_X3_19 rfl rfl g4 rfl rfl dX3_init_16 eM6 ?_
  have e0 := Option.some.inj h
  subst e0
  exact y_vret C E (Nat.le_of_ble_eq_true rfl) (Nat.le_of_ble_eq_true rfl) dX3_init_19
set_option maxRecDepth 100000 in
def b_X1_lawOf (K : yK) (M : yM) (t : Nat) (a1 : Nat) (x2 : Int32) : Option (Option Nat × yK × yM) := (if gO K t 1 = true then (Option.bind (K.2.2 t 0) fun q2 => (if gO K q2 5 = true then (Option.bind (b_X6_scan K M q2 a1 x2) fun r4 => (Option.bind (some (yS r4 t 3 (0 : Int32))) fun M5 => (Option.bind (b_X6_tokenAt K M5 q2 ((0 : Int32))) fun r6 => (Option.bind (some (yS M5 t 4 r6)) fun M7 => (Option.bind (some (yS M7 t 5 (0 : Int32))) fun M8 => (Option.bind (some (yS M8 t 6 (-1 : Int32))) fun M9 => (Option.bind (some (yS M9 t 2 (0 : Int32))) fun M10 => (Option.bind (b_X1_readPart K M10 t ((0 : Int32))) fun r11 => (Option.bind (some (r11 t 2)) fun v12 => (Option.bind (b_X1_readPart K r11 t ((1 : Int32))) fun r13 => (Option.bind (some (r13 t 2)) fun v14 => (Option.bind (b_X1_readPart K r13 t ((2 : Int32))) fun r15 => (Option.bind (if (r15 t 4) = 0 then (some r15) else (Option.bind (b_X1_fail K r15 t) fun r18 => (some r18))) fun j17 => (if 0 ≤ (j17 t 6) then (some (none, K, j17)) else (if K.1 < 1000000 then (if t < K.1 then (Option.bind (some K.1) fun p22 => (Option.bind (some (yKn K (5, 0))) fun K23 => (Option.bind (some (yMn K j17)) fun M24 => (if gO K23 t 1 = true then (Option.bind (K23.2.2 t 1) fun q26 => (if p22 < K23.1 then (if t < K23.1 then (Option.bind (b_J7_copyOf_59c91 K23 M24 q26 ((M24 t 2))) fun r27 => (if p22 < r27.2.1.1 then (if t < r27.2.1.1 then (Option.bind (b_X3_init r27.2.1 r27.2.2 p22 r27.1 v12 v14) fun r30 => (some ((some p22), r30.1, r30.2))) else none) else none)) else none) else none)) else none)))) else none) else none))))))))))))))) else none)) else none)
set_option maxHeartbeats 4000000 in
set_option maxRecDepth 100000 in
theorem m_X1_lawOf (K : yK) (M : yM) (t : Nat) (a1 : Nat) (x2 : Int32) : yMet yX1_lawOf cX1_lawOf 5 (Option.some (Jvm.ClassFile.FieldType.object "OneReader$Law")) rm_X1_lawOf K M [.ref t, .ref a1, .int x2] (b_X1_lawOf K M t a1 x2) yHo := by
  refine yM_intro (by decide) (Nat.le_of_ble_eq_true rfl) (fun X r h C E => ?_)
  replace C : yCx X cX1_lawOf RX1 "lawOf" rm_X1_lawOf 5 := C
  show Y X K M 0 0 0 [(0, .ref t), (1, .ref a1), (2, .int x2)] []
  unfold b_X1_lawOf at h
  refine y_aload_n C dX1_lawOf_0 rfl ?_
  obtain ⟨g1, h⟩ := gd h
  obtain ⟨q2, hq2, h⟩ := ob h
  refine y_getr C fl_X1_12 g1 hq2 dX1_lawOf_1 ?_
  refine y_aload_n C dX1_lawOf_4 rfl ?_
  refine y_iload_n C dX1_lawOf_5 rfl ?_
  obtain ⟨g3, h⟩ := gd h
  obtain ⟨r4, hr4, h⟩ := ob h
  refine y_cV C [.ref a1, .int x2] (m_X6_scan K M q2 a1 x2) hr4 g3 cw_X1_26 rfl (by decide) ⟨rfl, rfl⟩ ⟨Nat.le_of_ble_eq_true rfl, Nat.le_of_ble_eq_true rfl⟩ (Nat.le_of_ble_eq_true rfl) rfl rfl rfl dX1_lawOf_6 ?_
  refine y_aload_n C dX1_lawOf_9 rfl ?_
  refine y_iconst C dX1_lawOf_10 kc_0 ?_
  obtain ⟨M5, eM5, h⟩ := ob h
  have eM5 := Option.some.inj eM5
  refine y_puti C fl_X1_30 rfl g1 rfl rfl dX1_lawOf_11 eM5 ?_
  refine y_aload_n C dX1_lawOf_14 rfl ?_
  refine y_aload_n C dX1_lawOf_15 rfl ?_
  refine y_getr C fl_X1_12 g1 hq2 dX1_lawOf_16 ?_
  refine y_iconst C dX1_lawOf_19 kc_0 ?_
  obtain ⟨r6, hr6, h⟩ := ob h
  refine y_cV C [.int (0 : Int32)] (m_X6_tokenAt K M5 q2 ((0 : Int32))) hr6 g3 cw_X1_33 rfl (by decide) ⟨rfl, rfl⟩ ⟨Nat.le_of_ble_eq_true rfl, Nat.le_of_ble_eq_true rfl⟩ (Nat.le_of_ble_eq_true rfl) rfl rfl rfl dX1_lawOf_20 ?_
  obtain ⟨M7, eM7, h⟩ := ob h
  have eM7 := Option.some.inj eM7
  refine y_puti C fl_X1_37 rfl g1 rfl rfl dX1_lawOf_23 eM7 ?_
  refine y_aload_n C dX1_lawOf_26 rfl ?_
  refine y_iconst C dX1_lawOf_27 kc_0 ?_
  obtain ⟨M8, eM8, h⟩ := ob h
  have eM8 := Option.some.inj eM8
  refine y_puti C fl_X1_40 rfl g1 rfl rfl dX1_lawOf_28 eM8 ?_
  refine y_aload_n C dX1_lawOf_31 rfl ?_
  refine y_iconst C dX1_lawOf_32 kc_m1 ?_
  obtain ⟨M9, eM9, h⟩ := ob h
  have eM9 := Option.some.inj eM9
  refine y_puti C fl_X1_22 rfl g1 rfl rfl dX1_lawOf_33 eM9 ?_
  refine y_aload_n C dX1_lawOf_36 rfl ?_
  refine y_iconst C dX1_lawOf_37 kc_0 ?_
  obtain ⟨M10, eM10, h⟩ := ob h
  have eM10 := Option.some.inj eM10
  refine y_puti C fl_X1_43 rfl g1 rfl rfl dX1_lawOf_38 eM10 ?_
  refine y_aload_n C dX1_lawOf_41 rfl ?_
  refine y_iconst C dX1_lawOf_42 kc_0 ?_
  obtain ⟨r11, hr11, h⟩ := ob h
  refine y_cV C [.int (0 : Int32)] (m_X1_readPart K M10 t ((0 : Int32))) hr11 g1 cw_X1_46 rfl (by decide) ⟨rfl, rfl⟩ ⟨Nat.le_of_ble_eq_true rfl, Nat.le_of_ble_eq_true rfl⟩ (Nat.le_of_ble_eq_true rfl) rfl rfl rfl dX1_lawOf_43 ?_
  refine y_aload_n C dX1_lawOf_46 rfl ?_
  refine y_geti C fl_X1_43 g1 dX1_lawOf_47 ?_
  obtain ⟨v12, ev12, h⟩ := ob h
  have ev12 := Option.some.inj ev12
  refine y_istore_n C dX1_lawOf_50 (by decide) (L' := [(3, .int v12), (0, .ref t), (1, .ref a1), (2, .int x2)]) (by subst ev12; rfl) ?_
  refine y_aload_n C dX1_lawOf_51 rfl ?_
  refine y_iconst C dX1_lawOf_52 kc_1 ?_
  obtain ⟨r13, hr13, h⟩ := ob h
  refine y_cV C [.int (1 : Int32)] (m_X1_readPart K r11 t ((1 : Int32))) hr13 g1 cw_X1_46 rfl (by decide) ⟨rfl, rfl⟩ ⟨Nat.le_of_ble_eq_true rfl, Nat.le_of_ble_eq_true rfl⟩ (Nat.le_of_ble_eq_true rfl) rfl rfl rfl dX1_lawOf_53 ?_
  refine y_aload_n C dX1_lawOf_56 rfl ?_
  refine y_geti C fl_X1_43 g1 dX1_lawOf_57 ?_
  obtain ⟨v14, ev14, h⟩ := ob h
  have ev14 := Option.some.inj ev14
  refine y_istore C dX1_lawOf_60 (by decide) (L' := [(4, .int v14), (3, .int v12), (0, .ref t), (1, .ref a1), (2, .int x2)]) (by subst ev14; rfl) ?_
  refine y_aload_n C dX1_lawOf_62 rfl ?_
  refine y_iconst C dX1_lawOf_63 kc_2 ?_
  obtain ⟨r15, hr15, h⟩ := ob h
  refine y_cV C [.int (2 : Int32)] (m_X1_readPart K r13 t ((2 : Int32))) hr15 g1 cw_X1_46 rfl (by decide) ⟨rfl, rfl⟩ ⟨Nat.le_of_ble_eq_true rfl, Nat.le_of_ble_eq_true rfl⟩ (Nat.le_of_ble_eq_true rfl) rfl rfl rfl dX1_lawOf_64 ?_
  refine y_aload_n C dX1_lawOf_67 rfl ?_
  refine y_geti C fl_X1_37 g1 dX1_lawOf_68 ?_
  obtain ⟨j17, hj17, h⟩ := ob h
  have hJj17 : Y X K j17 0 0 78 [(4, .int v14), (3, .int v12), (0, .ref t)] [] := by
    refine y_aload_n C dX1_lawOf_78 rfl ?_
    refine y_geti C fl_X1_22 g1 dX1_lawOf_79 ?_
    refine y_if_ge C dX1_lawOf_82 (tgt := 109) rfl (fun c19 => ?_) (fun c19 => ?_)
    · have h := itT c19 h
      refine y_null C dX1_lawOf_109 ?_
      have e0 := Option.some.inj h
      subst e0
      exact y_aret C E (Or.inl ⟨_, rfl⟩) (Or.inl rfl) (Nat.le_of_ble_eq_true rfl) (Nat.le_of_ble_eq_true rfl) dX1_lawOf_110
    · have h := itF c19 h
      obtain ⟨g20, h⟩ := gp h
      obtain ⟨g21, h⟩ := gp h
      obtain ⟨p22, ep22, h⟩ := ob h
      have ep22 := Option.some.inj ep22
      obtain ⟨K23, eK23, h⟩ := ob h
      have eK23 := Option.some.inj eK23
      obtain ⟨M24, eM24, h⟩ := ob h
      have eM24 := Option.some.inj eM24
      refine y_newO C (ci := 2) (by decide) ⟨wd_445, wd_31, wd_2⟩ g20 ⟨Nat.le_of_ble_eq_true rfl, Nat.le_of_ble_eq_true rfl⟩ (by simp [yCl, Nat.ne_of_lt g21]) dX1_lawOf_85 ?_
      rw [eK23, eM24, ep22]
      refine y_dup C dX1_lawOf_88 rfl ?_
      refine y_aload_n C dX1_lawOf_89 rfl ?_
      obtain ⟨g25, h⟩ := gd h
      obtain ⟨q26, hq26, h⟩ := ob h
      refine y_getr C fl_X1_18 g25 hq26 dX1_lawOf_90 ?_
      refine y_aload_n C dX1_lawOf_93 rfl ?_
      refine y_geti C fl_X1_43 g25 dX1_lawOf_94 ?_
      obtain ⟨g28, h⟩ := gp h
      obtain ⟨g29, h⟩ := gp h
      obtain ⟨r27, hr27, h⟩ := ob h
      refine y_aS (k' := 2) (n' := 163) C [.ref q26, .int (M24 t 2)] (m_J7_copyOf_59c91 K23 M24 q26 ((M24 t 2))) hr27 cw_X1_55 rfl (by decide) ⟨Nat.le_of_ble_eq_true rfl, Nat.le_of_ble_eq_true rfl⟩ (Nat.le_of_ble_eq_true rfl) rfl rfl rfl rfl rfl (by simp [yCl2, g28, g29]) dX1_lawOf_97 ?_
      refine y_iload_n C dX1_lawOf_100 rfl ?_
      refine y_iload C dX1_lawOf_101 rfl ?_
      obtain ⟨g31, h⟩ := gp h
      obtain ⟨g32, h⟩ := gp h
      obtain ⟨r30, hr30, h⟩ := ob h
      refine y_aI (k' := 2) (n' := 163) C [.ref r27.1, .int v12, .int v14] (m_X3_init r27.2.1 r27.2.2 p22 r27.1 v12 v14) hr30 cw_X1_61 rfl rfl (by decide) ⟨Nat.le_of_ble_eq_true rfl, Nat.le_of_ble_eq_true rfl⟩ (Nat.le_of_ble_eq_true rfl) rfl rfl rfl rfl rfl (by simp [yCl2, g31, g32]) dX1_lawOf_103 ?_
      refine y_goto C dX1_lawOf_106 (tgt := 110) rfl ?_
      have e0 := Option.some.inj h
      subst e0
      exact y_aret C E (Or.inl ⟨_, rfl⟩) (Or.inr ⟨_, rfl⟩) (Nat.le_of_ble_eq_true rfl) (Nat.le_of_ble_eq_true rfl) dX1_lawOf_110
  replace h := hj17
  refine y_if_eq C dX1_lawOf_71 (tgt := 78) rfl (fun c16 => ?_) (fun c16 => ?_)
  · have h := itT c16 h
    have e0 := Option.some.inj h
    subst e0
    exact y_sel [4, 3, 0] rfl hJj17
  · have h := itF c16 h
    refine y_aload_n C dX1_lawOf_74 rfl ?_
    obtain ⟨r18, hr18, h⟩ := ob h
    refine y_cV C [] (m_X1_fail K r15 t) hr18 g1 cw_X1_50 rfl (by decide) ⟨rfl, rfl⟩ ⟨Nat.le_of_ble_eq_true rfl, Nat.le_of_ble_eq_true rfl⟩ (Nat.le_of_ble_eq_true rfl) rfl rfl rfl dX1_lawOf_75 ?_
    have e0 := Option.some.inj h
    subst e0
    exact y_sel [4, 3, 0] rfl hJj17
set_option maxRecDepth 100000 in
def b_X4_init (K : yK) (M : yM) (t : Nat) : Option (yK × yM) := (if K.1 < 1000000 then (if t < K.1 then (Option.bind (some K.1) fun p3 => (Option.bind (some (yKn K (0, 160))) fun K4 => (Option.bind (some (yMn K M)) fun M5 => (if gO K4 t 3 = true then (if p3 < K4.1 then (Option.bind (some (yKr K4 t 0 p3)) fun K8 => (if K8.1 < 1000000 then (if t < K8.1 then (Option.bind (some K8.1) fun p11 => (Option.bind (some (yKn K8 (0, 6))) fun K12 => (Option.bind (some (yMn K8 M5)) fun M13 => (if gO K12 t 3 = true then (if p11 < K12.1 then (Option.bind (some (yKr K12 t 1 p11)) fun K16 => (some (K16, M13))) else none) else none)))) else none) else none)) else none) else none)))) else none) else none)
set_option maxHeartbeats 4000000 in
set_option maxRecDepth 100000 in
theorem m_X4_init (K : yK) (M : yM) (t : Nat) : yMet yX4_init cX4_init 1 none rm_X4_init K M [.ref t] (b_X4_init K M t) yHv := by
  refine yM_intro (by decide) (Nat.le_of_ble_eq_true rfl) (fun X r h C E => ?_)
  replace C : yCx X cX4_init RX4 "<init>" rm_X4_init 1 := C
  show Y X K M 0 0 0 [(0, .ref t)] []
  unfold b_X4_init at h
  refine y_aload_n C dX4_init_0 rfl ?_
  refine y_objInit C ⟨wd_52, wd_24, wd_25⟩ ⟨by decide, Nat.le_of_ble_eq_true rfl⟩ dX4_init_1 ?_
  refine y_aload_n C dX4_init_4 rfl ?_
  refine y_sipush C dX4_init_5 ks_160 ?_
  obtain ⟨g1, h⟩ := gp h
  obtain ⟨g2, h⟩ := gp h
  obtain ⟨p3, ep3, h⟩ := ob h
  have ep3 := Option.some.inj ep3
  obtain ⟨K4, eK4, h⟩ := ob h
  have eK4 := Option.some.inj eK4
  obtain ⟨M5, eM5, h⟩ := ob h
  have eM5 := Option.some.inj eM5
  refine y_newI C wd_46 (by decide) (N' := 160) (by decide) (by decide) g1 ⟨Nat.le_of_ble_eq_true rfl, Nat.le_of_ble_eq_true rfl⟩ (by simp [yCl, Nat.ne_of_lt g2]) dX4_init_8 ?_
  rw [eK4, eM5, ep3]
  obtain ⟨g6, h⟩ := gd h
  obtain ⟨g7, h⟩ := gp h
  obtain ⟨K8, eK8, h⟩ := ob h
  have eK8 := Option.some.inj eK8
  refine y_putFr C fl_X4_9 rfl rfl g6 g7 rfl rfl dX4_init_10 ?_
  rw [eK8]
  refine y_aload_n C dX4_init_13 rfl ?_
  refine y_bipush C dX4_init_14 kb_6 ?_
  obtain ⟨g9, h⟩ := gp h
  obtain ⟨g10, h⟩ := gp h
  obtain ⟨p11, ep11, h⟩ := ob h
  have ep11 := Option.some.inj ep11
  obtain ⟨K12, eK12, h⟩ := ob h
  have eK12 := Option.some.inj eK12
  obtain ⟨M13, eM13, h⟩ := ob h
  have eM13 := Option.some.inj eM13
  refine y_newI C wd_46 (by decide) (N' := 6) (by decide) (by decide) g9 ⟨Nat.le_of_ble_eq_true rfl, Nat.le_of_ble_eq_true rfl⟩ (by simp [yCl, Nat.ne_of_lt g10]) dX4_init_16 ?_
  rw [eK12, eM13, ep11]
  obtain ⟨g14, h⟩ := gd h
  obtain ⟨g15, h⟩ := gp h
  obtain ⟨K16, eK16, h⟩ := ob h
  have eK16 := Option.some.inj eK16
  refine y_putFr C fl_X4_15 rfl rfl g14 g15 rfl rfl dX4_init_18 ?_
  rw [eK16]
  have e0 := Option.some.inj h
  subst e0
  exact y_vret C E (Nat.le_of_ble_eq_true rfl) (Nat.le_of_ble_eq_true rfl) dX4_init_21
set_option maxRecDepth 100000 in
def b_X5_init (K : yK) (M : yM) (t : Nat) : Option (yK × yM) := (if K.1 < 1000000 then (if t < K.1 then (Option.bind (some K.1) fun p3 => (Option.bind (some (yKn K (0, 40))) fun K4 => (Option.bind (some (yMn K M)) fun M5 => (if gO K4 t 4 = true then (if p3 < K4.1 then (Option.bind (some (yKr K4 t 0 p3)) fun K8 => (if gO K8 t 4 = true then (Option.bind (some (yS M5 t 1 (-1 : Int32))) fun M10 => (some (K8, M10))) else none)) else none) else none)))) else none) else none)
set_option maxHeartbeats 4000000 in
set_option maxRecDepth 100000 in
theorem m_X5_init (K : yK) (M : yM) (t : Nat) : yMet yX5_init cX5_init 1 none rm_X5_init K M [.ref t] (b_X5_init K M t) yHv := by
  refine yM_intro (by decide) (Nat.le_of_ble_eq_true rfl) (fun X r h C E => ?_)
  replace C : yCx X cX5_init RX5 "<init>" rm_X5_init 1 := C
  show Y X K M 0 0 0 [(0, .ref t)] []
  unfold b_X5_init at h
  refine y_aload_n C dX5_init_0 rfl ?_
  refine y_objInit C ⟨wd_195, wd_24, wd_25⟩ ⟨by decide, Nat.le_of_ble_eq_true rfl⟩ dX5_init_1 ?_
  refine y_aload_n C dX5_init_4 rfl ?_
  refine y_bipush C dX5_init_5 kb_40 ?_
  obtain ⟨g1, h⟩ := gp h
  obtain ⟨g2, h⟩ := gp h
  obtain ⟨p3, ep3, h⟩ := ob h
  have ep3 := Option.some.inj ep3
  obtain ⟨K4, eK4, h⟩ := ob h
  have eK4 := Option.some.inj eK4
  obtain ⟨M5, eM5, h⟩ := ob h
  have eM5 := Option.some.inj eM5
  refine y_newI C wd_46 (by decide) (N' := 40) (by decide) (by decide) g1 ⟨Nat.le_of_ble_eq_true rfl, Nat.le_of_ble_eq_true rfl⟩ (by simp [yCl, Nat.ne_of_lt g2]) dX5_init_7 ?_
  rw [eK4, eM5, ep3]
  obtain ⟨g6, h⟩ := gd h
  obtain ⟨g7, h⟩ := gp h
  obtain ⟨K8, eK8, h⟩ := ob h
  have eK8 := Option.some.inj eK8
  refine y_putFr C fl_X5_9 rfl rfl g6 g7 rfl rfl dX5_init_9 ?_
  rw [eK8]
  refine y_aload_n C dX5_init_12 rfl ?_
  refine y_iconst C dX5_init_13 kc_m1 ?_
  obtain ⟨g9, h⟩ := gd h
  obtain ⟨M10, eM10, h⟩ := ob h
  have eM10 := Option.some.inj eM10
  refine y_puti C fl_X5_15 rfl g9 rfl rfl dX5_init_14 eM10 ?_
  have e0 := Option.some.inj h
  subst e0
  exact y_vret C E (Nat.le_of_ble_eq_true rfl) (Nat.le_of_ble_eq_true rfl) dX5_init_17
set_option maxRecDepth 100000 in
def b_X7_firstText (K : yK) (M : yM) : Option (Nat × yK × yM) := (if K.1 < 1000000 then (Option.bind (some K.1) fun p2 => (Option.bind (some (yKn K (0, 5))) fun K3 => (Option.bind (some (yMn K M)) fun M4 => (if gA K3 p2 (0 : Int32) = true then (Option.bind (some (yS M4 p2 ((0 : Int32)).toNatClampNeg (10 : Int32))) fun M6 => (if gA K3 p2 (1 : Int32) = true then (Option.bind (some (yS M6 p2 ((1 : Int32)).toNatClampNeg (1 : Int32))) fun M8 => (if gA K3 p2 (2 : Int32) = true then (Option.bind (some (yS M8 p2 ((2 : Int32)).toNatClampNeg (5 : Int32))) fun M10 => (if gA K3 p2 (3 : Int32) = true then (Option.bind (some (yS M10 p2 ((3 : Int32)).toNatClampNeg (-266 : Int32))) fun M12 => (if gA K3 p2 (4 : Int32) = true then (Option.bind (some (yS M12 p2 ((4 : Int32)).toNatClampNeg (-43 : Int32))) fun M14 => (if K3.1 < 1000000 then (if p2 < K3.1 then (Option.bind (some K3.1) fun p17 => (Option.bind (some (yKn K3 (5, 0))) fun K18 => (Option.bind (some (yMn K3 M14)) fun M19 => (if p17 < K18.1 then (if p2 < K18.1 then (Option.bind (b_X3_init K18 M19 p17 p2 ((1 : Int32)) ((2 : Int32))) fun r20 => (some (p17, r20.1, r20.2))) else none) else none)))) else none) else none)) else none)) else none)) else none)) else none)) else none)))) else none)
set_option maxHeartbeats 4000000 in
set_option maxRecDepth 100000 in
theorem m_X7_firstText (K : yK) (M : yM) : yMet yX7_firstText cX7_firstText 1 (Option.some (Jvm.ClassFile.FieldType.object "OneReader$Law")) rm_X7_firstText K M [] (b_X7_firstText K M) yHr := by
  refine yM_intro (by decide) (Nat.le_of_ble_eq_true rfl) (fun X r h C E => ?_)
  replace C : yCx X cX7_firstText RX7 "firstText" rm_X7_firstText 1 := C
  show Y X K M 0 0 0 [] []
  unfold b_X7_firstText at h
  refine y_iconst C dX7_firstText_0 kc_5 ?_
  obtain ⟨g1, h⟩ := gp h
  obtain ⟨p2, ep2, h⟩ := ob h
  have ep2 := Option.some.inj ep2
  obtain ⟨K3, eK3, h⟩ := ob h
  have eK3 := Option.some.inj eK3
  obtain ⟨M4, eM4, h⟩ := ob h
  have eM4 := Option.some.inj eM4
  refine y_newI C wd_46 (by decide) (N' := 5) (by decide) (by decide) g1 ⟨Nat.le_of_ble_eq_true rfl, Nat.le_of_ble_eq_true rfl⟩ (by simp [yCl]) dX7_firstText_1 ?_
  rw [eK3, eM4, ep2]
  refine y_dup C dX7_firstText_3 rfl ?_
  refine y_iconst C dX7_firstText_4 kc_0 ?_
  refine y_bipush C dX7_firstText_5 kb_10 ?_
  obtain ⟨g5, h⟩ := gd h
  obtain ⟨M6, eM6, h⟩ := ob h
  have eM6 := Option.some.inj eM6
  refine y_iast C g5 dX7_firstText_7 eM6 ?_
  refine y_dup C dX7_firstText_8 rfl ?_
  refine y_iconst C dX7_firstText_9 kc_1 ?_
  refine y_iconst C dX7_firstText_10 kc_1 ?_
  obtain ⟨g7, h⟩ := gd h
  obtain ⟨M8, eM8, h⟩ := ob h
  have eM8 := Option.some.inj eM8
  refine y_iast C g7 dX7_firstText_11 eM8 ?_
  refine y_dup C dX7_firstText_12 rfl ?_
  refine y_iconst C dX7_firstText_13 kc_2 ?_
  refine y_iconst C dX7_firstText_14 kc_5 ?_
  obtain ⟨g9, h⟩ := gd h
  obtain ⟨M10, eM10, h⟩ := ob h
  have eM10 := Option.some.inj eM10
  refine y_iast C g9 dX7_firstText_15 eM10 ?_
  refine y_dup C dX7_firstText_16 rfl ?_
  refine y_iconst C dX7_firstText_17 kc_3 ?_
  refine y_sipush C dX7_firstText_18 ks_m266 ?_
  obtain ⟨g11, h⟩ := gd h
  obtain ⟨M12, eM12, h⟩ := ob h
  have eM12 := Option.some.inj eM12
  refine y_iast C g11 dX7_firstText_21 eM12 ?_
  refine y_dup C dX7_firstText_22 rfl ?_
  refine y_iconst C dX7_firstText_23 kc_4 ?_
  refine y_bipush C dX7_firstText_24 kb_m43 ?_
  obtain ⟨g13, h⟩ := gd h
  obtain ⟨M14, eM14, h⟩ := ob h
  have eM14 := Option.some.inj eM14
  refine y_iast C g13 dX7_firstText_26 eM14 ?_
  refine y_astore_n C dX7_firstText_27 (by decide) (L' := [(0, .ref p2)]) rfl ?_
  obtain ⟨g15, h⟩ := gp h
  obtain ⟨g16, h⟩ := gp h
  obtain ⟨p17, ep17, h⟩ := ob h
  have ep17 := Option.some.inj ep17
  obtain ⟨K18, eK18, h⟩ := ob h
  have eK18 := Option.some.inj eK18
  obtain ⟨M19, eM19, h⟩ := ob h
  have eM19 := Option.some.inj eM19
  refine y_newO C (ci := 2) (by decide) ⟨wd_26, wd_31, wd_2⟩ g15 ⟨Nat.le_of_ble_eq_true rfl, Nat.le_of_ble_eq_true rfl⟩ (by simp [yCl, Nat.ne_of_lt g16]) dX7_firstText_28 ?_
  rw [eK18, eM19, ep17]
  refine y_dup C dX7_firstText_31 rfl ?_
  refine y_aload_n C dX7_firstText_32 rfl ?_
  refine y_iconst C dX7_firstText_33 kc_1 ?_
  refine y_iconst C dX7_firstText_34 kc_2 ?_
  obtain ⟨g21, h⟩ := gp h
  obtain ⟨g22, h⟩ := gp h
  obtain ⟨r20, hr20, h⟩ := ob h
  refine y_aI (k' := 2) (n' := 8) C [.ref p2, .int (1 : Int32), .int (2 : Int32)] (m_X3_init K18 M19 p17 p2 ((1 : Int32)) ((2 : Int32))) hr20 cw_X7_291 rfl rfl (by decide) ⟨Nat.le_of_ble_eq_true rfl, Nat.le_of_ble_eq_true rfl⟩ (Nat.le_of_ble_eq_true rfl) rfl rfl rfl rfl rfl (by simp [yCl2, g21, g22]) dX7_firstText_35 ?_
  have e0 := Option.some.inj h
  subst e0
  exact y_aret C E (Or.inl ⟨_, rfl⟩) (Or.inr ⟨_, rfl⟩) (Nat.le_of_ble_eq_true rfl) (Nat.le_of_ble_eq_true rfl) dX7_firstText_38
set_option maxRecDepth 100000 in
def b_X7_init (K : yK) (M : yM) (t : Nat) : Option (yK × yM) := (if K.1 < 1000000 then (if t < K.1 then (Option.bind (some K.1) fun p3 => (Option.bind (some (yKn K (1, 6))) fun K4 => (Option.bind (some (yMn K M)) fun M5 => (if p3 < K4.1 then (if t < K4.1 then (Option.bind (b_X7_firstText K4 M5 ) fun r6 => (if gQ r6.2.1 p3 1 (0 : Int32) = true then (if gO r6.2.1 r6.1 2 = true then (Option.bind (some (yKr r6.2.1 p3 ((0 : Int32)).toNatClampNeg r6.1)) fun K11 => (if gO K11 t 6 = true then (Option.bind (some (yS r6.2.2 t 7 (1 : Int32))) fun M13 => (if K11.1 < 1000000 then (if p3 < K11.1 then (if t < K11.1 then (Option.bind (some K11.1) fun p17 => (Option.bind (some (yKn K11 (6, 0))) fun K18 => (Option.bind (some (yMn K11 M13)) fun M19 => (if p17 < K18.1 then (if p3 < K18.1 then (if t < K18.1 then (Option.bind (b_X4_init K18 M19 p17) fun r20 => (if r20.1.1 < 1000000 then (if t < r20.1.1 then (if p17 < r20.1.1 then (if p3 < r20.1.1 then (Option.bind (some r20.1.1) fun p28 => (Option.bind (some (yKn r20.1 (3, 0))) fun K29 => (Option.bind (some (yMn r20.1 r20.2)) fun M30 => (if t < K29.1 then (if p28 < K29.1 then (if p17 < K29.1 then (if p3 < K29.1 then (Option.bind (b_X0_init K29 M30 p28 p3 p17) fun r31 => (if gO r31.1 t 6 = true then (if p28 < r31.1.1 then (Option.bind (some (yKr r31.1 t 0 p28)) fun K38 => (if K38.1 < 1000000 then (if t < K38.1 then (if p17 < K38.1 then (if p3 < K38.1 then (Option.bind (some K38.1) fun p43 => (Option.bind (some (yKn K38 (3, 0))) fun K44 => (Option.bind (some (yMn K38 r31.2)) fun M45 => (if t < K44.1 then (if p43 < K44.1 then (if p17 < K44.1 then (if p3 < K44.1 then (Option.bind (b_X0_init K44 M45 p43 p3 p17) fun r46 => (if gO r46.1 t 6 = true then (if p43 < r46.1.1 then (Option.bind (some (yKr r46.1 t 1 p43)) fun K53 => (if K53.1 < 1000000 then (if t < K53.1 then (if p17 < K53.1 then (if p3 < K53.1 then (Option.bind (some K53.1) fun p58 => (Option.bind (some (yKn K53 (3, 0))) fun K59 => (Option.bind (some (yMn K53 r46.2)) fun M60 => (if t < K59.1 then (if p58 < K59.1 then (if p17 < K59.1 then (if p3 < K59.1 then (Option.bind (b_X0_init K59 M60 p58 p3 p17) fun r61 => (if gO r61.1 t 6 = true then (if p58 < r61.1.1 then (Option.bind (some (yKr r61.1 t 2 p58)) fun K68 => (if K68.1 < 1000000 then (if t < K68.1 then (if p17 < K68.1 then (if p3 < K68.1 then (Option.bind (some K68.1) fun p73 => (Option.bind (some (yKn K68 (4, 0))) fun K74 => (Option.bind (some (yMn K68 r61.2)) fun M75 => (if t < K74.1 then (if p73 < K74.1 then (if p17 < K74.1 then (if p3 < K74.1 then (Option.bind (b_X1_init K74 M75 p73) fun r76 => (if gO r76.1 t 6 = true then (if p73 < r76.1.1 then (Option.bind (some (yKr r76.1 t 3 p73)) fun K83 => (if K83.1 < 1000000 then (if t < K83.1 then (if p17 < K83.1 then (if p3 < K83.1 then (Option.bind (some K83.1) fun p88 => (Option.bind (some (yKn K83 (2, 4))) fun K89 => (Option.bind (some (yMn K83 r76.2)) fun M90 => (if gO K89 t 6 = true then (if p88 < K89.1 then (Option.bind (some (yKr K89 t 4 p88)) fun K93 => (if gO K93 t 6 = true then (Option.bind (K93.2.2 t 4) fun q96 => (if K93.1 < 1000000 then (if q96 < K93.1 then (if p17 < K93.1 then (if p3 < K93.1 then (if t < K93.1 then (Option.bind (some K93.1) fun p102 => (Option.bind (some (yKn K93 (7, 0))) fun K103 => (Option.bind (some (yMn K93 M90)) fun M104 => (if q96 < K103.1 then (if p102 < K103.1 then (if p17 < K103.1 then (if p3 < K103.1 then (if t < K103.1 then (Option.bind (b_X5_init K103 M104 p102) fun r105 => (if gQ r105.1 q96 2 (0 : Int32) = true then (if gO r105.1 p102 4 = true then (Option.bind (some (yKr r105.1 q96 ((0 : Int32)).toNatClampNeg p102)) fun K113 => (if gO K113 t 6 = true then (Option.bind (K113.2.2 t 4) fun q116 => (if K113.1 < 1000000 then (if q116 < K113.1 then (if p17 < K113.1 then (if p3 < K113.1 then (if t < K113.1 then (Option.bind (some K113.1) fun p122 => (Option.bind (some (yKn K113 (7, 0))) fun K123 => (Option.bind (some (yMn K113 r105.2)) fun M124 => (if q116 < K123.1 then (if p122 < K123.1 then (if p17 < K123.1 then (if p3 < K123.1 then (if t < K123.1 then (Option.bind (b_X5_init K123 M124 p122) fun r125 => (if gQ r125.1 q116 2 (1 : Int32) = true then (if gO r125.1 p122 4 = true then (Option.bind (some (yKr r125.1 q116 ((1 : Int32)).toNatClampNeg p122)) fun K133 => (if gO K133 t 6 = true then (Option.bind (K133.2.2 t 4) fun q136 => (if K133.1 < 1000000 then (if q136 < K133.1 then (if p17 < K133.1 then (if p3 < K133.1 then (if t < K133.1 then (Option.bind (some K133.1) fun p142 => (Option.bind (some (yKn K133 (7, 0))) fun K143 => (Option.bind (some (yMn K133 r125.2)) fun M144 => (if q136 < K143.1 then (if p142 < K143.1 then (if p17 < K143.1 then (if p3 < K143.1 then (if t < K143.1 then (Option.bind (b_X5_init K143 M144 p142) fun r145 => (if gQ r145.1 q136 2 (2 : Int32) = true then (if gO r145.1 p142 4 = true then (Option.bind (some (yKr r145.1 q136 ((2 : Int32)).toNatClampNeg p142)) fun K153 => (if gO K153 t 6 = true then (Option.bind (K153.2.2 t 4) fun q156 => (if K153.1 < 1000000 then (if q156 < K153.1 then (if p17 < K153.1 then (if p3 < K153.1 then (if t < K153.1 then (Option.bind (some K153.1) fun p162 => (Option.bind (some (yKn K153 (7, 0))) fun K163 => (Option.bind (some (yMn K153 r145.2)) fun M164 => (if q156 < K163.1 then (if p162 < K163.1 then (if p17 < K163.1 then (if p3 < K163.1 then (if t < K163.1 then (Option.bind (b_X5_init K163 M164 p162) fun r165 => (if gQ r165.1 q156 2 (3 : Int32) = true then (if gO r165.1 p162 4 = true then (Option.bind (some (yKr r165.1 q156 ((3 : Int32)).toNatClampNeg p162)) fun K173 => (if K173.1 < 1000000 then (if t < K173.1 then (if p17 < K173.1 then (if p3 < K173.1 then (Option.bind (some K173.1) fun p179 => (Option.bind (some (yKn K173 (0, 160))) fun K180 => (Option.bind (some (yMn K173 r165.2)) fun M181 => (if gO K180 t 6 = true then (if p179 < K180.1 then (Option.bind (some (yKr K180 t 5 p179)) fun K184 => (some (K184, M181))) else none) else none)))) else none) else none) else none) else none)) else none) else none)) else none) else none) else none) else none) else none)))) else none) else none) else none) else none) else none)) else none)) else none) else none)) else none) else none) else none) else none) else none)))) else none) else none) else none) else none) else none)) else none)) else none) else none)) else none) else none) else none) else none) else none)))) else none) else none) else none) else none) else none)) else none)) else none) else none)) else none) else none) else none) else none) else none)))) else none) else none) else none) else none) else none)) else none)) else none) else none)))) else none) else none) else none) else none)) else none) else none)) else none) else none) else none) else none)))) else none) else none) else none) else none)) else none) else none)) else none) else none) else none) else none)))) else none) else none) else none) else none)) else none) else none)) else none) else none) else none) else none)))) else none) else none) else none) else none)) else none) else none)) else none) else none) else none) else none)))) else none) else none) else none) else none)) else none) else none) else none)))) else none) else none) else none)) else none)) else none) else none)) else none) else none)))) else none) else none)
set_option maxHeartbeats 4000000 in
set_option maxRecDepth 100000 in
theorem m_X7_init (K : yK) (M : yM) (t : Nat) : yMet yX7_init cX7_init 4 none rm_X7_init K M [.ref t] (b_X7_init K M t) yHv := by
  refine yM_intro (by decide) (Nat.le_of_ble_eq_true rfl) (fun X r h C E => ?_)
  replace C : yCx X cX7_init RX7 "<init>" rm_X7_init 4 := C
  show Y X K M 0 0 0 [(0, .ref t)] []
  unfold b_X7_init at h
  refine y_aload_n C dX7_init_0 rfl ?_
  refine y_objInit C ⟨wd_23, wd_24, wd_25⟩ ⟨by decide, Nat.le_of_ble_eq_true rfl⟩ dX7_init_1 ?_
  refine y_bipush C dX7_init_4 kb_6 ?_
  obtain ⟨g1, h⟩ := gp h
  obtain ⟨g2, h⟩ := gp h
  obtain ⟨p3, ep3, h⟩ := ob h
  have ep3 := Option.some.inj ep3
  obtain ⟨K4, eK4, h⟩ := ob h
  have eK4 := Option.some.inj eK4
  obtain ⟨M5, eM5, h⟩ := ob h
  have eM5 := Option.some.inj eM5
  refine y_newQ C (t := 1) (by decide) wd_26 (by decide) (N' := 6) (by decide) (by decide) g1 ⟨Nat.le_of_ble_eq_true rfl, Nat.le_of_ble_eq_true rfl⟩ (by simp [yCl, Nat.ne_of_lt g2]) dX7_init_6 ?_
  rw [eK4, eM5, ep3]
  refine y_astore_n C dX7_init_9 (by decide) (L' := [(1, .ref p3), (0, .ref t)]) rfl ?_
  refine y_aload_n C dX7_init_10 rfl ?_
  refine y_iconst C dX7_init_11 kc_0 ?_
  obtain ⟨g7, h⟩ := gp h
  obtain ⟨g8, h⟩ := gp h
  obtain ⟨r6, hr6, h⟩ := ob h
  refine y_aS (k' := 3) (n' := 14) C [] (m_X7_firstText K4 M5 ) hr6 cw_X7_11 rfl (by decide) ⟨Nat.le_of_ble_eq_true rfl, Nat.le_of_ble_eq_true rfl⟩ (Nat.le_of_ble_eq_true rfl) rfl rfl rfl rfl rfl (by simp [yCl2, g7, g8]) dX7_init_12 ?_
  obtain ⟨g9, h⟩ := gd h
  obtain ⟨g10, h⟩ := gd h
  obtain ⟨K11, eK11, h⟩ := ob h
  have eK11 := Option.some.inj eK11
  refine y_aast C (t := 1) (by decide) g9 g10 dX7_init_15 ?_
  rw [eK11]
  refine y_aload_n C dX7_init_16 rfl ?_
  refine y_iconst C dX7_init_17 kc_1 ?_
  obtain ⟨g12, h⟩ := gd h
  obtain ⟨M13, eM13, h⟩ := ob h
  have eM13 := Option.some.inj eM13
  refine y_puti C fl_X7_15 rfl g12 rfl rfl dX7_init_18 eM13 ?_
  obtain ⟨g14, h⟩ := gp h
  obtain ⟨g15, h⟩ := gp h
  obtain ⟨g16, h⟩ := gp h
  obtain ⟨p17, ep17, h⟩ := ob h
  have ep17 := Option.some.inj ep17
  obtain ⟨K18, eK18, h⟩ := ob h
  have eK18 := Option.some.inj eK18
  obtain ⟨M19, eM19, h⟩ := ob h
  have eM19 := Option.some.inj eM19
  refine y_newO C (ci := 3) (by decide) ⟨wd_47, wd_48, wd_3⟩ g14 ⟨Nat.le_of_ble_eq_true rfl, Nat.le_of_ble_eq_true rfl⟩ (by simp [yCl, Nat.ne_of_lt g15, Nat.ne_of_lt g16]) dX7_init_21 ?_
  rw [eK18, eM19, ep17]
  refine y_dup C dX7_init_24 rfl ?_
  obtain ⟨g21, h⟩ := gp h
  obtain ⟨g22, h⟩ := gp h
  obtain ⟨g23, h⟩ := gp h
  obtain ⟨r20, hr20, h⟩ := ob h
  refine y_aN (k' := 6) (n' := 182) C [] (m_X4_init K18 M19 p17) hr20 (by decide) cw_X7_21 rfl rfl (by decide) ⟨Nat.le_of_ble_eq_true rfl, Nat.le_of_ble_eq_true rfl⟩ (Nat.le_of_ble_eq_true rfl) rfl rfl rfl rfl rfl (by simp [yCl2, g21, g22, g23]) dX7_init_25 ?_
  refine y_astore_n C dX7_init_28 (by decide) (L' := [(2, .ref p17), (1, .ref p3), (0, .ref t)]) rfl ?_
  refine y_aload_n C dX7_init_29 rfl ?_
  obtain ⟨g24, h⟩ := gp h
  obtain ⟨g25, h⟩ := gp h
  obtain ⟨g26, h⟩ := gp h
  obtain ⟨g27, h⟩ := gp h
  obtain ⟨p28, ep28, h⟩ := ob h
  have ep28 := Option.some.inj ep28
  obtain ⟨K29, eK29, h⟩ := ob h
  have eK29 := Option.some.inj eK29
  obtain ⟨M30, eM30, h⟩ := ob h
  have eM30 := Option.some.inj eM30
  refine y_newO C (ci := 0) (by decide) ⟨wd_60, wd_61, wd_4⟩ g24 ⟨Nat.le_of_ble_eq_true rfl, Nat.le_of_ble_eq_true rfl⟩ (by simp [yCl, Nat.ne_of_lt g25, Nat.ne_of_lt g26, Nat.ne_of_lt g27]) dX7_init_30 ?_
  rw [eK29, eM30, ep28]
  refine y_dup C dX7_init_33 rfl ?_
  refine y_aload_n C dX7_init_34 rfl ?_
  refine y_aload_n C dX7_init_35 rfl ?_
  obtain ⟨g32, h⟩ := gp h
  obtain ⟨g33, h⟩ := gp h
  obtain ⟨g34, h⟩ := gp h
  obtain ⟨g35, h⟩ := gp h
  obtain ⟨r31, hr31, h⟩ := ob h
  refine y_aI (k' := 15) (n' := 292) C [.ref p3, .ref p17] (m_X0_init K29 M30 p28 p3 p17) hr31 cw_X7_24 rfl rfl (by decide) ⟨Nat.le_of_ble_eq_true rfl, Nat.le_of_ble_eq_true rfl⟩ (Nat.le_of_ble_eq_true rfl) rfl rfl rfl rfl rfl (by simp [yCl2, g32, g33, g34, g35]) dX7_init_36 ?_
  obtain ⟨g36, h⟩ := gd h
  obtain ⟨g37, h⟩ := gp h
  obtain ⟨K38, eK38, h⟩ := ob h
  have eK38 := Option.some.inj eK38
  refine y_putFr C fl_X7_27 rfl rfl g36 g37 rfl rfl dX7_init_39 ?_
  rw [eK38]
  refine y_aload_n C dX7_init_42 rfl ?_
  obtain ⟨g39, h⟩ := gp h
  obtain ⟨g40, h⟩ := gp h
  obtain ⟨g41, h⟩ := gp h
  obtain ⟨g42, h⟩ := gp h
  obtain ⟨p43, ep43, h⟩ := ob h
  have ep43 := Option.some.inj ep43
  obtain ⟨K44, eK44, h⟩ := ob h
  have eK44 := Option.some.inj eK44
  obtain ⟨M45, eM45, h⟩ := ob h
  have eM45 := Option.some.inj eM45
  refine y_newO C (ci := 0) (by decide) ⟨wd_60, wd_61, wd_4⟩ g39 ⟨Nat.le_of_ble_eq_true rfl, Nat.le_of_ble_eq_true rfl⟩ (by simp [yCl, Nat.ne_of_lt g40, Nat.ne_of_lt g41, Nat.ne_of_lt g42]) dX7_init_43 ?_
  rw [eK44, eM45, ep43]
  refine y_dup C dX7_init_46 rfl ?_
  refine y_aload_n C dX7_init_47 rfl ?_
  refine y_aload_n C dX7_init_48 rfl ?_
  obtain ⟨g47, h⟩ := gp h
  obtain ⟨g48, h⟩ := gp h
  obtain ⟨g49, h⟩ := gp h
  obtain ⟨g50, h⟩ := gp h
  obtain ⟨r46, hr46, h⟩ := ob h
  refine y_aI (k' := 24) (n' := 402) C [.ref p3, .ref p17] (m_X0_init K44 M45 p43 p3 p17) hr46 cw_X7_24 rfl rfl (by decide) ⟨Nat.le_of_ble_eq_true rfl, Nat.le_of_ble_eq_true rfl⟩ (Nat.le_of_ble_eq_true rfl) rfl rfl rfl rfl rfl (by simp [yCl2, g47, g48, g49, g50]) dX7_init_49 ?_
  obtain ⟨g51, h⟩ := gd h
  obtain ⟨g52, h⟩ := gp h
  obtain ⟨K53, eK53, h⟩ := ob h
  have eK53 := Option.some.inj eK53
  refine y_putFr C fl_X7_31 rfl rfl g51 g52 rfl rfl dX7_init_52 ?_
  rw [eK53]
  refine y_aload_n C dX7_init_55 rfl ?_
  obtain ⟨g54, h⟩ := gp h
  obtain ⟨g55, h⟩ := gp h
  obtain ⟨g56, h⟩ := gp h
  obtain ⟨g57, h⟩ := gp h
  obtain ⟨p58, ep58, h⟩ := ob h
  have ep58 := Option.some.inj ep58
  obtain ⟨K59, eK59, h⟩ := ob h
  have eK59 := Option.some.inj eK59
  obtain ⟨M60, eM60, h⟩ := ob h
  have eM60 := Option.some.inj eM60
  refine y_newO C (ci := 0) (by decide) ⟨wd_60, wd_61, wd_4⟩ g54 ⟨Nat.le_of_ble_eq_true rfl, Nat.le_of_ble_eq_true rfl⟩ (by simp [yCl, Nat.ne_of_lt g55, Nat.ne_of_lt g56, Nat.ne_of_lt g57]) dX7_init_56 ?_
  rw [eK59, eM60, ep58]
  refine y_dup C dX7_init_59 rfl ?_
  refine y_aload_n C dX7_init_60 rfl ?_
  refine y_aload_n C dX7_init_61 rfl ?_
  obtain ⟨g62, h⟩ := gp h
  obtain ⟨g63, h⟩ := gp h
  obtain ⟨g64, h⟩ := gp h
  obtain ⟨g65, h⟩ := gp h
  obtain ⟨r61, hr61, h⟩ := ob h
  refine y_aI (k' := 33) (n' := 512) C [.ref p3, .ref p17] (m_X0_init K59 M60 p58 p3 p17) hr61 cw_X7_24 rfl rfl (by decide) ⟨Nat.le_of_ble_eq_true rfl, Nat.le_of_ble_eq_true rfl⟩ (Nat.le_of_ble_eq_true rfl) rfl rfl rfl rfl rfl (by simp [yCl2, g62, g63, g64, g65]) dX7_init_62 ?_
  obtain ⟨g66, h⟩ := gd h
  obtain ⟨g67, h⟩ := gp h
  obtain ⟨K68, eK68, h⟩ := ob h
  have eK68 := Option.some.inj eK68
  refine y_putFr C fl_X7_34 rfl rfl g66 g67 rfl rfl dX7_init_65 ?_
  rw [eK68]
  refine y_aload_n C dX7_init_68 rfl ?_
  obtain ⟨g69, h⟩ := gp h
  obtain ⟨g70, h⟩ := gp h
  obtain ⟨g71, h⟩ := gp h
  obtain ⟨g72, h⟩ := gp h
  obtain ⟨p73, ep73, h⟩ := ob h
  have ep73 := Option.some.inj ep73
  obtain ⟨K74, eK74, h⟩ := ob h
  have eK74 := Option.some.inj eK74
  obtain ⟨M75, eM75, h⟩ := ob h
  have eM75 := Option.some.inj eM75
  refine y_newO C (ci := 1) (by decide) ⟨wd_142, wd_143, wd_5⟩ g69 ⟨Nat.le_of_ble_eq_true rfl, Nat.le_of_ble_eq_true rfl⟩ (by simp [yCl, Nat.ne_of_lt g70, Nat.ne_of_lt g71, Nat.ne_of_lt g72]) dX7_init_69 ?_
  rw [eK74, eM75, ep73]
  refine y_dup C dX7_init_72 rfl ?_
  obtain ⟨g77, h⟩ := gp h
  obtain ⟨g78, h⟩ := gp h
  obtain ⟨g79, h⟩ := gp h
  obtain ⟨g80, h⟩ := gp h
  obtain ⟨r76, hr76, h⟩ := ob h
  refine y_aN (k' := 39) (n' := 1166) C [] (m_X1_init K74 M75 p73) hr76 (by decide) cw_X7_39 rfl rfl (by decide) ⟨Nat.le_of_ble_eq_true rfl, Nat.le_of_ble_eq_true rfl⟩ (Nat.le_of_ble_eq_true rfl) rfl rfl rfl rfl rfl (by simp [yCl2, g77, g78, g79, g80]) dX7_init_73 ?_
  obtain ⟨g81, h⟩ := gd h
  obtain ⟨g82, h⟩ := gp h
  obtain ⟨K83, eK83, h⟩ := ob h
  have eK83 := Option.some.inj eK83
  refine y_putFr C fl_X7_40 rfl rfl g81 g82 rfl rfl dX7_init_76 ?_
  rw [eK83]
  refine y_aload_n C dX7_init_79 rfl ?_
  refine y_iconst C dX7_init_80 kc_4 ?_
  obtain ⟨g84, h⟩ := gp h
  obtain ⟨g85, h⟩ := gp h
  obtain ⟨g86, h⟩ := gp h
  obtain ⟨g87, h⟩ := gp h
  obtain ⟨p88, ep88, h⟩ := ob h
  have ep88 := Option.some.inj ep88
  obtain ⟨K89, eK89, h⟩ := ob h
  have eK89 := Option.some.inj eK89
  obtain ⟨M90, eM90, h⟩ := ob h
  have eM90 := Option.some.inj eM90
  refine y_newQ C (t := 2) (by decide) wd_189 (by decide) (N' := 4) (by decide) (by decide) g84 ⟨Nat.le_of_ble_eq_true rfl, Nat.le_of_ble_eq_true rfl⟩ (by simp [yCl, Nat.ne_of_lt g85, Nat.ne_of_lt g86, Nat.ne_of_lt g87]) dX7_init_81 ?_
  rw [eK89, eM90, ep88]
  obtain ⟨g91, h⟩ := gd h
  obtain ⟨g92, h⟩ := gp h
  obtain ⟨K93, eK93, h⟩ := ob h
  have eK93 := Option.some.inj eK93
  refine y_putFr C fl_X7_46 rfl rfl g91 g92 rfl rfl dX7_init_84 ?_
  rw [eK93]
  refine y_iconst C dX7_init_87 kc_0 ?_
  refine y_istore_n C dX7_init_88 (by decide) (L' := [(3, .int (0)), (2, .ref p17), (1, .ref p3), (0, .ref t)]) rfl ?_
  refine y_iload_n C dX7_init_89 rfl ?_
  refine y_iconst C dX7_init_90 kc_4 ?_
  refine y_icmp_ge C dX7_init_91 (tgt := 113) rfl (fun c94 => absurd c94 (by decide)) (fun c94 => ?_)
  refine y_aload_n C dX7_init_94 rfl ?_
  obtain ⟨g95, h⟩ := gd h
  obtain ⟨q96, hq96, h⟩ := ob h
  refine y_getr C fl_X7_46 g95 hq96 dX7_init_95 ?_
  refine y_iload_n C dX7_init_98 rfl ?_
  obtain ⟨g97, h⟩ := gp h
  obtain ⟨g98, h⟩ := gp h
  obtain ⟨g99, h⟩ := gp h
  obtain ⟨g100, h⟩ := gp h
  obtain ⟨g101, h⟩ := gp h
  obtain ⟨p102, ep102, h⟩ := ob h
  have ep102 := Option.some.inj ep102
  obtain ⟨K103, eK103, h⟩ := ob h
  have eK103 := Option.some.inj eK103
  obtain ⟨M104, eM104, h⟩ := ob h
  have eM104 := Option.some.inj eM104
  refine y_newO C (ci := 4) (by decide) ⟨wd_189, wd_191, wd_7⟩ g97 ⟨Nat.le_of_ble_eq_true rfl, Nat.le_of_ble_eq_true rfl⟩ (by simp [yCl, Nat.ne_of_lt g98, Nat.ne_of_lt g99, Nat.ne_of_lt g100, Nat.ne_of_lt g101]) dX7_init_99 ?_
  rw [eK103, eM104, ep102]
  refine y_dup C dX7_init_102 rfl ?_
  obtain ⟨g106, h⟩ := gp h
  obtain ⟨g107, h⟩ := gp h
  obtain ⟨g108, h⟩ := gp h
  obtain ⟨g109, h⟩ := gp h
  obtain ⟨g110, h⟩ := gp h
  obtain ⟨r105, hr105, h⟩ := ob h
  refine y_aN (k' := 42) (n' := 1213) C [] (m_X5_init K103 M104 p102) hr105 (by decide) cw_X7_50 rfl rfl (by decide) ⟨Nat.le_of_ble_eq_true rfl, Nat.le_of_ble_eq_true rfl⟩ (Nat.le_of_ble_eq_true rfl) rfl rfl rfl rfl rfl (by simp [yCl2, g106, g107, g108, g109, g110]) dX7_init_103 ?_
  obtain ⟨g111, h⟩ := gd h
  obtain ⟨g112, h⟩ := gd h
  obtain ⟨K113, eK113, h⟩ := ob h
  have eK113 := Option.some.inj eK113
  refine y_aast C (t := 2) (by decide) g111 g112 dX7_init_106 ?_
  rw [eK113]
  refine y_iinc C dX7_init_107 (by decide) rfl (v := 1) (by decide) (L' := [(3, .int (1)), (2, .ref p17), (1, .ref p3), (0, .ref t)]) rfl ?_
  refine y_goto C dX7_init_110 (tgt := 89) rfl ?_
  refine y_iload_n C dX7_init_89 rfl ?_
  refine y_iconst C dX7_init_90 kc_4 ?_
  refine y_icmp_ge C dX7_init_91 (tgt := 113) rfl (fun c114 => absurd c114 (by decide)) (fun c114 => ?_)
  refine y_aload_n C dX7_init_94 rfl ?_
  obtain ⟨g115, h⟩ := gd h
  obtain ⟨q116, hq116, h⟩ := ob h
  refine y_getr C fl_X7_46 g115 hq116 dX7_init_95 ?_
  refine y_iload_n C dX7_init_98 rfl ?_
  obtain ⟨g117, h⟩ := gp h
  obtain ⟨g118, h⟩ := gp h
  obtain ⟨g119, h⟩ := gp h
  obtain ⟨g120, h⟩ := gp h
  obtain ⟨g121, h⟩ := gp h
  obtain ⟨p122, ep122, h⟩ := ob h
  have ep122 := Option.some.inj ep122
  obtain ⟨K123, eK123, h⟩ := ob h
  have eK123 := Option.some.inj eK123
  obtain ⟨M124, eM124, h⟩ := ob h
  have eM124 := Option.some.inj eM124
  refine y_newO C (ci := 4) (by decide) ⟨wd_189, wd_191, wd_7⟩ g117 ⟨Nat.le_of_ble_eq_true rfl, Nat.le_of_ble_eq_true rfl⟩ (by simp [yCl, Nat.ne_of_lt g118, Nat.ne_of_lt g119, Nat.ne_of_lt g120, Nat.ne_of_lt g121]) dX7_init_99 ?_
  rw [eK123, eM124, ep122]
  refine y_dup C dX7_init_102 rfl ?_
  obtain ⟨g126, h⟩ := gp h
  obtain ⟨g127, h⟩ := gp h
  obtain ⟨g128, h⟩ := gp h
  obtain ⟨g129, h⟩ := gp h
  obtain ⟨g130, h⟩ := gp h
  obtain ⟨r125, hr125, h⟩ := ob h
  refine y_aN (k' := 44) (n' := 1256) C [] (m_X5_init K123 M124 p122) hr125 (by decide) cw_X7_50 rfl rfl (by decide) ⟨Nat.le_of_ble_eq_true rfl, Nat.le_of_ble_eq_true rfl⟩ (Nat.le_of_ble_eq_true rfl) rfl rfl rfl rfl rfl (by simp [yCl2, g126, g127, g128, g129, g130]) dX7_init_103 ?_
  obtain ⟨g131, h⟩ := gd h
  obtain ⟨g132, h⟩ := gd h
  obtain ⟨K133, eK133, h⟩ := ob h
  have eK133 := Option.some.inj eK133
  refine y_aast C (t := 2) (by decide) g131 g132 dX7_init_106 ?_
  rw [eK133]
  refine y_iinc C dX7_init_107 (by decide) rfl (v := 2) (by decide) (L' := [(3, .int (2)), (2, .ref p17), (1, .ref p3), (0, .ref t)]) rfl ?_
  refine y_goto C dX7_init_110 (tgt := 89) rfl ?_
  refine y_iload_n C dX7_init_89 rfl ?_
  refine y_iconst C dX7_init_90 kc_4 ?_
  refine y_icmp_ge C dX7_init_91 (tgt := 113) rfl (fun c134 => absurd c134 (by decide)) (fun c134 => ?_)
  refine y_aload_n C dX7_init_94 rfl ?_
  obtain ⟨g135, h⟩ := gd h
  obtain ⟨q136, hq136, h⟩ := ob h
  refine y_getr C fl_X7_46 g135 hq136 dX7_init_95 ?_
  refine y_iload_n C dX7_init_98 rfl ?_
  obtain ⟨g137, h⟩ := gp h
  obtain ⟨g138, h⟩ := gp h
  obtain ⟨g139, h⟩ := gp h
  obtain ⟨g140, h⟩ := gp h
  obtain ⟨g141, h⟩ := gp h
  obtain ⟨p142, ep142, h⟩ := ob h
  have ep142 := Option.some.inj ep142
  obtain ⟨K143, eK143, h⟩ := ob h
  have eK143 := Option.some.inj eK143
  obtain ⟨M144, eM144, h⟩ := ob h
  have eM144 := Option.some.inj eM144
  refine y_newO C (ci := 4) (by decide) ⟨wd_189, wd_191, wd_7⟩ g137 ⟨Nat.le_of_ble_eq_true rfl, Nat.le_of_ble_eq_true rfl⟩ (by simp [yCl, Nat.ne_of_lt g138, Nat.ne_of_lt g139, Nat.ne_of_lt g140, Nat.ne_of_lt g141]) dX7_init_99 ?_
  rw [eK143, eM144, ep142]
  refine y_dup C dX7_init_102 rfl ?_
  obtain ⟨g146, h⟩ := gp h
  obtain ⟨g147, h⟩ := gp h
  obtain ⟨g148, h⟩ := gp h
  obtain ⟨g149, h⟩ := gp h
  obtain ⟨g150, h⟩ := gp h
  obtain ⟨r145, hr145, h⟩ := ob h
  refine y_aN (k' := 46) (n' := 1299) C [] (m_X5_init K143 M144 p142) hr145 (by decide) cw_X7_50 rfl rfl (by decide) ⟨Nat.le_of_ble_eq_true rfl, Nat.le_of_ble_eq_true rfl⟩ (Nat.le_of_ble_eq_true rfl) rfl rfl rfl rfl rfl (by simp [yCl2, g146, g147, g148, g149, g150]) dX7_init_103 ?_
  obtain ⟨g151, h⟩ := gd h
  obtain ⟨g152, h⟩ := gd h
  obtain ⟨K153, eK153, h⟩ := ob h
  have eK153 := Option.some.inj eK153
  refine y_aast C (t := 2) (by decide) g151 g152 dX7_init_106 ?_
  rw [eK153]
  refine y_iinc C dX7_init_107 (by decide) rfl (v := 3) (by decide) (L' := [(3, .int (3)), (2, .ref p17), (1, .ref p3), (0, .ref t)]) rfl ?_
  refine y_goto C dX7_init_110 (tgt := 89) rfl ?_
  refine y_iload_n C dX7_init_89 rfl ?_
  refine y_iconst C dX7_init_90 kc_4 ?_
  refine y_icmp_ge C dX7_init_91 (tgt := 113) rfl (fun c154 => absurd c154 (by decide)) (fun c154 => ?_)
  refine y_aload_n C dX7_init_94 rfl ?_
  obtain ⟨g155, h⟩ := gd h
  obtain ⟨q156, hq156, h⟩ := ob h
  refine y_getr C fl_X7_46 g155 hq156 dX7_init_95 ?_
  refine y_iload_n C dX7_init_98 rfl ?_
  obtain ⟨g157, h⟩ := gp h
  obtain ⟨g158, h⟩ := gp h
  obtain ⟨g159, h⟩ := gp h
  obtain ⟨g160, h⟩ := gp h
  obtain ⟨g161, h⟩ := gp h
  obtain ⟨p162, ep162, h⟩ := ob h
  have ep162 := Option.some.inj ep162
  obtain ⟨K163, eK163, h⟩ := ob h
  have eK163 := Option.some.inj eK163
  obtain ⟨M164, eM164, h⟩ := ob h
  have eM164 := Option.some.inj eM164
  refine y_newO C (ci := 4) (by decide) ⟨wd_189, wd_191, wd_7⟩ g157 ⟨Nat.le_of_ble_eq_true rfl, Nat.le_of_ble_eq_true rfl⟩ (by simp [yCl, Nat.ne_of_lt g158, Nat.ne_of_lt g159, Nat.ne_of_lt g160, Nat.ne_of_lt g161]) dX7_init_99 ?_
  rw [eK163, eM164, ep162]
  refine y_dup C dX7_init_102 rfl ?_
  obtain ⟨g166, h⟩ := gp h
  obtain ⟨g167, h⟩ := gp h
  obtain ⟨g168, h⟩ := gp h
  obtain ⟨g169, h⟩ := gp h
  obtain ⟨g170, h⟩ := gp h
  obtain ⟨r165, hr165, h⟩ := ob h
  refine y_aN (k' := 48) (n' := 1342) C [] (m_X5_init K163 M164 p162) hr165 (by decide) cw_X7_50 rfl rfl (by decide) ⟨Nat.le_of_ble_eq_true rfl, Nat.le_of_ble_eq_true rfl⟩ (Nat.le_of_ble_eq_true rfl) rfl rfl rfl rfl rfl (by simp [yCl2, g166, g167, g168, g169, g170]) dX7_init_103 ?_
  obtain ⟨g171, h⟩ := gd h
  obtain ⟨g172, h⟩ := gd h
  obtain ⟨K173, eK173, h⟩ := ob h
  have eK173 := Option.some.inj eK173
  refine y_aast C (t := 2) (by decide) g171 g172 dX7_init_106 ?_
  rw [eK173]
  refine y_iinc C dX7_init_107 (by decide) rfl (v := 4) (by decide) (L' := [(3, .int (4)), (2, .ref p17), (1, .ref p3), (0, .ref t)]) rfl ?_
  refine y_goto C dX7_init_110 (tgt := 89) rfl ?_
  refine y_iload_n C dX7_init_89 rfl ?_
  refine y_iconst C dX7_init_90 kc_4 ?_
  refine y_icmp_ge C dX7_init_91 (tgt := 113) rfl (fun c174 => ?_) (fun c174 => absurd c174 (by decide))
  refine y_aload_n C dX7_init_113 rfl ?_
  refine y_sipush C dX7_init_114 ks_160 ?_
  obtain ⟨g175, h⟩ := gp h
  obtain ⟨g176, h⟩ := gp h
  obtain ⟨g177, h⟩ := gp h
  obtain ⟨g178, h⟩ := gp h
  obtain ⟨p179, ep179, h⟩ := ob h
  have ep179 := Option.some.inj ep179
  obtain ⟨K180, eK180, h⟩ := ob h
  have eK180 := Option.some.inj eK180
  obtain ⟨M181, eM181, h⟩ := ob h
  have eM181 := Option.some.inj eM181
  refine y_newI C wd_46 (by decide) (N' := 160) (by decide) (by decide) g175 ⟨Nat.le_of_ble_eq_true rfl, Nat.le_of_ble_eq_true rfl⟩ (by simp [yCl, Nat.ne_of_lt g176, Nat.ne_of_lt g177, Nat.ne_of_lt g178]) dX7_init_117 ?_
  rw [eK180, eM181, ep179]
  obtain ⟨g182, h⟩ := gd h
  obtain ⟨g183, h⟩ := gp h
  obtain ⟨K184, eK184, h⟩ := ob h
  have eK184 := Option.some.inj eK184
  refine y_putFr C fl_X7_51 rfl rfl g182 g183 rfl rfl dX7_init_119 ?_
  rw [eK184]
  have e0 := Option.some.inj h
  subst e0
  exact y_vret C E (Nat.le_of_ble_eq_true rfl) (Nat.le_of_ble_eq_true rfl) dX7_init_122
set_option maxRecDepth 100000 in
def b_X7_text (K : yK) (M : yM) (t : Nat) : Option (Int32 × yK × yM) := (if gO K t 6 = true then (if (M t 7) < 0 then (some ((-4 : Int32), K, M)) else (if (M t 7) < (6 : Int32) then (Option.bind (K.2.2 t 3) fun q4 => (Option.bind (K.2.2 t 5) fun q5 => (if gO K q4 1 = true then (if t < K.1 then (Option.bind (b_X1_lawOf K M q4 q5 ((M t 6))) fun r7 => (Option.elim r7.1 (if gO r7.2.1 t 6 = true then (Option.bind (some (yS r7.2.2 t 6 (0 : Int32))) fun M11 => (Option.bind (r7.2.1.2.2 t 3) fun q13 => (if gO r7.2.1 q13 1 = true then (Option.bind (b_X1_fault r7.2.1 M11 q13) fun r15 => (some (((-100 : Int32) - r15), r7.2.1, M11))) else none))) else none) (fun q9 => (if gO r7.2.1 t 6 = true then (Option.bind (some (yS r7.2.2 t 6 (0 : Int32))) fun M17 => (Option.bind (r7.2.1.2.2 t 0) fun q19 => (if gO r7.2.1 q19 0 = true then (Option.bind (r7.2.1.2.2 q19 17) fun q21 => (if gQ r7.2.1 q21 1 (M17 t 7) = true then (if gO r7.2.1 q9 2 = true then (Option.bind (some (yKr r7.2.1 q21 ((M17 t 7)).toNatClampNeg q9)) fun K24 => (if gO K24 t 6 = true then (Option.bind (some (yS M17 t 7 ((M17 t 7) + (1 : Int32)))) fun M26 => (some (((M26 t 7) - (1 : Int32)), K24, M26))) else none)) else none) else none)) else none))) else none)))) else none) else none))) else (some ((-4 : Int32), K, M)))) else none)
set_option maxHeartbeats 4000000 in
set_option maxRecDepth 100000 in
theorem m_X7_text (K : yK) (M : yM) (t : Nat) : yMet yX7_text cX7_text 2 (Option.some Jvm.ClassFile.FieldType.int) rm_X7_text K M [.ref t] (b_X7_text K M t) yHi := by
  refine yM_intro (by decide) (Nat.le_of_ble_eq_true rfl) (fun X r h C E => ?_)
  replace C : yCx X cX7_text RX7 "text" rm_X7_text 2 := C
  show Y X K M 0 0 0 [(0, .ref t)] []
  unfold b_X7_text at h
  refine y_aload_n C dX7_text_0 rfl ?_
  obtain ⟨g1, h⟩ := gd h
  refine y_geti C fl_X7_15 g1 dX7_text_1 ?_
  refine y_if_lt C dX7_text_4 (tgt := 16) rfl (fun c2 => ?_) (fun c2 => ?_)
  · have h := itT c2 h
    refine y_bipush C dX7_text_16 kb_m4 ?_
    have e0 := Option.some.inj h
    subst e0
    exact y_iret C E (Nat.le_of_ble_eq_true rfl) (Nat.le_of_ble_eq_true rfl) dX7_text_18
  · have h := itF c2 h
    refine y_aload_n C dX7_text_7 rfl ?_
    refine y_geti C fl_X7_15 g1 dX7_text_8 ?_
    refine y_bipush C dX7_text_11 kb_6 ?_
    refine y_icmp_lt C dX7_text_13 (tgt := 19) rfl (fun c3 => ?_) (fun c3 => ?_)
    · have h := itT c3 h
      refine y_aload_n C dX7_text_19 rfl ?_
      obtain ⟨q4, hq4, h⟩ := ob h
      refine y_getr C fl_X7_40 g1 hq4 dX7_text_20 ?_
      refine y_aload_n C dX7_text_23 rfl ?_
      obtain ⟨q5, hq5, h⟩ := ob h
      refine y_getr C fl_X7_51 g1 hq5 dX7_text_24 ?_
      refine y_aload_n C dX7_text_27 rfl ?_
      refine y_geti C fl_X7_76 g1 dX7_text_28 ?_
      obtain ⟨g6, h⟩ := gd h
      obtain ⟨g8, h⟩ := gp h
      obtain ⟨r7, hr7, h⟩ := ob h
      refine y_aV (k' := 2) (n' := 163) C [.ref q5, .int (M t 6)] (m_X1_lawOf K M q4 q5 ((M t 6))) hr7 g6 cw_X7_107 rfl (by decide) ⟨Nat.le_of_ble_eq_true rfl, Nat.le_of_ble_eq_true rfl⟩ (Nat.le_of_ble_eq_true rfl) rfl rfl rfl rfl rfl (by simp [yCl2, g8]) dX7_text_31 ?_
      rcases hzq9 : r7.1 with _ | q9
      · rw [hzq9] at h
        simp only [Option.elim_none] at h
        refine y_astore_nN C dX7_text_34 (by decide) (L' := [(1, .null), (0, .ref t)]) rfl ?_
        refine y_aload_n C dX7_text_35 rfl ?_
        refine y_iconst C dX7_text_36 kc_0 ?_
        obtain ⟨g10, h⟩ := gd h
        obtain ⟨M11, eM11, h⟩ := ob h
        have eM11 := Option.some.inj eM11
        refine y_puti C fl_X7_76 rfl g10 rfl rfl dX7_text_37 eM11 ?_
        refine y_aload_nN C dX7_text_40 rfl ?_
        refine y_ifnonnullN C dX7_text_41 ?_
        refine y_bipush C dX7_text_44 kb_m100 ?_
        refine y_aload_n C dX7_text_46 rfl ?_
        obtain ⟨q13, hq13, h⟩ := ob h
        refine y_getr C fl_X7_40 g10 hq13 dX7_text_47 ?_
        obtain ⟨g14, h⟩ := gd h
        obtain ⟨r15, hr15, h⟩ := ob h
        refine y_cV C [] (m_X1_fault r7.2.1 M11 q13) hr15 g14 cw_X7_111 rfl (by decide) ⟨rfl, rfl⟩ ⟨Nat.le_of_ble_eq_true rfl, Nat.le_of_ble_eq_true rfl⟩ (Nat.le_of_ble_eq_true rfl) rfl rfl rfl dX7_text_50 ?_
        refine y_isub C dX7_text_53 ?_
        have e0 := Option.some.inj h
        subst e0
        exact y_iret C E (Nat.le_of_ble_eq_true rfl) (Nat.le_of_ble_eq_true rfl) dX7_text_54
      · rw [hzq9] at h
        simp only [Option.elim_some] at h
        refine y_astore_n C dX7_text_34 (by decide) (L' := [(1, .ref q9), (0, .ref t)]) rfl ?_
        refine y_aload_n C dX7_text_35 rfl ?_
        refine y_iconst C dX7_text_36 kc_0 ?_
        obtain ⟨g16, h⟩ := gd h
        obtain ⟨M17, eM17, h⟩ := ob h
        have eM17 := Option.some.inj eM17
        refine y_puti C fl_X7_76 rfl g16 rfl rfl dX7_text_37 eM17 ?_
        refine y_aload_n C dX7_text_40 rfl ?_
        refine y_ifnonnull C dX7_text_41 (tgt := 55) rfl ?_
        refine y_aload_n C dX7_text_55 rfl ?_
        obtain ⟨q19, hq19, h⟩ := ob h
        refine y_getr C fl_X7_27 g16 hq19 dX7_text_56 ?_
        obtain ⟨g20, h⟩ := gd h
        obtain ⟨q21, hq21, h⟩ := ob h
        refine y_getr C fl_X7_114 g20 hq21 dX7_text_59 ?_
        refine y_aload_n C dX7_text_62 rfl ?_
        refine y_geti C fl_X7_15 g16 dX7_text_63 ?_
        refine y_aload_n C dX7_text_66 rfl ?_
        obtain ⟨g22, h⟩ := gd h
        obtain ⟨g23, h⟩ := gd h
        obtain ⟨K24, eK24, h⟩ := ob h
        have eK24 := Option.some.inj eK24
        refine y_aast C (t := 1) (by decide) g22 g23 dX7_text_67 ?_
        rw [eK24]
        refine y_aload_n C dX7_text_68 rfl ?_
        refine y_dup C dX7_text_69 rfl ?_
        obtain ⟨g25, h⟩ := gd h
        refine y_geti C fl_X7_15 g25 dX7_text_70 ?_
        refine y_iconst C dX7_text_73 kc_1 ?_
        refine y_iadd C dX7_text_74 ?_
        obtain ⟨M26, eM26, h⟩ := ob h
        have eM26 := Option.some.inj eM26
        refine y_puti C fl_X7_15 rfl g25 rfl rfl dX7_text_75 eM26 ?_
        refine y_aload_n C dX7_text_78 rfl ?_
        refine y_geti C fl_X7_15 g25 dX7_text_79 ?_
        refine y_iconst C dX7_text_82 kc_1 ?_
        refine y_isub C dX7_text_83 ?_
        have e0 := Option.some.inj h
        subst e0
        exact y_iret C E (Nat.le_of_ble_eq_true rfl) (Nat.le_of_ble_eq_true rfl) dX7_text_84
    · have h := itF c3 h
      refine y_bipush C dX7_text_16 kb_m4 ?_
      have e0 := Option.some.inj h
      subst e0
      exact y_iret C E (Nat.le_of_ble_eq_true rfl) (Nat.le_of_ble_eq_true rfl) dX7_text_18
def b_X8_init_990 (K : yK) (t : Nat) : Nat → yM → Int32 → Option yM
  | 0, _, _ => none
  | n + 1, M, u990_1 => (if (38 : Int32) ≤ u990_1 then (some M) else (if gO K t 7 = true then (Option.bind (K.2.2 t 11) fun q3 => (Option.bind (K.2.2 t 27) fun q4 => (if gA K q4 u990_1 = true then (if gA K q3 u990_1 = true then (Option.bind (some (yS M q3 (u990_1).toNatClampNeg (M q4 (u990_1).toNatClampNeg))) fun M7 => (Option.bind (some (u990_1 + (1 : Int32))) fun v8 => (b_X8_init_990 K t n M7 v8))) else none) else none))) else none))
set_option maxHeartbeats 4000000 in
set_option maxRecDepth 100000 in
theorem l_X8_init_990 {X : yX} {K : yK} {k9 n9 : Nat} {t : Nat} (C : yCx X cX8_init RX8 "<init>" rm_X8_init 2) : ∀ (n : Nat) (M : yM) (u990_1 : Int32) (x : yM), b_X8_init_990 K t n M u990_1 = some x → ∀ (hX : Y X K x k9 n9 1014 [(0, .ref t)] []), Y X K M k9 n9 990 [(0, .ref t), (1, .int u990_1)] [] := by
  intro n
  induction n with
  | zero =>
    intro M u990_1 x h
    exact nomatch (show (none : Option _) = some x from h)
  | succ n ih =>
    intro M u990_1 x h hX
    rw [b_X8_init_990] at h
    refine y_iload_n C dX8_init_990 rfl ?_
    refine y_bipush C dX8_init_991 kb_38 ?_
    refine y_icmp_ge C dX8_init_993 (tgt := 1014) rfl (fun c1 => ?_) (fun c1 => ?_)
    · have h := itT c1 h
      have e0 := Option.some.inj h
      subst e0
      exact y_sel [0] rfl hX
    · have h := itF c1 h
      refine y_aload_n C dX8_init_996 rfl ?_
      obtain ⟨g2, h⟩ := gd h
      obtain ⟨q3, hq3, h⟩ := ob h
      refine y_getr C fl_X8_26 g2 hq3 dX8_init_997 ?_
      refine y_iload_n C dX8_init_1000 rfl ?_
      refine y_aload_n C dX8_init_1001 rfl ?_
      obtain ⟨q4, hq4, h⟩ := ob h
      refine y_getr C fl_X8_53 g2 hq4 dX8_init_1002 ?_
      refine y_iload_n C dX8_init_1005 rfl ?_
      obtain ⟨g5, h⟩ := gd h
      refine y_iald C g5 dX8_init_1006 ?_
      obtain ⟨g6, h⟩ := gd h
      obtain ⟨M7, eM7, h⟩ := ob h
      have eM7 := Option.some.inj eM7
      refine y_iast C g6 dX8_init_1007 eM7 ?_
      obtain ⟨v8, ev8, h⟩ := ob h
      have ev8 := Option.some.inj ev8
      refine y_iinc C dX8_init_1008 (by decide) rfl (v := v8) (by subst ev8; rfl) (L' := [(1, .int v8), (0, .ref t)]) rfl ?_
      refine y_goto C dX8_init_1011 (tgt := 990) rfl ?_
      exact y_sel [0, 1] rfl (ih _ _ _  h hX)
set_option maxRecDepth 100000 in
def b_X8_init0 (K : yK) (M : yM) (t : Nat) : Option (yK × yM) := (if K.1 < 1000000 then (if t < K.1 then (Option.bind (some K.1) fun p3 => (Option.bind (some (yKn K (0, 12))) fun K4 => (Option.bind (some (yMn K M)) fun M5 => (if gO K4 t 7 = true then (if p3 < K4.1 then (Option.bind (some (yKr K4 t 1 p3)) fun K8 => (if K8.1 < 1000000 then (if t < K8.1 then (Option.bind (some K8.1) fun p11 => (Option.bind (some (yKn K8 (0, 12))) fun K12 => (Option.bind (some (yMn K8 M5)) fun M13 => (if gO K12 t 7 = true then (if p11 < K12.1 then (Option.bind (some (yKr K12 t 2 p11)) fun K16 => (if K16.1 < 1000000 then (if t < K16.1 then (Option.bind (some K16.1) fun p19 => (Option.bind (some (yKn K16 (0, 36))) fun K20 => (Option.bind (some (yMn K16 M13)) fun M21 => (if gO K20 t 7 = true then (if p19 < K20.1 then (Option.bind (some (yKr K20 t 3 p19)) fun K24 => (if K24.1 < 1000000 then (if t < K24.1 then (Option.bind (some K24.1) fun p27 => (Option.bind (some (yKn K24 (0, 6))) fun K28 => (Option.bind (some (yMn K24 M21)) fun M29 => (if gO K28 t 7 = true then (if p27 < K28.1 then (Option.bind (some (yKr K28 t 5 p27)) fun K32 => (if gO K32 t 7 = true then (Option.bind (some (yS M29 t 8 (-1 : Int32))) fun M34 => (if K32.1 < 1000000 then (if t < K32.1 then (Option.bind (some K32.1) fun p37 => (Option.bind (some (yKn K32 (0, 160))) fun K38 => (Option.bind (some (yMn K32 M34)) fun M39 => (if gO K38 t 7 = true then (if p37 < K38.1 then (Option.bind (some (yKr K38 t 11 p37)) fun K42 => (if K42.1 < 1000000 then (if t < K42.1 then (Option.bind (some K42.1) fun p45 => (Option.bind (some (yKn K42 (0, 1200))) fun K46 => (Option.bind (some (yMn K42 M39)) fun M47 => (if gO K46 t 7 = true then (if p45 < K46.1 then (Option.bind (some (yKr K46 t 13 p45)) fun K50 => (if K50.1 < 1000000 then (if t < K50.1 then (Option.bind (some K50.1) fun p53 => (Option.bind (some (yKn K50 (0, 24))) fun K54 => (Option.bind (some (yMn K50 M47)) fun M55 => (if gO K54 t 7 = true then (if p53 < K54.1 then (Option.bind (some (yKr K54 t 14 p53)) fun K58 => (if K58.1 < 1000000 then (if t < K58.1 then (Option.bind (some K58.1) fun p61 => (Option.bind (some (yKn K58 (0, 36))) fun K62 => (Option.bind (some (yMn K58 M55)) fun M63 => (if gO K62 t 7 = true then (if p61 < K62.1 then (Option.bind (some (yKr K62 t 21 p61)) fun K66 => (if K66.1 < 1000000 then (if t < K66.1 then (Option.bind (some K66.1) fun p69 => (Option.bind (some (yKn K66 (0, 6))) fun K70 => (Option.bind (some (yMn K66 M63)) fun M71 => (if gO K70 t 7 = true then (if p69 < K70.1 then (Option.bind (some (yKr K70 t 22 p69)) fun K74 => (if K74.1 < 1000000 then (if t < K74.1 then (Option.bind (some K74.1) fun p77 => (Option.bind (some (yKn K74 (0, 5))) fun K78 => (Option.bind (some (yMn K74 M71)) fun M79 => (if gO K78 t 7 = true then (if p77 < K78.1 then (Option.bind (some (yKr K78 t 23 p77)) fun K82 => (if K82.1 < 1000000 then (if t < K82.1 then (Option.bind (some K82.1) fun p85 => (Option.bind (some (yKn K82 (0, 4))) fun K86 => (Option.bind (some (yMn K82 M79)) fun M87 => (if gA K86 p85 (0 : Int32) = true then (Option.bind (some (yS M87 p85 ((0 : Int32)).toNatClampNeg (-1 : Int32))) fun M89 => (if gA K86 p85 (1 : Int32) = true then (Option.bind (some (yS M89 p85 ((1 : Int32)).toNatClampNeg (-1 : Int32))) fun M91 => (if gA K86 p85 (2 : Int32) = true then (Option.bind (some (yS M91 p85 ((2 : Int32)).toNatClampNeg (-1 : Int32))) fun M93 => (if gA K86 p85 (3 : Int32) = true then (Option.bind (some (yS M93 p85 ((3 : Int32)).toNatClampNeg (-1 : Int32))) fun M95 => (if gO K86 t 7 = true then (if p85 < K86.1 then (Option.bind (some (yKr K86 t 24 p85)) fun K98 => (if K98.1 < 1000000 then (if t < K98.1 then (Option.bind (some K98.1) fun p101 => (Option.bind (some (yKn K98 (0, 4))) fun K102 => (Option.bind (some (yMn K98 M95)) fun M103 => (if gO K102 t 7 = true then (if p101 < K102.1 then (Option.bind (some (yKr K102 t 25 p101)) fun K106 => (if K106.1 < 1000000 then (if t < K106.1 then (Option.bind (some K106.1) fun p109 => (Option.bind (some (yKn K106 (0, 160))) fun K110 => (Option.bind (some (yMn K106 M103)) fun M111 => (if gO K110 t 7 = true then (if p109 < K110.1 then (Option.bind (some (yKr K110 t 26 p109)) fun K114 => (if K114.1 < 1000000 then (if t < K114.1 then (Option.bind (some K114.1) fun p117 => (Option.bind (some (yKn K114 (0, 38))) fun K118 => (Option.bind (some (yMn K114 M111)) fun M119 => (if gA K118 p117 (0 : Int32) = true then (Option.bind (some (yS M119 p117 ((0 : Int32)).toNatClampNeg (114 : Int32))) fun M121 => (if gA K118 p117 (1 : Int32) = true then (Option.bind (some (yS M121 p117 ((1 : Int32)).toNatClampNeg (101 : Int32))) fun M123 => (if gA K118 p117 (2 : Int32) = true then (Option.bind (some (yS M123 p117 ((2 : Int32)).toNatClampNeg (97 : Int32))) fun M125 => (if gA K118 p117 (3 : Int32) = true then (Option.bind (some (yS M125 p117 ((3 : Int32)).toNatClampNeg (100 : Int32))) fun M127 => (if gA K118 p117 (4 : Int32) = true then (Option.bind (some (yS M127 p117 ((4 : Int32)).toNatClampNeg (115 : Int32))) fun M129 => (if gA K118 p117 (5 : Int32) = true then (Option.bind (some (yS M129 p117 ((5 : Int32)).toNatClampNeg (32 : Int32))) fun M131 => (if gA K118 p117 (6 : Int32) = true then (Option.bind (some (yS M131 p117 ((6 : Int32)).toNatClampNeg (49 : Int32))) fun M133 => (if gA K118 p117 (7 : Int32) = true then (Option.bind (some (yS M133 p117 ((7 : Int32)).toNatClampNeg (48 : Int32))) fun M135 => (if gA K118 p117 (8 : Int32) = true then (Option.bind (some (yS M135 p117 ((8 : Int32)).toNatClampNeg (32 : Int32))) fun M137 => (if gA K118 p117 (9 : Int32) = true then (Option.bind (some (yS M137 p117 ((9 : Int32)).toNatClampNeg (59 : Int32))) fun M139 => (if gA K118 p117 (10 : Int32) = true then (Option.bind (some (yS M139 p117 ((10 : Int32)).toNatClampNeg (32 : Int32))) fun M141 => (if gA K118 p117 (11 : Int32) = true then (Option.bind (some (yS M141 p117 ((11 : Int32)).toNatClampNeg (104 : Int32))) fun M143 => (if gA K118 p117 (12 : Int32) = true then (Option.bind (some (yS M143 p117 ((12 : Int32)).toNatClampNeg (111 : Int32))) fun M145 => (if gA K118 p117 (13 : Int32) = true then (Option.bind (some (yS M145 p117 ((13 : Int32)).toNatClampNeg (108 : Int32))) fun M147 => (if gA K118 p117 (14 : Int32) = true then (Option.bind (some (yS M147 p117 ((14 : Int32)).toNatClampNeg (100 : Int32))) fun M149 => (if gA K118 p117 (15 : Int32) = true then (Option.bind (some (yS M149 p117 ((15 : Int32)).toNatClampNeg (115 : Int32))) fun M151 => (if gA K118 p117 (16 : Int32) = true then (Option.bind (some (yS M151 p117 ((16 : Int32)).toNatClampNeg (32 : Int32))) fun M153 => (if gA K118 p117 (17 : Int32) = true then (Option.bind (some (yS M153 p117 ((17 : Int32)).toNatClampNeg (49 : Int32))) fun M155 => (if gA K118 p117 (18 : Int32) = true then (Option.bind (some (yS M155 p117 ((18 : Int32)).toNatClampNeg (32 : Int32))) fun M157 => (if gA K118 p117 (19 : Int32) = true then (Option.bind (some (yS M157 p117 ((19 : Int32)).toNatClampNeg (59 : Int32))) fun M159 => (if gA K118 p117 (20 : Int32) = true then (Option.bind (some (yS M159 p117 ((20 : Int32)).toNatClampNeg (32 : Int32))) fun M161 => (if gA K118 p117 (21 : Int32) = true then (Option.bind (some (yS M161 p117 ((21 : Int32)).toNatClampNeg (119 : Int32))) fun M163 => (if gA K118 p117 (22 : Int32) = true then (Option.bind (some (yS M163 p117 ((22 : Int32)).toNatClampNeg (111 : Int32))) fun M165 => (if gA K118 p117 (23 : Int32) = true then (Option.bind (some (yS M165 p117 ((23 : Int32)).toNatClampNeg (114 : Int32))) fun M167 => (if gA K118 p117 (24 : Int32) = true then (Option.bind (some (yS M167 p117 ((24 : Int32)).toNatClampNeg (116 : Int32))) fun M169 => (if gA K118 p117 (25 : Int32) = true then (Option.bind (some (yS M169 p117 ((25 : Int32)).toNatClampNeg (104 : Int32))) fun M171 => (if gA K118 p117 (26 : Int32) = true then (Option.bind (some (yS M171 p117 ((26 : Int32)).toNatClampNeg (32 : Int32))) fun M173 => (if gA K118 p117 (27 : Int32) = true then (Option.bind (some (yS M173 p117 ((27 : Int32)).toNatClampNeg (53 : Int32))) fun M175 => (if gA K118 p117 (28 : Int32) = true then (Option.bind (some (yS M175 p117 ((28 : Int32)).toNatClampNeg (32 : Int32))) fun M177 => (if gA K118 p117 (29 : Int32) = true then (Option.bind (some (yS M177 p117 ((29 : Int32)).toNatClampNeg (43 : Int32))) fun M179 => (if gA K118 p117 (30 : Int32) = true then (Option.bind (some (yS M179 p117 ((30 : Int32)).toNatClampNeg (32 : Int32))) fun M181 => (if gA K118 p117 (31 : Int32) = true then (Option.bind (some (yS M181 p117 ((31 : Int32)).toNatClampNeg (119 : Int32))) fun M183 => (if gA K118 p117 (32 : Int32) = true then (Option.bind (some (yS M183 p117 ((32 : Int32)).toNatClampNeg (111 : Int32))) fun M185 => (if gA K118 p117 (33 : Int32) = true then (Option.bind (some (yS M185 p117 ((33 : Int32)).toNatClampNeg (114 : Int32))) fun M187 => (if gA K118 p117 (34 : Int32) = true then (Option.bind (some (yS M187 p117 ((34 : Int32)).toNatClampNeg (100 : Int32))) fun M189 => (if gA K118 p117 (35 : Int32) = true then (Option.bind (some (yS M189 p117 ((35 : Int32)).toNatClampNeg (115 : Int32))) fun M191 => (if gA K118 p117 (36 : Int32) = true then (Option.bind (some (yS M191 p117 ((36 : Int32)).toNatClampNeg (32 : Int32))) fun M193 => (if gA K118 p117 (37 : Int32) = true then (Option.bind (some (yS M193 p117 ((37 : Int32)).toNatClampNeg (59 : Int32))) fun M195 => (if gO K118 t 7 = true then (if p117 < K118.1 then (Option.bind (some (yKr K118 t 27 p117)) fun K198 => (if K198.1 < 1000000 then (if t < K198.1 then (Option.bind (some K198.1) fun p201 => (Option.bind (some (yKn K198 (0, 96))) fun K202 => (Option.bind (some (yMn K198 M195)) fun M203 => (if gA K202 p201 (0 : Int32) = true then (Option.bind (some (yS M203 p201 ((0 : Int32)).toNatClampNeg (114 : Int32))) fun M205 => (if gA K202 p201 (1 : Int32) = true then (Option.bind (some (yS M205 p201 ((1 : Int32)).toNatClampNeg (101 : Int32))) fun M207 => (if gA K202 p201 (2 : Int32) = true then (Option.bind (some (yS M207 p201 ((2 : Int32)).toNatClampNeg (97 : Int32))) fun M209 => (if gA K202 p201 (3 : Int32) = true then (Option.bind (some (yS M209 p201 ((3 : Int32)).toNatClampNeg (100 : Int32))) fun M211 => (if gA K202 p201 (4 : Int32) = true then (Option.bind (some (yS M211 p201 ((4 : Int32)).toNatClampNeg (115 : Int32))) fun M213 => (if gA K202 p201 (5 : Int32) = true then (Option.bind (some (yS M213 p201 ((5 : Int32)).toNatClampNeg (32 : Int32))) fun M215 => (if gA K202 p201 (6 : Int32) = true then (Option.bind (some (yS M215 p201 ((6 : Int32)).toNatClampNeg (32 : Int32))) fun M217 => (if gA K202 p201 (7 : Int32) = true then (Option.bind (some (yS M217 p201 ((7 : Int32)).toNatClampNeg (32 : Int32))) fun M219 => (if gA K202 p201 (8 : Int32) = true then (Option.bind (some (yS M219 p201 ((8 : Int32)).toNatClampNeg (104 : Int32))) fun M221 => (if gA K202 p201 (9 : Int32) = true then (Option.bind (some (yS M221 p201 ((9 : Int32)).toNatClampNeg (111 : Int32))) fun M223 => (if gA K202 p201 (10 : Int32) = true then (Option.bind (some (yS M223 p201 ((10 : Int32)).toNatClampNeg (108 : Int32))) fun M225 => (if gA K202 p201 (11 : Int32) = true then (Option.bind (some (yS M225 p201 ((11 : Int32)).toNatClampNeg (100 : Int32))) fun M227 => (if gA K202 p201 (12 : Int32) = true then (Option.bind (some (yS M227 p201 ((12 : Int32)).toNatClampNeg (115 : Int32))) fun M229 => (if gA K202 p201 (13 : Int32) = true then (Option.bind (some (yS M229 p201 ((13 : Int32)).toNatClampNeg (32 : Int32))) fun M231 => (if gA K202 p201 (14 : Int32) = true then (Option.bind (some (yS M231 p201 ((14 : Int32)).toNatClampNeg (32 : Int32))) fun M233 => (if gA K202 p201 (15 : Int32) = true then (Option.bind (some (yS M233 p201 ((15 : Int32)).toNatClampNeg (32 : Int32))) fun M235 => (if gA K202 p201 (16 : Int32) = true then (Option.bind (some (yS M235 p201 ((16 : Int32)).toNatClampNeg (119 : Int32))) fun M237 => (if gA K202 p201 (17 : Int32) = true then (Option.bind (some (yS M237 p201 ((17 : Int32)).toNatClampNeg (111 : Int32))) fun M239 => (if gA K202 p201 (18 : Int32) = true then (Option.bind (some (yS M239 p201 ((18 : Int32)).toNatClampNeg (114 : Int32))) fun M241 => (if gA K202 p201 (19 : Int32) = true then (Option.bind (some (yS M241 p201 ((19 : Int32)).toNatClampNeg (116 : Int32))) fun M243 => (if gA K202 p201 (20 : Int32) = true then (Option.bind (some (yS M243 p201 ((20 : Int32)).toNatClampNeg (104 : Int32))) fun M245 => (if gA K202 p201 (21 : Int32) = true then (Option.bind (some (yS M245 p201 ((21 : Int32)).toNatClampNeg (32 : Int32))) fun M247 => (if gA K202 p201 (22 : Int32) = true then (Option.bind (some (yS M247 p201 ((22 : Int32)).toNatClampNeg (32 : Int32))) fun M249 => (if gA K202 p201 (23 : Int32) = true then (Option.bind (some (yS M249 p201 ((23 : Int32)).toNatClampNeg (32 : Int32))) fun M251 => (if gA K202 p201 (24 : Int32) = true then (Option.bind (some (yS M251 p201 ((24 : Int32)).toNatClampNeg (100 : Int32))) fun M253 => (if gA K202 p201 (25 : Int32) = true then (Option.bind (some (yS M253 p201 ((25 : Int32)).toNatClampNeg (97 : Int32))) fun M255 => (if gA K202 p201 (26 : Int32) = true then (Option.bind (some (yS M255 p201 ((26 : Int32)).toNatClampNeg (121 : Int32))) fun M257 => (if gA K202 p201 (27 : Int32) = true then (Option.bind (some (yS M257 p201 ((27 : Int32)).toNatClampNeg (32 : Int32))) fun M259 => (if gA K202 p201 (28 : Int32) = true then (Option.bind (some (yS M259 p201 ((28 : Int32)).toNatClampNeg (32 : Int32))) fun M261 => (if gA K202 p201 (29 : Int32) = true then (Option.bind (some (yS M261 p201 ((29 : Int32)).toNatClampNeg (32 : Int32))) fun M263 => (if gA K202 p201 (30 : Int32) = true then (Option.bind (some (yS M263 p201 ((30 : Int32)).toNatClampNeg (32 : Int32))) fun M265 => (if gA K202 p201 (31 : Int32) = true then (Option.bind (some (yS M265 p201 ((31 : Int32)).toNatClampNeg (32 : Int32))) fun M267 => (if gA K202 p201 (32 : Int32) = true then (Option.bind (some (yS M267 p201 ((32 : Int32)).toNatClampNeg (109 : Int32))) fun M269 => (if gA K202 p201 (33 : Int32) = true then (Option.bind (some (yS M269 p201 ((33 : Int32)).toNatClampNeg (111 : Int32))) fun M271 => (if gA K202 p201 (34 : Int32) = true then (Option.bind (some (yS M271 p201 ((34 : Int32)).toNatClampNeg (114 : Int32))) fun M273 => (if gA K202 p201 (35 : Int32) = true then (Option.bind (some (yS M273 p201 ((35 : Int32)).toNatClampNeg (101 : Int32))) fun M275 => (if gA K202 p201 (36 : Int32) = true then (Option.bind (some (yS M275 p201 ((36 : Int32)).toNatClampNeg (32 : Int32))) fun M277 => (if gA K202 p201 (37 : Int32) = true then (Option.bind (some (yS M277 p201 ((37 : Int32)).toNatClampNeg (32 : Int32))) fun M279 => (if gA K202 p201 (38 : Int32) = true then (Option.bind (some (yS M279 p201 ((38 : Int32)).toNatClampNeg (32 : Int32))) fun M281 => (if gA K202 p201 (39 : Int32) = true then (Option.bind (some (yS M281 p201 ((39 : Int32)).toNatClampNeg (32 : Int32))) fun M283 => (if gA K202 p201 (40 : Int32) = true then (Option.bind (some (yS M283 p201 ((40 : Int32)).toNatClampNeg (112 : Int32))) fun M285 => (if gA K202 p201 (41 : Int32) = true then (Option.bind (some (yS M285 p201 ((41 : Int32)).toNatClampNeg (97 : Int32))) fun M287 => (if gA K202 p201 (42 : Int32) = true then (Option.bind (some (yS M287 p201 ((42 : Int32)).toNatClampNeg (103 : Int32))) fun M289 => (if gA K202 p201 (43 : Int32) = true then (Option.bind (some (yS M289 p201 ((43 : Int32)).toNatClampNeg (101 : Int32))) fun M291 => (if gA K202 p201 (44 : Int32) = true then (Option.bind (some (yS M291 p201 ((44 : Int32)).toNatClampNeg (115 : Int32))) fun M293 => (if gA K202 p201 (45 : Int32) = true then (Option.bind (some (yS M293 p201 ((45 : Int32)).toNatClampNeg (32 : Int32))) fun M295 => (if gA K202 p201 (46 : Int32) = true then (Option.bind (some (yS M295 p201 ((46 : Int32)).toNatClampNeg (32 : Int32))) fun M297 => (if gA K202 p201 (47 : Int32) = true then (Option.bind (some (yS M297 p201 ((47 : Int32)).toNatClampNeg (32 : Int32))) fun M299 => (if gA K202 p201 (48 : Int32) = true then (Option.bind (some (yS M299 p201 ((48 : Int32)).toNatClampNeg (101 : Int32))) fun M301 => (if gA K202 p201 (49 : Int32) = true then (Option.bind (some (yS M301 p201 ((49 : Int32)).toNatClampNeg (110 : Int32))) fun M303 => (if gA K202 p201 (50 : Int32) = true then (Option.bind (some (yS M303 p201 ((50 : Int32)).toNatClampNeg (116 : Int32))) fun M305 => (if gA K202 p201 (51 : Int32) = true then (Option.bind (some (yS M305 p201 ((51 : Int32)).toNatClampNeg (114 : Int32))) fun M307 => (if gA K202 p201 (52 : Int32) = true then (Option.bind (some (yS M307 p201 ((52 : Int32)).toNatClampNeg (121 : Int32))) fun M309 => (if gA K202 p201 (53 : Int32) = true then (Option.bind (some (yS M309 p201 ((53 : Int32)).toNatClampNeg (32 : Int32))) fun M311 => (if gA K202 p201 (54 : Int32) = true then (Option.bind (some (yS M311 p201 ((54 : Int32)).toNatClampNeg (32 : Int32))) fun M313 => (if gA K202 p201 (55 : Int32) = true then (Option.bind (some (yS M313 p201 ((55 : Int32)).toNatClampNeg (32 : Int32))) fun M315 => (if gA K202 p201 (56 : Int32) = true then (Option.bind (some (yS M315 p201 ((56 : Int32)).toNatClampNeg (119 : Int32))) fun M317 => (if gA K202 p201 (57 : Int32) = true then (Option.bind (some (yS M317 p201 ((57 : Int32)).toNatClampNeg (111 : Int32))) fun M319 => (if gA K202 p201 (58 : Int32) = true then (Option.bind (some (yS M319 p201 ((58 : Int32)).toNatClampNeg (114 : Int32))) fun M321 => (if gA K202 p201 (59 : Int32) = true then (Option.bind (some (yS M321 p201 ((59 : Int32)).toNatClampNeg (100 : Int32))) fun M323 => (if gA K202 p201 (60 : Int32) = true then (Option.bind (some (yS M323 p201 ((60 : Int32)).toNatClampNeg (115 : Int32))) fun M325 => (if gA K202 p201 (61 : Int32) = true then (Option.bind (some (yS M325 p201 ((61 : Int32)).toNatClampNeg (32 : Int32))) fun M327 => (if gA K202 p201 (62 : Int32) = true then (Option.bind (some (yS M327 p201 ((62 : Int32)).toNatClampNeg (32 : Int32))) fun M329 => (if gA K202 p201 (63 : Int32) = true then (Option.bind (some (yS M329 p201 ((63 : Int32)).toNatClampNeg (32 : Int32))) fun M331 => (if gA K202 p201 (64 : Int32) = true then (Option.bind (some (yS M331 p201 ((64 : Int32)).toNatClampNeg (98 : Int32))) fun M333 => (if gA K202 p201 (65 : Int32) = true then (Option.bind (some (yS M333 p201 ((65 : Int32)).toNatClampNeg (101 : Int32))) fun M335 => (if gA K202 p201 (66 : Int32) = true then (Option.bind (some (yS M335 p201 ((66 : Int32)).toNatClampNeg (104 : Int32))) fun M337 => (if gA K202 p201 (67 : Int32) = true then (Option.bind (some (yS M337 p201 ((67 : Int32)).toNatClampNeg (105 : Int32))) fun M339 => (if gA K202 p201 (68 : Int32) = true then (Option.bind (some (yS M339 p201 ((68 : Int32)).toNatClampNeg (110 : Int32))) fun M341 => (if gA K202 p201 (69 : Int32) = true then (Option.bind (some (yS M341 p201 ((69 : Int32)).toNatClampNeg (100 : Int32))) fun M343 => (if gA K202 p201 (70 : Int32) = true then (Option.bind (some (yS M343 p201 ((70 : Int32)).toNatClampNeg (32 : Int32))) fun M345 => (if gA K202 p201 (71 : Int32) = true then (Option.bind (some (yS M345 p201 ((71 : Int32)).toNatClampNeg (32 : Int32))) fun M347 => (if gA K202 p201 (72 : Int32) = true then (Option.bind (some (yS M347 p201 ((72 : Int32)).toNatClampNeg (111 : Int32))) fun M349 => (if gA K202 p201 (73 : Int32) = true then (Option.bind (some (yS M349 p201 ((73 : Int32)).toNatClampNeg (114 : Int32))) fun M351 => (if gA K202 p201 (74 : Int32) = true then (Option.bind (some (yS M351 p201 ((74 : Int32)).toNatClampNeg (32 : Int32))) fun M353 => (if gA K202 p201 (75 : Int32) = true then (Option.bind (some (yS M353 p201 ((75 : Int32)).toNatClampNeg (32 : Int32))) fun M355 => (if gA K202 p201 (76 : Int32) = true then (Option.bind (some (yS M355 p201 ((76 : Int32)).toNatClampNeg (32 : Int32))) fun M357 => (if gA K202 p201 (77 : Int32) = true then (Option.bind (some (yS M357 p201 ((77 : Int32)).toNatClampNeg (32 : Int32))) fun M359 => (if gA K202 p201 (78 : Int32) = true then (Option.bind (some (yS M359 p201 ((78 : Int32)).toNatClampNeg (32 : Int32))) fun M361 => (if gA K202 p201 (79 : Int32) = true then (Option.bind (some (yS M361 p201 ((79 : Int32)).toNatClampNeg (32 : Int32))) fun M363 => (if gA K202 p201 (80 : Int32) = true then (Option.bind (some (yS M363 p201 ((80 : Int32)).toNatClampNeg (97 : Int32))) fun M365 => (if gA K202 p201 (81 : Int32) = true then (Option.bind (some (yS M365 p201 ((81 : Int32)).toNatClampNeg (110 : Int32))) fun M367 => (if gA K202 p201 (82 : Int32) = true then (Option.bind (some (yS M367 p201 ((82 : Int32)).toNatClampNeg (100 : Int32))) fun M369 => (if gA K202 p201 (83 : Int32) = true then (Option.bind (some (yS M369 p201 ((83 : Int32)).toNatClampNeg (32 : Int32))) fun M371 => (if gA K202 p201 (84 : Int32) = true then (Option.bind (some (yS M371 p201 ((84 : Int32)).toNatClampNeg (32 : Int32))) fun M373 => (if gA K202 p201 (85 : Int32) = true then (Option.bind (some (yS M373 p201 ((85 : Int32)).toNatClampNeg (32 : Int32))) fun M375 => (if gA K202 p201 (86 : Int32) = true then (Option.bind (some (yS M375 p201 ((86 : Int32)).toNatClampNeg (32 : Int32))) fun M377 => (if gA K202 p201 (87 : Int32) = true then (Option.bind (some (yS M377 p201 ((87 : Int32)).toNatClampNeg (32 : Int32))) fun M379 => (if gA K202 p201 (88 : Int32) = true then (Option.bind (some (yS M379 p201 ((88 : Int32)).toNatClampNeg (110 : Int32))) fun M381 => (if gA K202 p201 (89 : Int32) = true then (Option.bind (some (yS M381 p201 ((89 : Int32)).toNatClampNeg (111 : Int32))) fun M383 => (if gA K202 p201 (90 : Int32) = true then (Option.bind (some (yS M383 p201 ((90 : Int32)).toNatClampNeg (116 : Int32))) fun M385 => (if gA K202 p201 (91 : Int32) = true then (Option.bind (some (yS M385 p201 ((91 : Int32)).toNatClampNeg (32 : Int32))) fun M387 => (if gA K202 p201 (92 : Int32) = true then (Option.bind (some (yS M387 p201 ((92 : Int32)).toNatClampNeg (32 : Int32))) fun M389 => (if gA K202 p201 (93 : Int32) = true then (Option.bind (some (yS M389 p201 ((93 : Int32)).toNatClampNeg (32 : Int32))) fun M391 => (if gA K202 p201 (94 : Int32) = true then (Option.bind (some (yS M391 p201 ((94 : Int32)).toNatClampNeg (32 : Int32))) fun M393 => (if gA K202 p201 (95 : Int32) = true then (Option.bind (some (yS M393 p201 ((95 : Int32)).toNatClampNeg (32 : Int32))) fun M395 => (if gO K202 t 7 = true then (if p201 < K202.1 then (Option.bind (some (yKr K202 t 32 p201)) fun K398 => (if K398.1 < 1000000 then (if t < K398.1 then (Option.bind (some K398.1) fun p401 => (Option.bind (some (yKn K398 (0, 200))) fun K402 => (Option.bind (some (yMn K398 M395)) fun M403 => (if gO K402 t 7 = true then (if p401 < K402.1 then (Option.bind (some (yKr K402 t 33 p401)) fun K406 => (if K406.1 < 1000000 then (if t < K406.1 then (Option.bind (some K406.1) fun p409 => (Option.bind (some (yKn K406 (0, 200))) fun K410 => (Option.bind (some (yMn K406 M403)) fun M411 => (if gO K410 t 7 = true then (if p409 < K410.1 then (Option.bind (some (yKr K410 t 37 p409)) fun K414 => (if K414.1 < 1000000 then (if t < K414.1 then (Option.bind (some K414.1) fun p417 => (Option.bind (some (yKn K414 (0, 6))) fun K418 => (Option.bind (some (yMn K414 M411)) fun M419 => (if gO K418 t 7 = true then (if p417 < K418.1 then (Option.bind (some (yKr K418 t 38 p417)) fun K422 => (if K422.1 < 1000000 then (if t < K422.1 then (Option.bind (some K422.1) fun p425 => (Option.bind (some (yKn K422 (0, 12))) fun K426 => (Option.bind (some (yMn K422 M419)) fun M427 => (if gO K426 t 7 = true then (if p425 < K426.1 then (Option.bind (some (yKr K426 t 40 p425)) fun K430 => (if K430.1 < 1000000 then (if t < K430.1 then (Option.bind (some K430.1) fun p433 => (Option.bind (some (yKn K430 (0, 4))) fun K434 => (Option.bind (some (yMn K430 M427)) fun M435 => (if gO K434 t 7 = true then (if p433 < K434.1 then (Option.bind (some (yKr K434 t 41 p433)) fun K438 => (if gO K438 t 7 = true then (Option.bind (some (yS M435 t 49 (-1 : Int32))) fun M440 => (Option.bind (some (yS M440 t 50 (-1 : Int32))) fun M441 => (Option.bind (b_X8_init_990 K438 t 1000 M441 ((0 : Int32))) fun j442 => (Option.bind (some (yS j442 t 12 (38 : Int32))) fun M443 => (some (K438, M443)))))) else none)) else none) else none)))) else none) else none)) else none) else none)))) else none) else none)) else none) else none)))) else none) else none)) else none) else none)))) else none) else none)) else none) else none)))) else none) else none)) else none) else none)) else none)) else none)) else none)) else none)) else none)) else none)) else none)) else none)) else none)) else none)) else none)) else none)) else none)) else none)) else none)) else none)) else none)) else none)) else none)) else none)) else none)) else none)) else none)) else none)) else none)) else none)) else none)) else none)) else none)) else none)) else none)) else none)) else none)) else none)) else none)) else none)) else none)) else none)) else none)) else none)) else none)) else none)) else none)) else none)) else none)) else none)) else none)) else none)) else none)) else none)) else none)) else none)) else none)) else none)) else none)) else none)) else none)) else none)) else none)) else none)) else none)) else none)) else none)) else none)) else none)) else none)) else none)) else none)) else none)) else none)) else none)) else none)) else none)) else none)) else none)) else none)) else none)) else none)) else none)) else none)) else none)) else none)) else none)) else none)) else none)) else none)) else none)) else none)) else none)) else none)) else none)) else none)) else none)) else none)) else none)) else none)))) else none) else none)) else none) else none)) else none)) else none)) else none)) else none)) else none)) else none)) else none)) else none)) else none)) else none)) else none)) else none)) else none)) else none)) else none)) else none)) else none)) else none)) else none)) else none)) else none)) else none)) else none)) else none)) else none)) else none)) else none)) else none)) else none)) else none)) else none)) else none)) else none)) else none)) else none)) else none)) else none)) else none)))) else none) else none)) else none) else none)))) else none) else none)) else none) else none)))) else none) else none)) else none) else none)) else none)) else none)) else none)) else none)))) else none) else none)) else none) else none)))) else none) else none)) else none) else none)))) else none) else none)) else none) else none)))) else none) else none)) else none) else none)))) else none) else none)) else none) else none)))) else none) else none)) else none) else none)))) else none) else none)) else none)) else none) else none)))) else none) else none)) else none) else none)))) else none) else none)) else none) else none)))) else none) else none)) else none) else none)))) else none) else none)
def b_X8_init (K : yK) (M : yM) (t : Nat) : Option (yK × yM) := Option.bind (b_X8_init0 K M t) fun r => (Option.bind (b_X8_text r.1 r.2 t) fun r444 => (some (r.1, r444.2)))
set_option maxHeartbeats 4000000 in
set_option maxRecDepth 100000 in
theorem m_X8_init (K : yK) (M : yM) (t : Nat) : yMet yX8_init cX8_init 2 none rm_X8_init K M [.ref t] (b_X8_init K M t) yHv := by
  refine yM_intro (by decide) (Nat.le_of_ble_eq_true rfl) (fun X r h C E => ?_)
  replace C : yCx X cX8_init RX8 "<init>" rm_X8_init 2 := C
  show Y X K M 0 0 0 [(0, .ref t)] []
  unfold b_X8_init at h
  obtain ⟨r0, h, h9⟩ := ob h
  unfold b_X8_init0 at h
  refine y_aload_n C dX8_init_0 rfl ?_
  refine y_objInit C ⟨wd_821, wd_24, wd_25⟩ ⟨by decide, Nat.le_of_ble_eq_true rfl⟩ dX8_init_1 ?_
  refine y_aload_n C dX8_init_4 rfl ?_
  refine y_bipush C dX8_init_5 kb_12 ?_
  obtain ⟨g1, h⟩ := gp h
  obtain ⟨g2, h⟩ := gp h
  obtain ⟨p3, ep3, h⟩ := ob h
  have ep3 := Option.some.inj ep3
  obtain ⟨K4, eK4, h⟩ := ob h
  have eK4 := Option.some.inj eK4
  obtain ⟨M5, eM5, h⟩ := ob h
  have eM5 := Option.some.inj eM5
  refine y_newI C wd_46 (by decide) (N' := 12) (by decide) (by decide) g1 ⟨Nat.le_of_ble_eq_true rfl, Nat.le_of_ble_eq_true rfl⟩ (by simp [yCl, Nat.ne_of_lt g2]) dX8_init_7 ?_
  rw [eK4, eM5, ep3]
  obtain ⟨g6, h⟩ := gd h
  obtain ⟨g7, h⟩ := gp h
  obtain ⟨K8, eK8, h⟩ := ob h
  have eK8 := Option.some.inj eK8
  refine y_putFr C fl_X8_7 rfl rfl g6 g7 rfl rfl dX8_init_9 ?_
  rw [eK8]
  refine y_aload_n C dX8_init_12 rfl ?_
  refine y_bipush C dX8_init_13 kb_12 ?_
  obtain ⟨g9, h⟩ := gp h
  obtain ⟨g10, h⟩ := gp h
  obtain ⟨p11, ep11, h⟩ := ob h
  have ep11 := Option.some.inj ep11
  obtain ⟨K12, eK12, h⟩ := ob h
  have eK12 := Option.some.inj eK12
  obtain ⟨M13, eM13, h⟩ := ob h
  have eM13 := Option.some.inj eM13
  refine y_newI C wd_46 (by decide) (N' := 12) (by decide) (by decide) g9 ⟨Nat.le_of_ble_eq_true rfl, Nat.le_of_ble_eq_true rfl⟩ (by simp [yCl, Nat.ne_of_lt g10]) dX8_init_15 ?_
  rw [eK12, eM13, ep11]
  obtain ⟨g14, h⟩ := gd h
  obtain ⟨g15, h⟩ := gp h
  obtain ⟨K16, eK16, h⟩ := ob h
  have eK16 := Option.some.inj eK16
  refine y_putFr C fl_X8_13 rfl rfl g14 g15 rfl rfl dX8_init_17 ?_
  rw [eK16]
  refine y_aload_n C dX8_init_20 rfl ?_
  refine y_bipush C dX8_init_21 kb_36 ?_
  obtain ⟨g17, h⟩ := gp h
  obtain ⟨g18, h⟩ := gp h
  obtain ⟨p19, ep19, h⟩ := ob h
  have ep19 := Option.some.inj ep19
  obtain ⟨K20, eK20, h⟩ := ob h
  have eK20 := Option.some.inj eK20
  obtain ⟨M21, eM21, h⟩ := ob h
  have eM21 := Option.some.inj eM21
  refine y_newI C wd_46 (by decide) (N' := 36) (by decide) (by decide) g17 ⟨Nat.le_of_ble_eq_true rfl, Nat.le_of_ble_eq_true rfl⟩ (by simp [yCl, Nat.ne_of_lt g18]) dX8_init_23 ?_
  rw [eK20, eM21, ep19]
  obtain ⟨g22, h⟩ := gd h
  obtain ⟨g23, h⟩ := gp h
  obtain ⟨K24, eK24, h⟩ := ob h
  have eK24 := Option.some.inj eK24
  refine y_putFr C fl_X8_16 rfl rfl g22 g23 rfl rfl dX8_init_25 ?_
  rw [eK24]
  refine y_aload_n C dX8_init_28 rfl ?_
  refine y_bipush C dX8_init_29 kb_6 ?_
  obtain ⟨g25, h⟩ := gp h
  obtain ⟨g26, h⟩ := gp h
  obtain ⟨p27, ep27, h⟩ := ob h
  have ep27 := Option.some.inj ep27
  obtain ⟨K28, eK28, h⟩ := ob h
  have eK28 := Option.some.inj eK28
  obtain ⟨M29, eM29, h⟩ := ob h
  have eM29 := Option.some.inj eM29
  refine y_newI C wd_46 (by decide) (N' := 6) (by decide) (by decide) g25 ⟨Nat.le_of_ble_eq_true rfl, Nat.le_of_ble_eq_true rfl⟩ (by simp [yCl, Nat.ne_of_lt g26]) dX8_init_31 ?_
  rw [eK28, eM29, ep27]
  obtain ⟨g30, h⟩ := gd h
  obtain ⟨g31, h⟩ := gp h
  obtain ⟨K32, eK32, h⟩ := ob h
  have eK32 := Option.some.inj eK32
  refine y_putFr C fl_X8_19 rfl rfl g30 g31 rfl rfl dX8_init_33 ?_
  rw [eK32]
  refine y_aload_n C dX8_init_36 rfl ?_
  refine y_iconst C dX8_init_37 kc_m1 ?_
  obtain ⟨g33, h⟩ := gd h
  obtain ⟨M34, eM34, h⟩ := ob h
  have eM34 := Option.some.inj eM34
  refine y_puti C fl_X8_22 rfl g33 rfl rfl dX8_init_38 eM34 ?_
  refine y_aload_n C dX8_init_41 rfl ?_
  refine y_sipush C dX8_init_42 ks_160 ?_
  obtain ⟨g35, h⟩ := gp h
  obtain ⟨g36, h⟩ := gp h
  obtain ⟨p37, ep37, h⟩ := ob h
  have ep37 := Option.some.inj ep37
  obtain ⟨K38, eK38, h⟩ := ob h
  have eK38 := Option.some.inj eK38
  obtain ⟨M39, eM39, h⟩ := ob h
  have eM39 := Option.some.inj eM39
  refine y_newI C wd_46 (by decide) (N' := 160) (by decide) (by decide) g35 ⟨Nat.le_of_ble_eq_true rfl, Nat.le_of_ble_eq_true rfl⟩ (by simp [yCl, Nat.ne_of_lt g36]) dX8_init_45 ?_
  rw [eK38, eM39, ep37]
  obtain ⟨g40, h⟩ := gd h
  obtain ⟨g41, h⟩ := gp h
  obtain ⟨K42, eK42, h⟩ := ob h
  have eK42 := Option.some.inj eK42
  refine y_putFr C fl_X8_26 rfl rfl g40 g41 rfl rfl dX8_init_47 ?_
  rw [eK42]
  refine y_aload_n C dX8_init_50 rfl ?_
  refine y_sipush C dX8_init_51 ks_1200 ?_
  obtain ⟨g43, h⟩ := gp h
  obtain ⟨g44, h⟩ := gp h
  obtain ⟨p45, ep45, h⟩ := ob h
  have ep45 := Option.some.inj ep45
  obtain ⟨K46, eK46, h⟩ := ob h
  have eK46 := Option.some.inj eK46
  obtain ⟨M47, eM47, h⟩ := ob h
  have eM47 := Option.some.inj eM47
  refine y_newI C wd_46 (by decide) (N' := 1200) (by decide) (by decide) g43 ⟨Nat.le_of_ble_eq_true rfl, Nat.le_of_ble_eq_true rfl⟩ (by simp [yCl, Nat.ne_of_lt g44]) dX8_init_54 ?_
  rw [eK46, eM47, ep45]
  obtain ⟨g48, h⟩ := gd h
  obtain ⟨g49, h⟩ := gp h
  obtain ⟨K50, eK50, h⟩ := ob h
  have eK50 := Option.some.inj eK50
  refine y_putFr C fl_X8_29 rfl rfl g48 g49 rfl rfl dX8_init_56 ?_
  rw [eK50]
  refine y_aload_n C dX8_init_59 rfl ?_
  refine y_bipush C dX8_init_60 kb_24 ?_
  obtain ⟨g51, h⟩ := gp h
  obtain ⟨g52, h⟩ := gp h
  obtain ⟨p53, ep53, h⟩ := ob h
  have ep53 := Option.some.inj ep53
  obtain ⟨K54, eK54, h⟩ := ob h
  have eK54 := Option.some.inj eK54
  obtain ⟨M55, eM55, h⟩ := ob h
  have eM55 := Option.some.inj eM55
  refine y_newI C wd_46 (by decide) (N' := 24) (by decide) (by decide) g51 ⟨Nat.le_of_ble_eq_true rfl, Nat.le_of_ble_eq_true rfl⟩ (by simp [yCl, Nat.ne_of_lt g52]) dX8_init_62 ?_
  rw [eK54, eM55, ep53]
  obtain ⟨g56, h⟩ := gd h
  obtain ⟨g57, h⟩ := gp h
  obtain ⟨K58, eK58, h⟩ := ob h
  have eK58 := Option.some.inj eK58
  refine y_putFr C fl_X8_32 rfl rfl g56 g57 rfl rfl dX8_init_64 ?_
  rw [eK58]
  refine y_aload_n C dX8_init_67 rfl ?_
  refine y_bipush C dX8_init_68 kb_36 ?_
  obtain ⟨g59, h⟩ := gp h
  obtain ⟨g60, h⟩ := gp h
  obtain ⟨p61, ep61, h⟩ := ob h
  have ep61 := Option.some.inj ep61
  obtain ⟨K62, eK62, h⟩ := ob h
  have eK62 := Option.some.inj eK62
  obtain ⟨M63, eM63, h⟩ := ob h
  have eM63 := Option.some.inj eM63
  refine y_newI C wd_46 (by decide) (N' := 36) (by decide) (by decide) g59 ⟨Nat.le_of_ble_eq_true rfl, Nat.le_of_ble_eq_true rfl⟩ (by simp [yCl, Nat.ne_of_lt g60]) dX8_init_70 ?_
  rw [eK62, eM63, ep61]
  obtain ⟨g64, h⟩ := gd h
  obtain ⟨g65, h⟩ := gp h
  obtain ⟨K66, eK66, h⟩ := ob h
  have eK66 := Option.some.inj eK66
  refine y_putFr C fl_X8_35 rfl rfl g64 g65 rfl rfl dX8_init_72 ?_
  rw [eK66]
  refine y_aload_n C dX8_init_75 rfl ?_
  refine y_bipush C dX8_init_76 kb_6 ?_
  obtain ⟨g67, h⟩ := gp h
  obtain ⟨g68, h⟩ := gp h
  obtain ⟨p69, ep69, h⟩ := ob h
  have ep69 := Option.some.inj ep69
  obtain ⟨K70, eK70, h⟩ := ob h
  have eK70 := Option.some.inj eK70
  obtain ⟨M71, eM71, h⟩ := ob h
  have eM71 := Option.some.inj eM71
  refine y_newI C wd_46 (by decide) (N' := 6) (by decide) (by decide) g67 ⟨Nat.le_of_ble_eq_true rfl, Nat.le_of_ble_eq_true rfl⟩ (by simp [yCl, Nat.ne_of_lt g68]) dX8_init_78 ?_
  rw [eK70, eM71, ep69]
  obtain ⟨g72, h⟩ := gd h
  obtain ⟨g73, h⟩ := gp h
  obtain ⟨K74, eK74, h⟩ := ob h
  have eK74 := Option.some.inj eK74
  refine y_putFr C fl_X8_38 rfl rfl g72 g73 rfl rfl dX8_init_80 ?_
  rw [eK74]
  refine y_aload_n C dX8_init_83 rfl ?_
  refine y_iconst C dX8_init_84 kc_5 ?_
  obtain ⟨g75, h⟩ := gp h
  obtain ⟨g76, h⟩ := gp h
  obtain ⟨p77, ep77, h⟩ := ob h
  have ep77 := Option.some.inj ep77
  obtain ⟨K78, eK78, h⟩ := ob h
  have eK78 := Option.some.inj eK78
  obtain ⟨M79, eM79, h⟩ := ob h
  have eM79 := Option.some.inj eM79
  refine y_newI C wd_46 (by decide) (N' := 5) (by decide) (by decide) g75 ⟨Nat.le_of_ble_eq_true rfl, Nat.le_of_ble_eq_true rfl⟩ (by simp [yCl, Nat.ne_of_lt g76]) dX8_init_85 ?_
  rw [eK78, eM79, ep77]
  obtain ⟨g80, h⟩ := gd h
  obtain ⟨g81, h⟩ := gp h
  obtain ⟨K82, eK82, h⟩ := ob h
  have eK82 := Option.some.inj eK82
  refine y_putFr C fl_X8_41 rfl rfl g80 g81 rfl rfl dX8_init_87 ?_
  rw [eK82]
  refine y_aload_n C dX8_init_90 rfl ?_
  refine y_iconst C dX8_init_91 kc_4 ?_
  obtain ⟨g83, h⟩ := gp h
  obtain ⟨g84, h⟩ := gp h
  obtain ⟨p85, ep85, h⟩ := ob h
  have ep85 := Option.some.inj ep85
  obtain ⟨K86, eK86, h⟩ := ob h
  have eK86 := Option.some.inj eK86
  obtain ⟨M87, eM87, h⟩ := ob h
  have eM87 := Option.some.inj eM87
  refine y_newI C wd_46 (by decide) (N' := 4) (by decide) (by decide) g83 ⟨Nat.le_of_ble_eq_true rfl, Nat.le_of_ble_eq_true rfl⟩ (by simp [yCl, Nat.ne_of_lt g84]) dX8_init_92 ?_
  rw [eK86, eM87, ep85]
  refine y_dup C dX8_init_94 rfl ?_
  refine y_iconst C dX8_init_95 kc_0 ?_
  refine y_iconst C dX8_init_96 kc_m1 ?_
  obtain ⟨g88, h⟩ := gd h
  obtain ⟨M89, eM89, h⟩ := ob h
  have eM89 := Option.some.inj eM89
  refine y_iast C g88 dX8_init_97 eM89 ?_
  refine y_dup C dX8_init_98 rfl ?_
  refine y_iconst C dX8_init_99 kc_1 ?_
  refine y_iconst C dX8_init_100 kc_m1 ?_
  obtain ⟨g90, h⟩ := gd h
  obtain ⟨M91, eM91, h⟩ := ob h
  have eM91 := Option.some.inj eM91
  refine y_iast C g90 dX8_init_101 eM91 ?_
  refine y_dup C dX8_init_102 rfl ?_
  refine y_iconst C dX8_init_103 kc_2 ?_
  refine y_iconst C dX8_init_104 kc_m1 ?_
  obtain ⟨g92, h⟩ := gd h
  obtain ⟨M93, eM93, h⟩ := ob h
  have eM93 := Option.some.inj eM93
  refine y_iast C g92 dX8_init_105 eM93 ?_
  refine y_dup C dX8_init_106 rfl ?_
  refine y_iconst C dX8_init_107 kc_3 ?_
  refine y_iconst C dX8_init_108 kc_m1 ?_
  obtain ⟨g94, h⟩ := gd h
  obtain ⟨M95, eM95, h⟩ := ob h
  have eM95 := Option.some.inj eM95
  refine y_iast C g94 dX8_init_109 eM95 ?_
  obtain ⟨g96, h⟩ := gd h
  obtain ⟨g97, h⟩ := gp h
  obtain ⟨K98, eK98, h⟩ := ob h
  have eK98 := Option.some.inj eK98
  refine y_putFr C fl_X8_44 rfl rfl g96 g97 rfl rfl dX8_init_110 ?_
  rw [eK98]
  refine y_aload_n C dX8_init_113 rfl ?_
  refine y_iconst C dX8_init_114 kc_4 ?_
  obtain ⟨g99, h⟩ := gp h
  obtain ⟨g100, h⟩ := gp h
  obtain ⟨p101, ep101, h⟩ := ob h
  have ep101 := Option.some.inj ep101
  obtain ⟨K102, eK102, h⟩ := ob h
  have eK102 := Option.some.inj eK102
  obtain ⟨M103, eM103, h⟩ := ob h
  have eM103 := Option.some.inj eM103
  refine y_newI C wd_46 (by decide) (N' := 4) (by decide) (by decide) g99 ⟨Nat.le_of_ble_eq_true rfl, Nat.le_of_ble_eq_true rfl⟩ (by simp [yCl, Nat.ne_of_lt g100]) dX8_init_115 ?_
  rw [eK102, eM103, ep101]
  obtain ⟨g104, h⟩ := gd h
  obtain ⟨g105, h⟩ := gp h
  obtain ⟨K106, eK106, h⟩ := ob h
  have eK106 := Option.some.inj eK106
  refine y_putFr C fl_X8_47 rfl rfl g104 g105 rfl rfl dX8_init_117 ?_
  rw [eK106]
  refine y_aload_n C dX8_init_120 rfl ?_
  refine y_sipush C dX8_init_121 ks_160 ?_
  obtain ⟨g107, h⟩ := gp h
  obtain ⟨g108, h⟩ := gp h
  obtain ⟨p109, ep109, h⟩ := ob h
  have ep109 := Option.some.inj ep109
  obtain ⟨K110, eK110, h⟩ := ob h
  have eK110 := Option.some.inj eK110
  obtain ⟨M111, eM111, h⟩ := ob h
  have eM111 := Option.some.inj eM111
  refine y_newI C wd_46 (by decide) (N' := 160) (by decide) (by decide) g107 ⟨Nat.le_of_ble_eq_true rfl, Nat.le_of_ble_eq_true rfl⟩ (by simp [yCl, Nat.ne_of_lt g108]) dX8_init_124 ?_
  rw [eK110, eM111, ep109]
  obtain ⟨g112, h⟩ := gd h
  obtain ⟨g113, h⟩ := gp h
  obtain ⟨K114, eK114, h⟩ := ob h
  have eK114 := Option.some.inj eK114
  refine y_putFr C fl_X8_50 rfl rfl g112 g113 rfl rfl dX8_init_126 ?_
  rw [eK114]
  refine y_aload_n C dX8_init_129 rfl ?_
  refine y_bipush C dX8_init_130 kb_38 ?_
  obtain ⟨g115, h⟩ := gp h
  obtain ⟨g116, h⟩ := gp h
  obtain ⟨p117, ep117, h⟩ := ob h
  have ep117 := Option.some.inj ep117
  obtain ⟨K118, eK118, h⟩ := ob h
  have eK118 := Option.some.inj eK118
  obtain ⟨M119, eM119, h⟩ := ob h
  have eM119 := Option.some.inj eM119
  refine y_newI C wd_46 (by decide) (N' := 38) (by decide) (by decide) g115 ⟨Nat.le_of_ble_eq_true rfl, Nat.le_of_ble_eq_true rfl⟩ (by simp [yCl, Nat.ne_of_lt g116]) dX8_init_132 ?_
  rw [eK118, eM119, ep117]
  refine y_dup C dX8_init_134 rfl ?_
  refine y_iconst C dX8_init_135 kc_0 ?_
  refine y_bipush C dX8_init_136 kb_114 ?_
  obtain ⟨g120, h⟩ := gd h
  obtain ⟨M121, eM121, h⟩ := ob h
  have eM121 := Option.some.inj eM121
  refine y_iast C g120 dX8_init_138 eM121 ?_
  refine y_dup C dX8_init_139 rfl ?_
  refine y_iconst C dX8_init_140 kc_1 ?_
  refine y_bipush C dX8_init_141 kb_101 ?_
  obtain ⟨g122, h⟩ := gd h
  obtain ⟨M123, eM123, h⟩ := ob h
  have eM123 := Option.some.inj eM123
  refine y_iast C g122 dX8_init_143 eM123 ?_
  refine y_dup C dX8_init_144 rfl ?_
  refine y_iconst C dX8_init_145 kc_2 ?_
  refine y_bipush C dX8_init_146 kb_97 ?_
  obtain ⟨g124, h⟩ := gd h
  obtain ⟨M125, eM125, h⟩ := ob h
  have eM125 := Option.some.inj eM125
  refine y_iast C g124 dX8_init_148 eM125 ?_
  refine y_dup C dX8_init_149 rfl ?_
  refine y_iconst C dX8_init_150 kc_3 ?_
  refine y_bipush C dX8_init_151 kb_100 ?_
  obtain ⟨g126, h⟩ := gd h
  obtain ⟨M127, eM127, h⟩ := ob h
  have eM127 := Option.some.inj eM127
  refine y_iast C g126 dX8_init_153 eM127 ?_
  refine y_dup C dX8_init_154 rfl ?_
  refine y_iconst C dX8_init_155 kc_4 ?_
  refine y_bipush C dX8_init_156 kb_115 ?_
  obtain ⟨g128, h⟩ := gd h
  obtain ⟨M129, eM129, h⟩ := ob h
  have eM129 := Option.some.inj eM129
  refine y_iast C g128 dX8_init_158 eM129 ?_
  refine y_dup C dX8_init_159 rfl ?_
  refine y_iconst C dX8_init_160 kc_5 ?_
  refine y_bipush C dX8_init_161 kb_32 ?_
  obtain ⟨g130, h⟩ := gd h
  obtain ⟨M131, eM131, h⟩ := ob h
  have eM131 := Option.some.inj eM131
  refine y_iast C g130 dX8_init_163 eM131 ?_
  refine y_dup C dX8_init_164 rfl ?_
  refine y_bipush C dX8_init_165 kb_6 ?_
  refine y_bipush C dX8_init_167 kb_49 ?_
  obtain ⟨g132, h⟩ := gd h
  obtain ⟨M133, eM133, h⟩ := ob h
  have eM133 := Option.some.inj eM133
  refine y_iast C g132 dX8_init_169 eM133 ?_
  refine y_dup C dX8_init_170 rfl ?_
  refine y_bipush C dX8_init_171 kb_7 ?_
  refine y_bipush C dX8_init_173 kb_48 ?_
  obtain ⟨g134, h⟩ := gd h
  obtain ⟨M135, eM135, h⟩ := ob h
  have eM135 := Option.some.inj eM135
  refine y_iast C g134 dX8_init_175 eM135 ?_
  refine y_dup C dX8_init_176 rfl ?_
  refine y_bipush C dX8_init_177 kb_8 ?_
  refine y_bipush C dX8_init_179 kb_32 ?_
  obtain ⟨g136, h⟩ := gd h
  obtain ⟨M137, eM137, h⟩ := ob h
  have eM137 := Option.some.inj eM137
  refine y_iast C g136 dX8_init_181 eM137 ?_
  refine y_dup C dX8_init_182 rfl ?_
  refine y_bipush C dX8_init_183 kb_9 ?_
  refine y_bipush C dX8_init_185 kb_59 ?_
  obtain ⟨g138, h⟩ := gd h
  obtain ⟨M139, eM139, h⟩ := ob h
  have eM139 := Option.some.inj eM139
  refine y_iast C g138 dX8_init_187 eM139 ?_
  refine y_dup C dX8_init_188 rfl ?_
  refine y_bipush C dX8_init_189 kb_10 ?_
  refine y_bipush C dX8_init_191 kb_32 ?_
  obtain ⟨g140, h⟩ := gd h
  obtain ⟨M141, eM141, h⟩ := ob h
  have eM141 := Option.some.inj eM141
  refine y_iast C g140 dX8_init_193 eM141 ?_
  refine y_dup C dX8_init_194 rfl ?_
  refine y_bipush C dX8_init_195 kb_11 ?_
  refine y_bipush C dX8_init_197 kb_104 ?_
  obtain ⟨g142, h⟩ := gd h
  obtain ⟨M143, eM143, h⟩ := ob h
  have eM143 := Option.some.inj eM143
  refine y_iast C g142 dX8_init_199 eM143 ?_
  refine y_dup C dX8_init_200 rfl ?_
  refine y_bipush C dX8_init_201 kb_12 ?_
  refine y_bipush C dX8_init_203 kb_111 ?_
  obtain ⟨g144, h⟩ := gd h
  obtain ⟨M145, eM145, h⟩ := ob h
  have eM145 := Option.some.inj eM145
  refine y_iast C g144 dX8_init_205 eM145 ?_
  refine y_dup C dX8_init_206 rfl ?_
  refine y_bipush C dX8_init_207 kb_13 ?_
  refine y_bipush C dX8_init_209 kb_108 ?_
  obtain ⟨g146, h⟩ := gd h
  obtain ⟨M147, eM147, h⟩ := ob h
  have eM147 := Option.some.inj eM147
  refine y_iast C g146 dX8_init_211 eM147 ?_
  refine y_dup C dX8_init_212 rfl ?_
  refine y_bipush C dX8_init_213 kb_14 ?_
  refine y_bipush C dX8_init_215 kb_100 ?_
  obtain ⟨g148, h⟩ := gd h
  obtain ⟨M149, eM149, h⟩ := ob h
  have eM149 := Option.some.inj eM149
  refine y_iast C g148 dX8_init_217 eM149 ?_
  refine y_dup C dX8_init_218 rfl ?_
  refine y_bipush C dX8_init_219 kb_15 ?_
  refine y_bipush C dX8_init_221 kb_115 ?_
  obtain ⟨g150, h⟩ := gd h
  obtain ⟨M151, eM151, h⟩ := ob h
  have eM151 := Option.some.inj eM151
  refine y_iast C g150 dX8_init_223 eM151 ?_
  refine y_dup C dX8_init_224 rfl ?_
  refine y_bipush C dX8_init_225 kb_16 ?_
  refine y_bipush C dX8_init_227 kb_32 ?_
  obtain ⟨g152, h⟩ := gd h
  obtain ⟨M153, eM153, h⟩ := ob h
  have eM153 := Option.some.inj eM153
  refine y_iast C g152 dX8_init_229 eM153 ?_
  refine y_dup C dX8_init_230 rfl ?_
  refine y_bipush C dX8_init_231 kb_17 ?_
  refine y_bipush C dX8_init_233 kb_49 ?_
  obtain ⟨g154, h⟩ := gd h
  obtain ⟨M155, eM155, h⟩ := ob h
  have eM155 := Option.some.inj eM155
  refine y_iast C g154 dX8_init_235 eM155 ?_
  refine y_dup C dX8_init_236 rfl ?_
  refine y_bipush C dX8_init_237 kb_18 ?_
  refine y_bipush C dX8_init_239 kb_32 ?_
  obtain ⟨g156, h⟩ := gd h
  obtain ⟨M157, eM157, h⟩ := ob h
  have eM157 := Option.some.inj eM157
  refine y_iast C g156 dX8_init_241 eM157 ?_
  refine y_dup C dX8_init_242 rfl ?_
  refine y_bipush C dX8_init_243 kb_19 ?_
  refine y_bipush C dX8_init_245 kb_59 ?_
  obtain ⟨g158, h⟩ := gd h
  obtain ⟨M159, eM159, h⟩ := ob h
  have eM159 := Option.some.inj eM159
  refine y_iast C g158 dX8_init_247 eM159 ?_
  refine y_dup C dX8_init_248 rfl ?_
  refine y_bipush C dX8_init_249 kb_20 ?_
  refine y_bipush C dX8_init_251 kb_32 ?_
  obtain ⟨g160, h⟩ := gd h
  obtain ⟨M161, eM161, h⟩ := ob h
  have eM161 := Option.some.inj eM161
  refine y_iast C g160 dX8_init_253 eM161 ?_
  refine y_dup C dX8_init_254 rfl ?_
  refine y_bipush C dX8_init_255 kb_21 ?_
  refine y_bipush C dX8_init_257 kb_119 ?_
  obtain ⟨g162, h⟩ := gd h
  obtain ⟨M163, eM163, h⟩ := ob h
  have eM163 := Option.some.inj eM163
  refine y_iast C g162 dX8_init_259 eM163 ?_
  refine y_dup C dX8_init_260 rfl ?_
  refine y_bipush C dX8_init_261 kb_22 ?_
  refine y_bipush C dX8_init_263 kb_111 ?_
  obtain ⟨g164, h⟩ := gd h
  obtain ⟨M165, eM165, h⟩ := ob h
  have eM165 := Option.some.inj eM165
  refine y_iast C g164 dX8_init_265 eM165 ?_
  refine y_dup C dX8_init_266 rfl ?_
  refine y_bipush C dX8_init_267 kb_23 ?_
  refine y_bipush C dX8_init_269 kb_114 ?_
  obtain ⟨g166, h⟩ := gd h
  obtain ⟨M167, eM167, h⟩ := ob h
  have eM167 := Option.some.inj eM167
  refine y_iast C g166 dX8_init_271 eM167 ?_
  refine y_dup C dX8_init_272 rfl ?_
  refine y_bipush C dX8_init_273 kb_24 ?_
  refine y_bipush C dX8_init_275 kb_116 ?_
  obtain ⟨g168, h⟩ := gd h
  obtain ⟨M169, eM169, h⟩ := ob h
  have eM169 := Option.some.inj eM169
  refine y_iast C g168 dX8_init_277 eM169 ?_
  refine y_dup C dX8_init_278 rfl ?_
  refine y_bipush C dX8_init_279 kb_25 ?_
  refine y_bipush C dX8_init_281 kb_104 ?_
  obtain ⟨g170, h⟩ := gd h
  obtain ⟨M171, eM171, h⟩ := ob h
  have eM171 := Option.some.inj eM171
  refine y_iast C g170 dX8_init_283 eM171 ?_
  refine y_dup C dX8_init_284 rfl ?_
  refine y_bipush C dX8_init_285 kb_26 ?_
  refine y_bipush C dX8_init_287 kb_32 ?_
  obtain ⟨g172, h⟩ := gd h
  obtain ⟨M173, eM173, h⟩ := ob h
  have eM173 := Option.some.inj eM173
  refine y_iast C g172 dX8_init_289 eM173 ?_
  refine y_dup C dX8_init_290 rfl ?_
  refine y_bipush C dX8_init_291 kb_27 ?_
  refine y_bipush C dX8_init_293 kb_53 ?_
  obtain ⟨g174, h⟩ := gd h
  obtain ⟨M175, eM175, h⟩ := ob h
  have eM175 := Option.some.inj eM175
  refine y_iast C g174 dX8_init_295 eM175 ?_
  refine y_dup C dX8_init_296 rfl ?_
  refine y_bipush C dX8_init_297 kb_28 ?_
  refine y_bipush C dX8_init_299 kb_32 ?_
  obtain ⟨g176, h⟩ := gd h
  obtain ⟨M177, eM177, h⟩ := ob h
  have eM177 := Option.some.inj eM177
  refine y_iast C g176 dX8_init_301 eM177 ?_
  refine y_dup C dX8_init_302 rfl ?_
  refine y_bipush C dX8_init_303 kb_29 ?_
  refine y_bipush C dX8_init_305 kb_43 ?_
  obtain ⟨g178, h⟩ := gd h
  obtain ⟨M179, eM179, h⟩ := ob h
  have eM179 := Option.some.inj eM179
  refine y_iast C g178 dX8_init_307 eM179 ?_
  refine y_dup C dX8_init_308 rfl ?_
  refine y_bipush C dX8_init_309 kb_30 ?_
  refine y_bipush C dX8_init_311 kb_32 ?_
  obtain ⟨g180, h⟩ := gd h
  obtain ⟨M181, eM181, h⟩ := ob h
  have eM181 := Option.some.inj eM181
  refine y_iast C g180 dX8_init_313 eM181 ?_
  refine y_dup C dX8_init_314 rfl ?_
  refine y_bipush C dX8_init_315 kb_31 ?_
  refine y_bipush C dX8_init_317 kb_119 ?_
  obtain ⟨g182, h⟩ := gd h
  obtain ⟨M183, eM183, h⟩ := ob h
  have eM183 := Option.some.inj eM183
  refine y_iast C g182 dX8_init_319 eM183 ?_
  refine y_dup C dX8_init_320 rfl ?_
  refine y_bipush C dX8_init_321 kb_32 ?_
  refine y_bipush C dX8_init_323 kb_111 ?_
  obtain ⟨g184, h⟩ := gd h
  obtain ⟨M185, eM185, h⟩ := ob h
  have eM185 := Option.some.inj eM185
  refine y_iast C g184 dX8_init_325 eM185 ?_
  refine y_dup C dX8_init_326 rfl ?_
  refine y_bipush C dX8_init_327 kb_33 ?_
  refine y_bipush C dX8_init_329 kb_114 ?_
  obtain ⟨g186, h⟩ := gd h
  obtain ⟨M187, eM187, h⟩ := ob h
  have eM187 := Option.some.inj eM187
  refine y_iast C g186 dX8_init_331 eM187 ?_
  refine y_dup C dX8_init_332 rfl ?_
  refine y_bipush C dX8_init_333 kb_34 ?_
  refine y_bipush C dX8_init_335 kb_100 ?_
  obtain ⟨g188, h⟩ := gd h
  obtain ⟨M189, eM189, h⟩ := ob h
  have eM189 := Option.some.inj eM189
  refine y_iast C g188 dX8_init_337 eM189 ?_
  refine y_dup C dX8_init_338 rfl ?_
  refine y_bipush C dX8_init_339 kb_35 ?_
  refine y_bipush C dX8_init_341 kb_115 ?_
  obtain ⟨g190, h⟩ := gd h
  obtain ⟨M191, eM191, h⟩ := ob h
  have eM191 := Option.some.inj eM191
  refine y_iast C g190 dX8_init_343 eM191 ?_
  refine y_dup C dX8_init_344 rfl ?_
  refine y_bipush C dX8_init_345 kb_36 ?_
  refine y_bipush C dX8_init_347 kb_32 ?_
  obtain ⟨g192, h⟩ := gd h
  obtain ⟨M193, eM193, h⟩ := ob h
  have eM193 := Option.some.inj eM193
  refine y_iast C g192 dX8_init_349 eM193 ?_
  refine y_dup C dX8_init_350 rfl ?_
  refine y_bipush C dX8_init_351 kb_37 ?_
  refine y_bipush C dX8_init_353 kb_59 ?_
  obtain ⟨g194, h⟩ := gd h
  obtain ⟨M195, eM195, h⟩ := ob h
  have eM195 := Option.some.inj eM195
  refine y_iast C g194 dX8_init_355 eM195 ?_
  obtain ⟨g196, h⟩ := gd h
  obtain ⟨g197, h⟩ := gp h
  obtain ⟨K198, eK198, h⟩ := ob h
  have eK198 := Option.some.inj eK198
  refine y_putFr C fl_X8_53 rfl rfl g196 g197 rfl rfl dX8_init_356 ?_
  rw [eK198]
  refine y_aload_n C dX8_init_359 rfl ?_
  refine y_bipush C dX8_init_360 kb_96 ?_
  obtain ⟨g199, h⟩ := gp h
  obtain ⟨g200, h⟩ := gp h
  obtain ⟨p201, ep201, h⟩ := ob h
  have ep201 := Option.some.inj ep201
  obtain ⟨K202, eK202, h⟩ := ob h
  have eK202 := Option.some.inj eK202
  obtain ⟨M203, eM203, h⟩ := ob h
  have eM203 := Option.some.inj eM203
  refine y_newI C wd_46 (by decide) (N' := 96) (by decide) (by decide) g199 ⟨Nat.le_of_ble_eq_true rfl, Nat.le_of_ble_eq_true rfl⟩ (by simp [yCl, Nat.ne_of_lt g200]) dX8_init_362 ?_
  rw [eK202, eM203, ep201]
  refine y_dup C dX8_init_364 rfl ?_
  refine y_iconst C dX8_init_365 kc_0 ?_
  refine y_bipush C dX8_init_366 kb_114 ?_
  obtain ⟨g204, h⟩ := gd h
  obtain ⟨M205, eM205, h⟩ := ob h
  have eM205 := Option.some.inj eM205
  refine y_iast C g204 dX8_init_368 eM205 ?_
  refine y_dup C dX8_init_369 rfl ?_
  refine y_iconst C dX8_init_370 kc_1 ?_
  refine y_bipush C dX8_init_371 kb_101 ?_
  obtain ⟨g206, h⟩ := gd h
  obtain ⟨M207, eM207, h⟩ := ob h
  have eM207 := Option.some.inj eM207
  refine y_iast C g206 dX8_init_373 eM207 ?_
  refine y_dup C dX8_init_374 rfl ?_
  refine y_iconst C dX8_init_375 kc_2 ?_
  refine y_bipush C dX8_init_376 kb_97 ?_
  obtain ⟨g208, h⟩ := gd h
  obtain ⟨M209, eM209, h⟩ := ob h
  have eM209 := Option.some.inj eM209
  refine y_iast C g208 dX8_init_378 eM209 ?_
  refine y_dup C dX8_init_379 rfl ?_
  refine y_iconst C dX8_init_380 kc_3 ?_
  refine y_bipush C dX8_init_381 kb_100 ?_
  obtain ⟨g210, h⟩ := gd h
  obtain ⟨M211, eM211, h⟩ := ob h
  have eM211 := Option.some.inj eM211
  refine y_iast C g210 dX8_init_383 eM211 ?_
  refine y_dup C dX8_init_384 rfl ?_
  refine y_iconst C dX8_init_385 kc_4 ?_
  refine y_bipush C dX8_init_386 kb_115 ?_
  obtain ⟨g212, h⟩ := gd h
  obtain ⟨M213, eM213, h⟩ := ob h
  have eM213 := Option.some.inj eM213
  refine y_iast C g212 dX8_init_388 eM213 ?_
  refine y_dup C dX8_init_389 rfl ?_
  refine y_iconst C dX8_init_390 kc_5 ?_
  refine y_bipush C dX8_init_391 kb_32 ?_
  obtain ⟨g214, h⟩ := gd h
  obtain ⟨M215, eM215, h⟩ := ob h
  have eM215 := Option.some.inj eM215
  refine y_iast C g214 dX8_init_393 eM215 ?_
  refine y_dup C dX8_init_394 rfl ?_
  refine y_bipush C dX8_init_395 kb_6 ?_
  refine y_bipush C dX8_init_397 kb_32 ?_
  obtain ⟨g216, h⟩ := gd h
  obtain ⟨M217, eM217, h⟩ := ob h
  have eM217 := Option.some.inj eM217
  refine y_iast C g216 dX8_init_399 eM217 ?_
  refine y_dup C dX8_init_400 rfl ?_
  refine y_bipush C dX8_init_401 kb_7 ?_
  refine y_bipush C dX8_init_403 kb_32 ?_
  obtain ⟨g218, h⟩ := gd h
  obtain ⟨M219, eM219, h⟩ := ob h
  have eM219 := Option.some.inj eM219
  refine y_iast C g218 dX8_init_405 eM219 ?_
  refine y_dup C dX8_init_406 rfl ?_
  refine y_bipush C dX8_init_407 kb_8 ?_
  refine y_bipush C dX8_init_409 kb_104 ?_
  obtain ⟨g220, h⟩ := gd h
  obtain ⟨M221, eM221, h⟩ := ob h
  have eM221 := Option.some.inj eM221
  refine y_iast C g220 dX8_init_411 eM221 ?_
  refine y_dup C dX8_init_412 rfl ?_
  refine y_bipush C dX8_init_413 kb_9 ?_
  refine y_bipush C dX8_init_415 kb_111 ?_
  obtain ⟨g222, h⟩ := gd h
  obtain ⟨M223, eM223, h⟩ := ob h
  have eM223 := Option.some.inj eM223
  refine y_iast C g222 dX8_init_417 eM223 ?_
  refine y_dup C dX8_init_418 rfl ?_
  refine y_bipush C dX8_init_419 kb_10 ?_
  refine y_bipush C dX8_init_421 kb_108 ?_
  obtain ⟨g224, h⟩ := gd h
  obtain ⟨M225, eM225, h⟩ := ob h
  have eM225 := Option.some.inj eM225
  refine y_iast C g224 dX8_init_423 eM225 ?_
  refine y_dup C dX8_init_424 rfl ?_
  refine y_bipush C dX8_init_425 kb_11 ?_
  refine y_bipush C dX8_init_427 kb_100 ?_
  obtain ⟨g226, h⟩ := gd h
  obtain ⟨M227, eM227, h⟩ := ob h
  have eM227 := Option.some.inj eM227
  refine y_iast C g226 dX8_init_429 eM227 ?_
  refine y_dup C dX8_init_430 rfl ?_
  refine y_bipush C dX8_init_431 kb_12 ?_
  refine y_bipush C dX8_init_433 kb_115 ?_
  obtain ⟨g228, h⟩ := gd h
  obtain ⟨M229, eM229, h⟩ := ob h
  have eM229 := Option.some.inj eM229
  refine y_iast C g228 dX8_init_435 eM229 ?_
  refine y_dup C dX8_init_436 rfl ?_
  refine y_bipush C dX8_init_437 kb_13 ?_
  refine y_bipush C dX8_init_439 kb_32 ?_
  obtain ⟨g230, h⟩ := gd h
  obtain ⟨M231, eM231, h⟩ := ob h
  have eM231 := Option.some.inj eM231
  refine y_iast C g230 dX8_init_441 eM231 ?_
  refine y_dup C dX8_init_442 rfl ?_
  refine y_bipush C dX8_init_443 kb_14 ?_
  refine y_bipush C dX8_init_445 kb_32 ?_
  obtain ⟨g232, h⟩ := gd h
  obtain ⟨M233, eM233, h⟩ := ob h
  have eM233 := Option.some.inj eM233
  refine y_iast C g232 dX8_init_447 eM233 ?_
  refine y_dup C dX8_init_448 rfl ?_
  refine y_bipush C dX8_init_449 kb_15 ?_
  refine y_bipush C dX8_init_451 kb_32 ?_
  obtain ⟨g234, h⟩ := gd h
  obtain ⟨M235, eM235, h⟩ := ob h
  have eM235 := Option.some.inj eM235
  refine y_iast C g234 dX8_init_453 eM235 ?_
  refine y_dup C dX8_init_454 rfl ?_
  refine y_bipush C dX8_init_455 kb_16 ?_
  refine y_bipush C dX8_init_457 kb_119 ?_
  obtain ⟨g236, h⟩ := gd h
  obtain ⟨M237, eM237, h⟩ := ob h
  have eM237 := Option.some.inj eM237
  refine y_iast C g236 dX8_init_459 eM237 ?_
  refine y_dup C dX8_init_460 rfl ?_
  refine y_bipush C dX8_init_461 kb_17 ?_
  refine y_bipush C dX8_init_463 kb_111 ?_
  obtain ⟨g238, h⟩ := gd h
  obtain ⟨M239, eM239, h⟩ := ob h
  have eM239 := Option.some.inj eM239
  refine y_iast C g238 dX8_init_465 eM239 ?_
  refine y_dup C dX8_init_466 rfl ?_
  refine y_bipush C dX8_init_467 kb_18 ?_
  refine y_bipush C dX8_init_469 kb_114 ?_
  obtain ⟨g240, h⟩ := gd h
  obtain ⟨M241, eM241, h⟩ := ob h
  have eM241 := Option.some.inj eM241
  refine y_iast C g240 dX8_init_471 eM241 ?_
  refine y_dup C dX8_init_472 rfl ?_
  refine y_bipush C dX8_init_473 kb_19 ?_
  refine y_bipush C dX8_init_475 kb_116 ?_
  obtain ⟨g242, h⟩ := gd h
  obtain ⟨M243, eM243, h⟩ := ob h
  have eM243 := Option.some.inj eM243
  refine y_iast C g242 dX8_init_477 eM243 ?_
  refine y_dup C dX8_init_478 rfl ?_
  refine y_bipush C dX8_init_479 kb_20 ?_
  refine y_bipush C dX8_init_481 kb_104 ?_
  obtain ⟨g244, h⟩ := gd h
  obtain ⟨M245, eM245, h⟩ := ob h
  have eM245 := Option.some.inj eM245
  refine y_iast C g244 dX8_init_483 eM245 ?_
  refine y_dup C dX8_init_484 rfl ?_
  refine y_bipush C dX8_init_485 kb_21 ?_
  refine y_bipush C dX8_init_487 kb_32 ?_
  obtain ⟨g246, h⟩ := gd h
  obtain ⟨M247, eM247, h⟩ := ob h
  have eM247 := Option.some.inj eM247
  refine y_iast C g246 dX8_init_489 eM247 ?_
  refine y_dup C dX8_init_490 rfl ?_
  refine y_bipush C dX8_init_491 kb_22 ?_
  refine y_bipush C dX8_init_493 kb_32 ?_
  obtain ⟨g248, h⟩ := gd h
  obtain ⟨M249, eM249, h⟩ := ob h
  have eM249 := Option.some.inj eM249
  refine y_iast C g248 dX8_init_495 eM249 ?_
  refine y_dup C dX8_init_496 rfl ?_
  refine y_bipush C dX8_init_497 kb_23 ?_
  refine y_bipush C dX8_init_499 kb_32 ?_
  obtain ⟨g250, h⟩ := gd h
  obtain ⟨M251, eM251, h⟩ := ob h
  have eM251 := Option.some.inj eM251
  refine y_iast C g250 dX8_init_501 eM251 ?_
  refine y_dup C dX8_init_502 rfl ?_
  refine y_bipush C dX8_init_503 kb_24 ?_
  refine y_bipush C dX8_init_505 kb_100 ?_
  obtain ⟨g252, h⟩ := gd h
  obtain ⟨M253, eM253, h⟩ := ob h
  have eM253 := Option.some.inj eM253
  refine y_iast C g252 dX8_init_507 eM253 ?_
  refine y_dup C dX8_init_508 rfl ?_
  refine y_bipush C dX8_init_509 kb_25 ?_
  refine y_bipush C dX8_init_511 kb_97 ?_
  obtain ⟨g254, h⟩ := gd h
  obtain ⟨M255, eM255, h⟩ := ob h
  have eM255 := Option.some.inj eM255
  refine y_iast C g254 dX8_init_513 eM255 ?_
  refine y_dup C dX8_init_514 rfl ?_
  refine y_bipush C dX8_init_515 kb_26 ?_
  refine y_bipush C dX8_init_517 kb_121 ?_
  obtain ⟨g256, h⟩ := gd h
  obtain ⟨M257, eM257, h⟩ := ob h
  have eM257 := Option.some.inj eM257
  refine y_iast C g256 dX8_init_519 eM257 ?_
  refine y_dup C dX8_init_520 rfl ?_
  refine y_bipush C dX8_init_521 kb_27 ?_
  refine y_bipush C dX8_init_523 kb_32 ?_
  obtain ⟨g258, h⟩ := gd h
  obtain ⟨M259, eM259, h⟩ := ob h
  have eM259 := Option.some.inj eM259
  refine y_iast C g258 dX8_init_525 eM259 ?_
  refine y_dup C dX8_init_526 rfl ?_
  refine y_bipush C dX8_init_527 kb_28 ?_
  refine y_bipush C dX8_init_529 kb_32 ?_
  obtain ⟨g260, h⟩ := gd h
  obtain ⟨M261, eM261, h⟩ := ob h
  have eM261 := Option.some.inj eM261
  refine y_iast C g260 dX8_init_531 eM261 ?_
  refine y_dup C dX8_init_532 rfl ?_
  refine y_bipush C dX8_init_533 kb_29 ?_
  refine y_bipush C dX8_init_535 kb_32 ?_
  obtain ⟨g262, h⟩ := gd h
  obtain ⟨M263, eM263, h⟩ := ob h
  have eM263 := Option.some.inj eM263
  refine y_iast C g262 dX8_init_537 eM263 ?_
  refine y_dup C dX8_init_538 rfl ?_
  refine y_bipush C dX8_init_539 kb_30 ?_
  refine y_bipush C dX8_init_541 kb_32 ?_
  obtain ⟨g264, h⟩ := gd h
  obtain ⟨M265, eM265, h⟩ := ob h
  have eM265 := Option.some.inj eM265
  refine y_iast C g264 dX8_init_543 eM265 ?_
  refine y_dup C dX8_init_544 rfl ?_
  refine y_bipush C dX8_init_545 kb_31 ?_
  refine y_bipush C dX8_init_547 kb_32 ?_
  obtain ⟨g266, h⟩ := gd h
  obtain ⟨M267, eM267, h⟩ := ob h
  have eM267 := Option.some.inj eM267
  refine y_iast C g266 dX8_init_549 eM267 ?_
  refine y_dup C dX8_init_550 rfl ?_
  refine y_bipush C dX8_init_551 kb_32 ?_
  refine y_bipush C dX8_init_553 kb_109 ?_
  obtain ⟨g268, h⟩ := gd h
  obtain ⟨M269, eM269, h⟩ := ob h
  have eM269 := Option.some.inj eM269
  refine y_iast C g268 dX8_init_555 eM269 ?_
  refine y_dup C dX8_init_556 rfl ?_
  refine y_bipush C dX8_init_557 kb_33 ?_
  refine y_bipush C dX8_init_559 kb_111 ?_
  obtain ⟨g270, h⟩ := gd h
  obtain ⟨M271, eM271, h⟩ := ob h
  have eM271 := Option.some.inj eM271
  refine y_iast C g270 dX8_init_561 eM271 ?_
  refine y_dup C dX8_init_562 rfl ?_
  refine y_bipush C dX8_init_563 kb_34 ?_
  refine y_bipush C dX8_init_565 kb_114 ?_
  obtain ⟨g272, h⟩ := gd h
  obtain ⟨M273, eM273, h⟩ := ob h
  have eM273 := Option.some.inj eM273
  refine y_iast C g272 dX8_init_567 eM273 ?_
  refine y_dup C dX8_init_568 rfl ?_
  refine y_bipush C dX8_init_569 kb_35 ?_
  refine y_bipush C dX8_init_571 kb_101 ?_
  obtain ⟨g274, h⟩ := gd h
  obtain ⟨M275, eM275, h⟩ := ob h
  have eM275 := Option.some.inj eM275
  refine y_iast C g274 dX8_init_573 eM275 ?_
  refine y_dup C dX8_init_574 rfl ?_
  refine y_bipush C dX8_init_575 kb_36 ?_
  refine y_bipush C dX8_init_577 kb_32 ?_
  obtain ⟨g276, h⟩ := gd h
  obtain ⟨M277, eM277, h⟩ := ob h
  have eM277 := Option.some.inj eM277
  refine y_iast C g276 dX8_init_579 eM277 ?_
  refine y_dup C dX8_init_580 rfl ?_
  refine y_bipush C dX8_init_581 kb_37 ?_
  refine y_bipush C dX8_init_583 kb_32 ?_
  obtain ⟨g278, h⟩ := gd h
  obtain ⟨M279, eM279, h⟩ := ob h
  have eM279 := Option.some.inj eM279
  refine y_iast C g278 dX8_init_585 eM279 ?_
  refine y_dup C dX8_init_586 rfl ?_
  refine y_bipush C dX8_init_587 kb_38 ?_
  refine y_bipush C dX8_init_589 kb_32 ?_
  obtain ⟨g280, h⟩ := gd h
  obtain ⟨M281, eM281, h⟩ := ob h
  have eM281 := Option.some.inj eM281
  refine y_iast C g280 dX8_init_591 eM281 ?_
  refine y_dup C dX8_init_592 rfl ?_
  refine y_bipush C dX8_init_593 kb_39 ?_
  refine y_bipush C dX8_init_595 kb_32 ?_
  obtain ⟨g282, h⟩ := gd h
  obtain ⟨M283, eM283, h⟩ := ob h
  have eM283 := Option.some.inj eM283
  refine y_iast C g282 dX8_init_597 eM283 ?_
  refine y_dup C dX8_init_598 rfl ?_
  refine y_bipush C dX8_init_599 kb_40 ?_
  refine y_bipush C dX8_init_601 kb_112 ?_
  obtain ⟨g284, h⟩ := gd h
  obtain ⟨M285, eM285, h⟩ := ob h
  have eM285 := Option.some.inj eM285
  refine y_iast C g284 dX8_init_603 eM285 ?_
  refine y_dup C dX8_init_604 rfl ?_
  refine y_bipush C dX8_init_605 kb_41 ?_
  refine y_bipush C dX8_init_607 kb_97 ?_
  obtain ⟨g286, h⟩ := gd h
  obtain ⟨M287, eM287, h⟩ := ob h
  have eM287 := Option.some.inj eM287
  refine y_iast C g286 dX8_init_609 eM287 ?_
  refine y_dup C dX8_init_610 rfl ?_
  refine y_bipush C dX8_init_611 kb_42 ?_
  refine y_bipush C dX8_init_613 kb_103 ?_
  obtain ⟨g288, h⟩ := gd h
  obtain ⟨M289, eM289, h⟩ := ob h
  have eM289 := Option.some.inj eM289
  refine y_iast C g288 dX8_init_615 eM289 ?_
  refine y_dup C dX8_init_616 rfl ?_
  refine y_bipush C dX8_init_617 kb_43 ?_
  refine y_bipush C dX8_init_619 kb_101 ?_
  obtain ⟨g290, h⟩ := gd h
  obtain ⟨M291, eM291, h⟩ := ob h
  have eM291 := Option.some.inj eM291
  refine y_iast C g290 dX8_init_621 eM291 ?_
  refine y_dup C dX8_init_622 rfl ?_
  refine y_bipush C dX8_init_623 kb_44 ?_
  refine y_bipush C dX8_init_625 kb_115 ?_
  obtain ⟨g292, h⟩ := gd h
  obtain ⟨M293, eM293, h⟩ := ob h
  have eM293 := Option.some.inj eM293
  refine y_iast C g292 dX8_init_627 eM293 ?_
  refine y_dup C dX8_init_628 rfl ?_
  refine y_bipush C dX8_init_629 kb_45 ?_
  refine y_bipush C dX8_init_631 kb_32 ?_
  obtain ⟨g294, h⟩ := gd h
  obtain ⟨M295, eM295, h⟩ := ob h
  have eM295 := Option.some.inj eM295
  refine y_iast C g294 dX8_init_633 eM295 ?_
  refine y_dup C dX8_init_634 rfl ?_
  refine y_bipush C dX8_init_635 kb_46 ?_
  refine y_bipush C dX8_init_637 kb_32 ?_
  obtain ⟨g296, h⟩ := gd h
  obtain ⟨M297, eM297, h⟩ := ob h
  have eM297 := Option.some.inj eM297
  refine y_iast C g296 dX8_init_639 eM297 ?_
  refine y_dup C dX8_init_640 rfl ?_
  refine y_bipush C dX8_init_641 kb_47 ?_
  refine y_bipush C dX8_init_643 kb_32 ?_
  obtain ⟨g298, h⟩ := gd h
  obtain ⟨M299, eM299, h⟩ := ob h
  have eM299 := Option.some.inj eM299
  refine y_iast C g298 dX8_init_645 eM299 ?_
  refine y_dup C dX8_init_646 rfl ?_
  refine y_bipush C dX8_init_647 kb_48 ?_
  refine y_bipush C dX8_init_649 kb_101 ?_
  obtain ⟨g300, h⟩ := gd h
  obtain ⟨M301, eM301, h⟩ := ob h
  have eM301 := Option.some.inj eM301
  refine y_iast C g300 dX8_init_651 eM301 ?_
  refine y_dup C dX8_init_652 rfl ?_
  refine y_bipush C dX8_init_653 kb_49 ?_
  refine y_bipush C dX8_init_655 kb_110 ?_
  obtain ⟨g302, h⟩ := gd h
  obtain ⟨M303, eM303, h⟩ := ob h
  have eM303 := Option.some.inj eM303
  refine y_iast C g302 dX8_init_657 eM303 ?_
  refine y_dup C dX8_init_658 rfl ?_
  refine y_bipush C dX8_init_659 kb_50 ?_
  refine y_bipush C dX8_init_661 kb_116 ?_
  obtain ⟨g304, h⟩ := gd h
  obtain ⟨M305, eM305, h⟩ := ob h
  have eM305 := Option.some.inj eM305
  refine y_iast C g304 dX8_init_663 eM305 ?_
  refine y_dup C dX8_init_664 rfl ?_
  refine y_bipush C dX8_init_665 kb_51 ?_
  refine y_bipush C dX8_init_667 kb_114 ?_
  obtain ⟨g306, h⟩ := gd h
  obtain ⟨M307, eM307, h⟩ := ob h
  have eM307 := Option.some.inj eM307
  refine y_iast C g306 dX8_init_669 eM307 ?_
  refine y_dup C dX8_init_670 rfl ?_
  refine y_bipush C dX8_init_671 kb_52 ?_
  refine y_bipush C dX8_init_673 kb_121 ?_
  obtain ⟨g308, h⟩ := gd h
  obtain ⟨M309, eM309, h⟩ := ob h
  have eM309 := Option.some.inj eM309
  refine y_iast C g308 dX8_init_675 eM309 ?_
  refine y_dup C dX8_init_676 rfl ?_
  refine y_bipush C dX8_init_677 kb_53 ?_
  refine y_bipush C dX8_init_679 kb_32 ?_
  obtain ⟨g310, h⟩ := gd h
  obtain ⟨M311, eM311, h⟩ := ob h
  have eM311 := Option.some.inj eM311
  refine y_iast C g310 dX8_init_681 eM311 ?_
  refine y_dup C dX8_init_682 rfl ?_
  refine y_bipush C dX8_init_683 kb_54 ?_
  refine y_bipush C dX8_init_685 kb_32 ?_
  obtain ⟨g312, h⟩ := gd h
  obtain ⟨M313, eM313, h⟩ := ob h
  have eM313 := Option.some.inj eM313
  refine y_iast C g312 dX8_init_687 eM313 ?_
  refine y_dup C dX8_init_688 rfl ?_
  refine y_bipush C dX8_init_689 kb_55 ?_
  refine y_bipush C dX8_init_691 kb_32 ?_
  obtain ⟨g314, h⟩ := gd h
  obtain ⟨M315, eM315, h⟩ := ob h
  have eM315 := Option.some.inj eM315
  refine y_iast C g314 dX8_init_693 eM315 ?_
  refine y_dup C dX8_init_694 rfl ?_
  refine y_bipush C dX8_init_695 kb_56 ?_
  refine y_bipush C dX8_init_697 kb_119 ?_
  obtain ⟨g316, h⟩ := gd h
  obtain ⟨M317, eM317, h⟩ := ob h
  have eM317 := Option.some.inj eM317
  refine y_iast C g316 dX8_init_699 eM317 ?_
  refine y_dup C dX8_init_700 rfl ?_
  refine y_bipush C dX8_init_701 kb_57 ?_
  refine y_bipush C dX8_init_703 kb_111 ?_
  obtain ⟨g318, h⟩ := gd h
  obtain ⟨M319, eM319, h⟩ := ob h
  have eM319 := Option.some.inj eM319
  refine y_iast C g318 dX8_init_705 eM319 ?_
  refine y_dup C dX8_init_706 rfl ?_
  refine y_bipush C dX8_init_707 kb_58 ?_
  refine y_bipush C dX8_init_709 kb_114 ?_
  obtain ⟨g320, h⟩ := gd h
  obtain ⟨M321, eM321, h⟩ := ob h
  have eM321 := Option.some.inj eM321
  refine y_iast C g320 dX8_init_711 eM321 ?_
  refine y_dup C dX8_init_712 rfl ?_
  refine y_bipush C dX8_init_713 kb_59 ?_
  refine y_bipush C dX8_init_715 kb_100 ?_
  obtain ⟨g322, h⟩ := gd h
  obtain ⟨M323, eM323, h⟩ := ob h
  have eM323 := Option.some.inj eM323
  refine y_iast C g322 dX8_init_717 eM323 ?_
  refine y_dup C dX8_init_718 rfl ?_
  refine y_bipush C dX8_init_719 kb_60 ?_
  refine y_bipush C dX8_init_721 kb_115 ?_
  obtain ⟨g324, h⟩ := gd h
  obtain ⟨M325, eM325, h⟩ := ob h
  have eM325 := Option.some.inj eM325
  refine y_iast C g324 dX8_init_723 eM325 ?_
  refine y_dup C dX8_init_724 rfl ?_
  refine y_bipush C dX8_init_725 kb_61 ?_
  refine y_bipush C dX8_init_727 kb_32 ?_
  obtain ⟨g326, h⟩ := gd h
  obtain ⟨M327, eM327, h⟩ := ob h
  have eM327 := Option.some.inj eM327
  refine y_iast C g326 dX8_init_729 eM327 ?_
  refine y_dup C dX8_init_730 rfl ?_
  refine y_bipush C dX8_init_731 kb_62 ?_
  refine y_bipush C dX8_init_733 kb_32 ?_
  obtain ⟨g328, h⟩ := gd h
  obtain ⟨M329, eM329, h⟩ := ob h
  have eM329 := Option.some.inj eM329
  refine y_iast C g328 dX8_init_735 eM329 ?_
  refine y_dup C dX8_init_736 rfl ?_
  refine y_bipush C dX8_init_737 kb_63 ?_
  refine y_bipush C dX8_init_739 kb_32 ?_
  obtain ⟨g330, h⟩ := gd h
  obtain ⟨M331, eM331, h⟩ := ob h
  have eM331 := Option.some.inj eM331
  refine y_iast C g330 dX8_init_741 eM331 ?_
  refine y_dup C dX8_init_742 rfl ?_
  refine y_bipush C dX8_init_743 kb_64 ?_
  refine y_bipush C dX8_init_745 kb_98 ?_
  obtain ⟨g332, h⟩ := gd h
  obtain ⟨M333, eM333, h⟩ := ob h
  have eM333 := Option.some.inj eM333
  refine y_iast C g332 dX8_init_747 eM333 ?_
  refine y_dup C dX8_init_748 rfl ?_
  refine y_bipush C dX8_init_749 kb_65 ?_
  refine y_bipush C dX8_init_751 kb_101 ?_
  obtain ⟨g334, h⟩ := gd h
  obtain ⟨M335, eM335, h⟩ := ob h
  have eM335 := Option.some.inj eM335
  refine y_iast C g334 dX8_init_753 eM335 ?_
  refine y_dup C dX8_init_754 rfl ?_
  refine y_bipush C dX8_init_755 kb_66 ?_
  refine y_bipush C dX8_init_757 kb_104 ?_
  obtain ⟨g336, h⟩ := gd h
  obtain ⟨M337, eM337, h⟩ := ob h
  have eM337 := Option.some.inj eM337
  refine y_iast C g336 dX8_init_759 eM337 ?_
  refine y_dup C dX8_init_760 rfl ?_
  refine y_bipush C dX8_init_761 kb_67 ?_
  refine y_bipush C dX8_init_763 kb_105 ?_
  obtain ⟨g338, h⟩ := gd h
  obtain ⟨M339, eM339, h⟩ := ob h
  have eM339 := Option.some.inj eM339
  refine y_iast C g338 dX8_init_765 eM339 ?_
  refine y_dup C dX8_init_766 rfl ?_
  refine y_bipush C dX8_init_767 kb_68 ?_
  refine y_bipush C dX8_init_769 kb_110 ?_
  obtain ⟨g340, h⟩ := gd h
  obtain ⟨M341, eM341, h⟩ := ob h
  have eM341 := Option.some.inj eM341
  refine y_iast C g340 dX8_init_771 eM341 ?_
  refine y_dup C dX8_init_772 rfl ?_
  refine y_bipush C dX8_init_773 kb_69 ?_
  refine y_bipush C dX8_init_775 kb_100 ?_
  obtain ⟨g342, h⟩ := gd h
  obtain ⟨M343, eM343, h⟩ := ob h
  have eM343 := Option.some.inj eM343
  refine y_iast C g342 dX8_init_777 eM343 ?_
  refine y_dup C dX8_init_778 rfl ?_
  refine y_bipush C dX8_init_779 kb_70 ?_
  refine y_bipush C dX8_init_781 kb_32 ?_
  obtain ⟨g344, h⟩ := gd h
  obtain ⟨M345, eM345, h⟩ := ob h
  have eM345 := Option.some.inj eM345
  refine y_iast C g344 dX8_init_783 eM345 ?_
  refine y_dup C dX8_init_784 rfl ?_
  refine y_bipush C dX8_init_785 kb_71 ?_
  refine y_bipush C dX8_init_787 kb_32 ?_
  obtain ⟨g346, h⟩ := gd h
  obtain ⟨M347, eM347, h⟩ := ob h
  have eM347 := Option.some.inj eM347
  refine y_iast C g346 dX8_init_789 eM347 ?_
  refine y_dup C dX8_init_790 rfl ?_
  refine y_bipush C dX8_init_791 kb_72 ?_
  refine y_bipush C dX8_init_793 kb_111 ?_
  obtain ⟨g348, h⟩ := gd h
  obtain ⟨M349, eM349, h⟩ := ob h
  have eM349 := Option.some.inj eM349
  refine y_iast C g348 dX8_init_795 eM349 ?_
  refine y_dup C dX8_init_796 rfl ?_
  refine y_bipush C dX8_init_797 kb_73 ?_
  refine y_bipush C dX8_init_799 kb_114 ?_
  obtain ⟨g350, h⟩ := gd h
  obtain ⟨M351, eM351, h⟩ := ob h
  have eM351 := Option.some.inj eM351
  refine y_iast C g350 dX8_init_801 eM351 ?_
  refine y_dup C dX8_init_802 rfl ?_
  refine y_bipush C dX8_init_803 kb_74 ?_
  refine y_bipush C dX8_init_805 kb_32 ?_
  obtain ⟨g352, h⟩ := gd h
  obtain ⟨M353, eM353, h⟩ := ob h
  have eM353 := Option.some.inj eM353
  refine y_iast C g352 dX8_init_807 eM353 ?_
  refine y_dup C dX8_init_808 rfl ?_
  refine y_bipush C dX8_init_809 kb_75 ?_
  refine y_bipush C dX8_init_811 kb_32 ?_
  obtain ⟨g354, h⟩ := gd h
  obtain ⟨M355, eM355, h⟩ := ob h
  have eM355 := Option.some.inj eM355
  refine y_iast C g354 dX8_init_813 eM355 ?_
  refine y_dup C dX8_init_814 rfl ?_
  refine y_bipush C dX8_init_815 kb_76 ?_
  refine y_bipush C dX8_init_817 kb_32 ?_
  obtain ⟨g356, h⟩ := gd h
  obtain ⟨M357, eM357, h⟩ := ob h
  have eM357 := Option.some.inj eM357
  refine y_iast C g356 dX8_init_819 eM357 ?_
  refine y_dup C dX8_init_820 rfl ?_
  refine y_bipush C dX8_init_821 kb_77 ?_
  refine y_bipush C dX8_init_823 kb_32 ?_
  obtain ⟨g358, h⟩ := gd h
  obtain ⟨M359, eM359, h⟩ := ob h
  have eM359 := Option.some.inj eM359
  refine y_iast C g358 dX8_init_825 eM359 ?_
  refine y_dup C dX8_init_826 rfl ?_
  refine y_bipush C dX8_init_827 kb_78 ?_
  refine y_bipush C dX8_init_829 kb_32 ?_
  obtain ⟨g360, h⟩ := gd h
  obtain ⟨M361, eM361, h⟩ := ob h
  have eM361 := Option.some.inj eM361
  refine y_iast C g360 dX8_init_831 eM361 ?_
  refine y_dup C dX8_init_832 rfl ?_
  refine y_bipush C dX8_init_833 kb_79 ?_
  refine y_bipush C dX8_init_835 kb_32 ?_
  obtain ⟨g362, h⟩ := gd h
  obtain ⟨M363, eM363, h⟩ := ob h
  have eM363 := Option.some.inj eM363
  refine y_iast C g362 dX8_init_837 eM363 ?_
  refine y_dup C dX8_init_838 rfl ?_
  refine y_bipush C dX8_init_839 kb_80 ?_
  refine y_bipush C dX8_init_841 kb_97 ?_
  obtain ⟨g364, h⟩ := gd h
  obtain ⟨M365, eM365, h⟩ := ob h
  have eM365 := Option.some.inj eM365
  refine y_iast C g364 dX8_init_843 eM365 ?_
  refine y_dup C dX8_init_844 rfl ?_
  refine y_bipush C dX8_init_845 kb_81 ?_
  refine y_bipush C dX8_init_847 kb_110 ?_
  obtain ⟨g366, h⟩ := gd h
  obtain ⟨M367, eM367, h⟩ := ob h
  have eM367 := Option.some.inj eM367
  refine y_iast C g366 dX8_init_849 eM367 ?_
  refine y_dup C dX8_init_850 rfl ?_
  refine y_bipush C dX8_init_851 kb_82 ?_
  refine y_bipush C dX8_init_853 kb_100 ?_
  obtain ⟨g368, h⟩ := gd h
  obtain ⟨M369, eM369, h⟩ := ob h
  have eM369 := Option.some.inj eM369
  refine y_iast C g368 dX8_init_855 eM369 ?_
  refine y_dup C dX8_init_856 rfl ?_
  refine y_bipush C dX8_init_857 kb_83 ?_
  refine y_bipush C dX8_init_859 kb_32 ?_
  obtain ⟨g370, h⟩ := gd h
  obtain ⟨M371, eM371, h⟩ := ob h
  have eM371 := Option.some.inj eM371
  refine y_iast C g370 dX8_init_861 eM371 ?_
  refine y_dup C dX8_init_862 rfl ?_
  refine y_bipush C dX8_init_863 kb_84 ?_
  refine y_bipush C dX8_init_865 kb_32 ?_
  obtain ⟨g372, h⟩ := gd h
  obtain ⟨M373, eM373, h⟩ := ob h
  have eM373 := Option.some.inj eM373
  refine y_iast C g372 dX8_init_867 eM373 ?_
  refine y_dup C dX8_init_868 rfl ?_
  refine y_bipush C dX8_init_869 kb_85 ?_
  refine y_bipush C dX8_init_871 kb_32 ?_
  obtain ⟨g374, h⟩ := gd h
  obtain ⟨M375, eM375, h⟩ := ob h
  have eM375 := Option.some.inj eM375
  refine y_iast C g374 dX8_init_873 eM375 ?_
  refine y_dup C dX8_init_874 rfl ?_
  refine y_bipush C dX8_init_875 kb_86 ?_
  refine y_bipush C dX8_init_877 kb_32 ?_
  obtain ⟨g376, h⟩ := gd h
  obtain ⟨M377, eM377, h⟩ := ob h
  have eM377 := Option.some.inj eM377
  refine y_iast C g376 dX8_init_879 eM377 ?_
  refine y_dup C dX8_init_880 rfl ?_
  refine y_bipush C dX8_init_881 kb_87 ?_
  refine y_bipush C dX8_init_883 kb_32 ?_
  obtain ⟨g378, h⟩ := gd h
  obtain ⟨M379, eM379, h⟩ := ob h
  have eM379 := Option.some.inj eM379
  refine y_iast C g378 dX8_init_885 eM379 ?_
  refine y_dup C dX8_init_886 rfl ?_
  refine y_bipush C dX8_init_887 kb_88 ?_
  refine y_bipush C dX8_init_889 kb_110 ?_
  obtain ⟨g380, h⟩ := gd h
  obtain ⟨M381, eM381, h⟩ := ob h
  have eM381 := Option.some.inj eM381
  refine y_iast C g380 dX8_init_891 eM381 ?_
  refine y_dup C dX8_init_892 rfl ?_
  refine y_bipush C dX8_init_893 kb_89 ?_
  refine y_bipush C dX8_init_895 kb_111 ?_
  obtain ⟨g382, h⟩ := gd h
  obtain ⟨M383, eM383, h⟩ := ob h
  have eM383 := Option.some.inj eM383
  refine y_iast C g382 dX8_init_897 eM383 ?_
  refine y_dup C dX8_init_898 rfl ?_
  refine y_bipush C dX8_init_899 kb_90 ?_
  refine y_bipush C dX8_init_901 kb_116 ?_
  obtain ⟨g384, h⟩ := gd h
  obtain ⟨M385, eM385, h⟩ := ob h
  have eM385 := Option.some.inj eM385
  refine y_iast C g384 dX8_init_903 eM385 ?_
  refine y_dup C dX8_init_904 rfl ?_
  refine y_bipush C dX8_init_905 kb_91 ?_
  refine y_bipush C dX8_init_907 kb_32 ?_
  obtain ⟨g386, h⟩ := gd h
  obtain ⟨M387, eM387, h⟩ := ob h
  have eM387 := Option.some.inj eM387
  refine y_iast C g386 dX8_init_909 eM387 ?_
  refine y_dup C dX8_init_910 rfl ?_
  refine y_bipush C dX8_init_911 kb_92 ?_
  refine y_bipush C dX8_init_913 kb_32 ?_
  obtain ⟨g388, h⟩ := gd h
  obtain ⟨M389, eM389, h⟩ := ob h
  have eM389 := Option.some.inj eM389
  refine y_iast C g388 dX8_init_915 eM389 ?_
  refine y_dup C dX8_init_916 rfl ?_
  refine y_bipush C dX8_init_917 kb_93 ?_
  refine y_bipush C dX8_init_919 kb_32 ?_
  obtain ⟨g390, h⟩ := gd h
  obtain ⟨M391, eM391, h⟩ := ob h
  have eM391 := Option.some.inj eM391
  refine y_iast C g390 dX8_init_921 eM391 ?_
  refine y_dup C dX8_init_922 rfl ?_
  refine y_bipush C dX8_init_923 kb_94 ?_
  refine y_bipush C dX8_init_925 kb_32 ?_
  obtain ⟨g392, h⟩ := gd h
  obtain ⟨M393, eM393, h⟩ := ob h
  have eM393 := Option.some.inj eM393
  refine y_iast C g392 dX8_init_927 eM393 ?_
  refine y_dup C dX8_init_928 rfl ?_
  refine y_bipush C dX8_init_929 kb_95 ?_
  refine y_bipush C dX8_init_931 kb_32 ?_
  obtain ⟨g394, h⟩ := gd h
  obtain ⟨M395, eM395, h⟩ := ob h
  have eM395 := Option.some.inj eM395
  refine y_iast C g394 dX8_init_933 eM395 ?_
  obtain ⟨g396, h⟩ := gd h
  obtain ⟨g397, h⟩ := gp h
  obtain ⟨K398, eK398, h⟩ := ob h
  have eK398 := Option.some.inj eK398
  refine y_putFr C fl_X8_56 rfl rfl g396 g397 rfl rfl dX8_init_934 ?_
  rw [eK398]
  refine y_aload_n C dX8_init_937 rfl ?_
  refine y_sipush C dX8_init_938 ks_200 ?_
  obtain ⟨g399, h⟩ := gp h
  obtain ⟨g400, h⟩ := gp h
  obtain ⟨p401, ep401, h⟩ := ob h
  have ep401 := Option.some.inj ep401
  obtain ⟨K402, eK402, h⟩ := ob h
  have eK402 := Option.some.inj eK402
  obtain ⟨M403, eM403, h⟩ := ob h
  have eM403 := Option.some.inj eM403
  refine y_newI C wd_46 (by decide) (N' := 200) (by decide) (by decide) g399 ⟨Nat.le_of_ble_eq_true rfl, Nat.le_of_ble_eq_true rfl⟩ (by simp [yCl, Nat.ne_of_lt g400]) dX8_init_941 ?_
  rw [eK402, eM403, ep401]
  obtain ⟨g404, h⟩ := gd h
  obtain ⟨g405, h⟩ := gp h
  obtain ⟨K406, eK406, h⟩ := ob h
  have eK406 := Option.some.inj eK406
  refine y_putFr C fl_X8_59 rfl rfl g404 g405 rfl rfl dX8_init_943 ?_
  rw [eK406]
  refine y_aload_n C dX8_init_946 rfl ?_
  refine y_sipush C dX8_init_947 ks_200 ?_
  obtain ⟨g407, h⟩ := gp h
  obtain ⟨g408, h⟩ := gp h
  obtain ⟨p409, ep409, h⟩ := ob h
  have ep409 := Option.some.inj ep409
  obtain ⟨K410, eK410, h⟩ := ob h
  have eK410 := Option.some.inj eK410
  obtain ⟨M411, eM411, h⟩ := ob h
  have eM411 := Option.some.inj eM411
  refine y_newI C wd_46 (by decide) (N' := 200) (by decide) (by decide) g407 ⟨Nat.le_of_ble_eq_true rfl, Nat.le_of_ble_eq_true rfl⟩ (by simp [yCl, Nat.ne_of_lt g408]) dX8_init_950 ?_
  rw [eK410, eM411, ep409]
  obtain ⟨g412, h⟩ := gd h
  obtain ⟨g413, h⟩ := gp h
  obtain ⟨K414, eK414, h⟩ := ob h
  have eK414 := Option.some.inj eK414
  refine y_putFr C fl_X8_62 rfl rfl g412 g413 rfl rfl dX8_init_952 ?_
  rw [eK414]
  refine y_aload_n C dX8_init_955 rfl ?_
  refine y_bipush C dX8_init_956 kb_6 ?_
  obtain ⟨g415, h⟩ := gp h
  obtain ⟨g416, h⟩ := gp h
  obtain ⟨p417, ep417, h⟩ := ob h
  have ep417 := Option.some.inj ep417
  obtain ⟨K418, eK418, h⟩ := ob h
  have eK418 := Option.some.inj eK418
  obtain ⟨M419, eM419, h⟩ := ob h
  have eM419 := Option.some.inj eM419
  refine y_newI C wd_46 (by decide) (N' := 6) (by decide) (by decide) g415 ⟨Nat.le_of_ble_eq_true rfl, Nat.le_of_ble_eq_true rfl⟩ (by simp [yCl, Nat.ne_of_lt g416]) dX8_init_958 ?_
  rw [eK418, eM419, ep417]
  obtain ⟨g420, h⟩ := gd h
  obtain ⟨g421, h⟩ := gp h
  obtain ⟨K422, eK422, h⟩ := ob h
  have eK422 := Option.some.inj eK422
  refine y_putFr C fl_X8_65 rfl rfl g420 g421 rfl rfl dX8_init_960 ?_
  rw [eK422]
  refine y_aload_n C dX8_init_963 rfl ?_
  refine y_bipush C dX8_init_964 kb_12 ?_
  obtain ⟨g423, h⟩ := gp h
  obtain ⟨g424, h⟩ := gp h
  obtain ⟨p425, ep425, h⟩ := ob h
  have ep425 := Option.some.inj ep425
  obtain ⟨K426, eK426, h⟩ := ob h
  have eK426 := Option.some.inj eK426
  obtain ⟨M427, eM427, h⟩ := ob h
  have eM427 := Option.some.inj eM427
  refine y_newI C wd_46 (by decide) (N' := 12) (by decide) (by decide) g423 ⟨Nat.le_of_ble_eq_true rfl, Nat.le_of_ble_eq_true rfl⟩ (by simp [yCl, Nat.ne_of_lt g424]) dX8_init_966 ?_
  rw [eK426, eM427, ep425]
  obtain ⟨g428, h⟩ := gd h
  obtain ⟨g429, h⟩ := gp h
  obtain ⟨K430, eK430, h⟩ := ob h
  have eK430 := Option.some.inj eK430
  refine y_putFr C fl_X8_68 rfl rfl g428 g429 rfl rfl dX8_init_968 ?_
  rw [eK430]
  refine y_aload_n C dX8_init_971 rfl ?_
  refine y_iconst C dX8_init_972 kc_4 ?_
  obtain ⟨g431, h⟩ := gp h
  obtain ⟨g432, h⟩ := gp h
  obtain ⟨p433, ep433, h⟩ := ob h
  have ep433 := Option.some.inj ep433
  obtain ⟨K434, eK434, h⟩ := ob h
  have eK434 := Option.some.inj eK434
  obtain ⟨M435, eM435, h⟩ := ob h
  have eM435 := Option.some.inj eM435
  refine y_newI C wd_46 (by decide) (N' := 4) (by decide) (by decide) g431 ⟨Nat.le_of_ble_eq_true rfl, Nat.le_of_ble_eq_true rfl⟩ (by simp [yCl, Nat.ne_of_lt g432]) dX8_init_973 ?_
  rw [eK434, eM435, ep433]
  obtain ⟨g436, h⟩ := gd h
  obtain ⟨g437, h⟩ := gp h
  obtain ⟨K438, eK438, h⟩ := ob h
  have eK438 := Option.some.inj eK438
  refine y_putFr C fl_X8_71 rfl rfl g436 g437 rfl rfl dX8_init_975 ?_
  rw [eK438]
  refine y_aload_n C dX8_init_978 rfl ?_
  refine y_iconst C dX8_init_979 kc_m1 ?_
  obtain ⟨g439, h⟩ := gd h
  obtain ⟨M440, eM440, h⟩ := ob h
  have eM440 := Option.some.inj eM440
  refine y_puti C fl_X8_74 rfl g439 rfl rfl dX8_init_980 eM440 ?_
  refine y_aload_n C dX8_init_983 rfl ?_
  refine y_iconst C dX8_init_984 kc_m1 ?_
  obtain ⟨M441, eM441, h⟩ := ob h
  have eM441 := Option.some.inj eM441
  refine y_puti C fl_X8_77 rfl g439 rfl rfl dX8_init_985 eM441 ?_
  refine y_iconst C dX8_init_988 kc_0 ?_
  refine y_istore_n C dX8_init_989 (by decide) (L' := [(1, .int (0)), (0, .ref t)]) rfl ?_
  obtain ⟨j442, hj442, h⟩ := ob h
  refine y_sel [0, 1] rfl (l_X8_init_990 C 1000 _ _ _ hj442 ?_)
  refine y_aload_n C dX8_init_1014 rfl ?_
  refine y_bipush C dX8_init_1015 kb_38 ?_
  obtain ⟨M443, eM443, h⟩ := ob h
  have eM443 := Option.some.inj eM443
  refine y_puti C fl_X8_80 rfl g439 rfl rfl dX8_init_1017 eM443 ?_
  refine y_aload_n C dX8_init_1020 rfl ?_
  have e9 := Option.some.inj h
  subst e9
  obtain ⟨r444, hr444, h⟩ := ob h9
  refine y_cV C [] (m_X8_text K438 M443 t) hr444 g439 cw_X8_83 rfl (by decide) ⟨rfl, rfl⟩ ⟨Nat.le_of_ble_eq_true rfl, Nat.le_of_ble_eq_true rfl⟩ (Nat.le_of_ble_eq_true rfl) rfl rfl rfl dX8_init_1021 ?_
  refine y_pop C dX8_init_1024 rfl ?_
  have e0 := Option.some.inj h
  subst e0
  exact y_vret C E (Nat.le_of_ble_eq_true rfl) (Nat.le_of_ble_eq_true rfl) dX8_init_1025
