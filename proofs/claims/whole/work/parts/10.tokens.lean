set_option maxRecDepth 100000 in
def b_X6_placeAt (K : yK) (M : yM) (t : Nat) (x1 : Int32) : Option Int32 := (if x1 < 0 then (some (0 : Int32)) else (if gO K t 5 = true then (if (M t 3) ≤ x1 then (some (0 : Int32)) else (Option.bind (K.2.2 t 1) fun q4 => (if gA K q4 x1 = true then (some (M q4 (x1).toNatClampNeg)) else none))) else none))
set_option maxHeartbeats 4000000 in
set_option maxRecDepth 100000 in
theorem m_X6_placeAt (K : yK) (M : yM) (t : Nat) (x1 : Int32) : yMet yX6_placeAt cX6_placeAt 2 (Option.some Jvm.ClassFile.FieldType.int) rm_X6_placeAt K M [.ref t, .int x1] (b_X6_placeAt K M t x1) (yFi K M) := by
  refine yM_intro (by decide) (Nat.le_of_ble_eq_true rfl) (fun X r h C E => ?_)
  replace C : yCx X cX6_placeAt RX6 "placeAt" rm_X6_placeAt 2 := C
  show Y X K M 0 0 0 [(0, .ref t), (1, .int x1)] []
  unfold b_X6_placeAt at h
  refine y_iload_n C dX6_placeAt_0 rfl ?_
  refine y_if_lt C dX6_placeAt_1 (tgt := 21) rfl (fun c1 => ?_) (fun c1 => ?_)
  · have h := itT c1 h
    refine y_iconst C dX6_placeAt_21 kc_0 ?_
    have e0 := Option.some.inj h
    subst e0
    exact y_iret C E (Nat.zero_le _) (Nat.zero_le _) dX6_placeAt_22
  · have h := itF c1 h
    refine y_iload_n C dX6_placeAt_4 rfl ?_
    refine y_aload_n C dX6_placeAt_5 rfl ?_
    obtain ⟨g2, h⟩ := gd h
    refine y_geti C fl_X6_21 g2 dX6_placeAt_6 ?_
    refine y_icmp_ge C dX6_placeAt_9 (tgt := 21) rfl (fun c3 => ?_) (fun c3 => ?_)
    · have h := itT c3 h
      refine y_iconst C dX6_placeAt_21 kc_0 ?_
      have e0 := Option.some.inj h
      subst e0
      exact y_iret C E (Nat.zero_le _) (Nat.zero_le _) dX6_placeAt_22
    · have h := itF c3 h
      refine y_aload_n C dX6_placeAt_12 rfl ?_
      obtain ⟨q4, hq4, h⟩ := ob h
      refine y_getr C fl_X6_15 g2 hq4 dX6_placeAt_13 ?_
      refine y_iload_n C dX6_placeAt_16 rfl ?_
      obtain ⟨g5, h⟩ := gd h
      refine y_iald C g5 dX6_placeAt_17 ?_
      refine y_goto C dX6_placeAt_18 (tgt := 22) rfl ?_
      have e0 := Option.some.inj h
      subst e0
      exact y_iret C E (Nat.zero_le _) (Nat.zero_le _) dX6_placeAt_22
set_option maxRecDepth 100000 in
def b_X6_tokenAt (K : yK) (M : yM) (t : Nat) (x1 : Int32) : Option Int32 := (if x1 < 0 then (some (0 : Int32)) else (if gO K t 5 = true then (if (M t 3) ≤ x1 then (some (0 : Int32)) else (Option.bind (K.2.2 t 0) fun q4 => (if gA K q4 x1 = true then (some (M q4 (x1).toNatClampNeg)) else none))) else none))
set_option maxHeartbeats 4000000 in
set_option maxRecDepth 100000 in
theorem m_X6_tokenAt (K : yK) (M : yM) (t : Nat) (x1 : Int32) : yMet yX6_tokenAt cX6_tokenAt 2 (Option.some Jvm.ClassFile.FieldType.int) rm_X6_tokenAt K M [.ref t, .int x1] (b_X6_tokenAt K M t x1) (yFi K M) := by
  refine yM_intro (by decide) (Nat.le_of_ble_eq_true rfl) (fun X r h C E => ?_)
  replace C : yCx X cX6_tokenAt RX6 "tokenAt" rm_X6_tokenAt 2 := C
  show Y X K M 0 0 0 [(0, .ref t), (1, .int x1)] []
  unfold b_X6_tokenAt at h
  refine y_iload_n C dX6_tokenAt_0 rfl ?_
  refine y_if_lt C dX6_tokenAt_1 (tgt := 21) rfl (fun c1 => ?_) (fun c1 => ?_)
  · have h := itT c1 h
    refine y_iconst C dX6_tokenAt_21 kc_0 ?_
    have e0 := Option.some.inj h
    subst e0
    exact y_iret C E (Nat.zero_le _) (Nat.zero_le _) dX6_tokenAt_22
  · have h := itF c1 h
    refine y_iload_n C dX6_tokenAt_4 rfl ?_
    refine y_aload_n C dX6_tokenAt_5 rfl ?_
    obtain ⟨g2, h⟩ := gd h
    refine y_geti C fl_X6_21 g2 dX6_tokenAt_6 ?_
    refine y_icmp_ge C dX6_tokenAt_9 (tgt := 21) rfl (fun c3 => ?_) (fun c3 => ?_)
    · have h := itT c3 h
      refine y_iconst C dX6_tokenAt_21 kc_0 ?_
      have e0 := Option.some.inj h
      subst e0
      exact y_iret C E (Nat.zero_le _) (Nat.zero_le _) dX6_tokenAt_22
    · have h := itF c3 h
      refine y_aload_n C dX6_tokenAt_12 rfl ?_
      obtain ⟨q4, hq4, h⟩ := ob h
      refine y_getr C fl_X6_9 g2 hq4 dX6_tokenAt_13 ?_
      refine y_iload_n C dX6_tokenAt_16 rfl ?_
      obtain ⟨g5, h⟩ := gd h
      refine y_iald C g5 dX6_tokenAt_17 ?_
      refine y_goto C dX6_tokenAt_18 (tgt := 22) rfl ?_
      have e0 := Option.some.inj h
      subst e0
      exact y_iret C E (Nat.zero_le _) (Nat.zero_le _) dX6_tokenAt_22
set_option maxRecDepth 100000 in
def b_X6_numberAt (K : yK) (M : yM) (t : Nat) (x1 : Int32) : Option Int32 := (if x1 < 0 then (some (0 : Int32)) else (if gO K t 5 = true then (if (M t 3) ≤ x1 then (some (0 : Int32)) else (Option.bind (K.2.2 t 2) fun q4 => (if gA K q4 x1 = true then (some (M q4 (x1).toNatClampNeg)) else none))) else none))
set_option maxHeartbeats 4000000 in
set_option maxRecDepth 100000 in
theorem m_X6_numberAt (K : yK) (M : yM) (t : Nat) (x1 : Int32) : yMet yX6_numberAt cX6_numberAt 2 (Option.some Jvm.ClassFile.FieldType.int) rm_X6_numberAt K M [.ref t, .int x1] (b_X6_numberAt K M t x1) (yFi K M) := by
  refine yM_intro (by decide) (Nat.le_of_ble_eq_true rfl) (fun X r h C E => ?_)
  replace C : yCx X cX6_numberAt RX6 "numberAt" rm_X6_numberAt 2 := C
  show Y X K M 0 0 0 [(0, .ref t), (1, .int x1)] []
  unfold b_X6_numberAt at h
  refine y_iload_n C dX6_numberAt_0 rfl ?_
  refine y_if_lt C dX6_numberAt_1 (tgt := 21) rfl (fun c1 => ?_) (fun c1 => ?_)
  · have h := itT c1 h
    refine y_iconst C dX6_numberAt_21 kc_0 ?_
    have e0 := Option.some.inj h
    subst e0
    exact y_iret C E (Nat.zero_le _) (Nat.zero_le _) dX6_numberAt_22
  · have h := itF c1 h
    refine y_iload_n C dX6_numberAt_4 rfl ?_
    refine y_aload_n C dX6_numberAt_5 rfl ?_
    obtain ⟨g2, h⟩ := gd h
    refine y_geti C fl_X6_21 g2 dX6_numberAt_6 ?_
    refine y_icmp_ge C dX6_numberAt_9 (tgt := 21) rfl (fun c3 => ?_) (fun c3 => ?_)
    · have h := itT c3 h
      refine y_iconst C dX6_numberAt_21 kc_0 ?_
      have e0 := Option.some.inj h
      subst e0
      exact y_iret C E (Nat.zero_le _) (Nat.zero_le _) dX6_numberAt_22
    · have h := itF c3 h
      refine y_aload_n C dX6_numberAt_12 rfl ?_
      obtain ⟨q4, hq4, h⟩ := ob h
      refine y_getr C fl_X6_18 g2 hq4 dX6_numberAt_13 ?_
      refine y_iload_n C dX6_numberAt_16 rfl ?_
      obtain ⟨g5, h⟩ := gd h
      refine y_iald C g5 dX6_numberAt_17 ?_
      refine y_goto C dX6_numberAt_18 (tgt := 22) rfl ?_
      have e0 := Option.some.inj h
      subst e0
      exact y_iret C E (Nat.zero_le _) (Nat.zero_le _) dX6_numberAt_22
set_option maxRecDepth 100000 in
def b_X6_append (K : yK) (M : yM) (t : Nat) (x1 : Int32) (x2 : Int32) (x3 : Int32) : Option yM := (if gO K t 5 = true then (if (M t 3) < 0 then (some M) else (Option.bind (K.2.2 t 0) fun q3 => (if gI K q3 = true then (if (Int32.ofNat (K.2.1 q3).2) ≤ (M t 3) then (some M) else (if gA K q3 (M t 3) = true then (Option.bind (some (yS M q3 ((M t 3)).toNatClampNeg x1)) fun M7 => (Option.bind (K.2.2 t 1) fun q8 => (if gA K q8 (M7 t 3) = true then (Option.bind (some (yS M7 q8 ((M7 t 3)).toNatClampNeg x2)) fun M10 => (Option.bind (K.2.2 t 2) fun q11 => (if gA K q11 (M10 t 3) = true then (Option.bind (some (yS M10 q11 ((M10 t 3)).toNatClampNeg x3)) fun M13 => (Option.bind (some (yS M13 t 3 ((M13 t 3) + (1 : Int32)))) fun M14 => (some M14))) else none))) else none))) else none)) else none))) else none)
set_option maxHeartbeats 4000000 in
set_option maxRecDepth 100000 in
theorem m_X6_append (K : yK) (M : yM) (t : Nat) (x1 : Int32) (x2 : Int32) (x3 : Int32) : yMet yX6_append cX6_append 4 none rm_X6_append K M [.ref t, .int x1, .int x2, .int x3] (b_X6_append K M t x1 x2 x3) (yGv K) := by
  refine yM_intro (by decide) (Nat.le_of_ble_eq_true rfl) (fun X r h C E => ?_)
  replace C : yCx X cX6_append RX6 "append" rm_X6_append 4 := C
  show Y X K M 0 0 0 [(0, .ref t), (1, .int x1), (2, .int x2), (3, .int x3)] []
  unfold b_X6_append at h
  refine y_aload_n C dX6_append_0 rfl ?_
  obtain ⟨g1, h⟩ := gd h
  refine y_geti C fl_X6_21 g1 dX6_append_1 ?_
  refine y_if_lt C dX6_append_4 (tgt := 59) rfl (fun c2 => ?_) (fun c2 => ?_)
  · have h := itT c2 h
    have e0 := Option.some.inj h
    subst e0
    exact y_vret C E (Nat.zero_le _) (Nat.zero_le _) dX6_append_59
  · have h := itF c2 h
    refine y_aload_n C dX6_append_7 rfl ?_
    refine y_geti C fl_X6_21 g1 dX6_append_8 ?_
    refine y_aload_n C dX6_append_11 rfl ?_
    obtain ⟨q3, hq3, h⟩ := ob h
    refine y_getr C fl_X6_9 g1 hq3 dX6_append_12 ?_
    obtain ⟨g4, h⟩ := gd h
    refine y_alen C g4 dX6_append_15 ?_
    refine y_icmp_ge C dX6_append_16 (tgt := 59) rfl (fun c5 => ?_) (fun c5 => ?_)
    · have h := itT c5 h
      have e0 := Option.some.inj h
      subst e0
      exact y_vret C E (Nat.zero_le _) (Nat.zero_le _) dX6_append_59
    · have h := itF c5 h
      refine y_aload_n C dX6_append_19 rfl ?_
      refine y_getr C fl_X6_9 g1 hq3 dX6_append_20 ?_
      refine y_aload_n C dX6_append_23 rfl ?_
      refine y_geti C fl_X6_21 g1 dX6_append_24 ?_
      refine y_iload_n C dX6_append_27 rfl ?_
      obtain ⟨g6, h⟩ := gd h
      obtain ⟨M7, eM7, h⟩ := ob h
      have eM7 := Option.some.inj eM7
      refine y_iast C g6 dX6_append_28 eM7 ?_
      refine y_aload_n C dX6_append_29 rfl ?_
      obtain ⟨q8, hq8, h⟩ := ob h
      refine y_getr C fl_X6_15 g1 hq8 dX6_append_30 ?_
      refine y_aload_n C dX6_append_33 rfl ?_
      refine y_geti C fl_X6_21 g1 dX6_append_34 ?_
      refine y_iload_n C dX6_append_37 rfl ?_
      obtain ⟨g9, h⟩ := gd h
      obtain ⟨M10, eM10, h⟩ := ob h
      have eM10 := Option.some.inj eM10
      refine y_iast C g9 dX6_append_38 eM10 ?_
      refine y_aload_n C dX6_append_39 rfl ?_
      obtain ⟨q11, hq11, h⟩ := ob h
      refine y_getr C fl_X6_18 g1 hq11 dX6_append_40 ?_
      refine y_aload_n C dX6_append_43 rfl ?_
      refine y_geti C fl_X6_21 g1 dX6_append_44 ?_
      refine y_iload_n C dX6_append_47 rfl ?_
      obtain ⟨g12, h⟩ := gd h
      obtain ⟨M13, eM13, h⟩ := ob h
      have eM13 := Option.some.inj eM13
      refine y_iast C g12 dX6_append_48 eM13 ?_
      refine y_aload_n C dX6_append_49 rfl ?_
      refine y_dup C dX6_append_50 rfl ?_
      refine y_geti C fl_X6_21 g1 dX6_append_51 ?_
      refine y_iconst C dX6_append_54 kc_1 ?_
      refine y_iadd C dX6_append_55 ?_
      obtain ⟨M14, eM14, h⟩ := ob h
      have eM14 := Option.some.inj eM14
      refine y_puti C fl_X6_21 rfl g1 rfl rfl dX6_append_56 eM14 ?_
      have e0 := Option.some.inj h
      subst e0
      exact y_vret C E (Nat.zero_le _) (Nat.zero_le _) dX6_append_59
set_option maxRecDepth 100000 in
def b_X6_isDigit (K : yK) (M : yM) (x1 : Int32) : Option Bool := (if x1 < (48 : Int32) then (some false) else (if (57 : Int32) < x1 then (some false) else (some true)))
set_option maxHeartbeats 4000000 in
set_option maxRecDepth 100000 in
theorem m_X6_isDigit (K : yK) (M : yM) (x1 : Int32) : yMet yX6_isDigit cX6_isDigit 1 (Option.some Jvm.ClassFile.FieldType.boolean) rm_X6_isDigit K M [.int x1] (b_X6_isDigit K M x1) (yFb K M) := by
  refine yM_intro (by decide) (Nat.le_of_ble_eq_true rfl) (fun X r h C E => ?_)
  replace C : yCx X cX6_isDigit RX6 "isDigit" rm_X6_isDigit 1 := C
  show Y X K M 0 0 0 [(0, .int x1)] []
  unfold b_X6_isDigit at h
  refine y_iload_n C dX6_isDigit_0 rfl ?_
  refine y_bipush C dX6_isDigit_1 kb_48 ?_
  refine y_icmp_lt C dX6_isDigit_3 (tgt := 16) rfl (fun c1 => ?_) (fun c1 => ?_)
  · have h := itT c1 h
    refine y_iconst C dX6_isDigit_16 kc_0 ?_
    have e0 := Option.some.inj h
    subst e0
    exact y_bret (b := false) C E (Nat.zero_le _) (Nat.zero_le _) dX6_isDigit_17
  · have h := itF c1 h
    refine y_iload_n C dX6_isDigit_6 rfl ?_
    refine y_bipush C dX6_isDigit_7 kb_57 ?_
    refine y_icmp_gt C dX6_isDigit_9 (tgt := 16) rfl (fun c2 => ?_) (fun c2 => ?_)
    · have h := itT c2 h
      refine y_iconst C dX6_isDigit_16 kc_0 ?_
      have e0 := Option.some.inj h
      subst e0
      exact y_bret (b := false) C E (Nat.zero_le _) (Nat.zero_le _) dX6_isDigit_17
    · have h := itF c2 h
      refine y_iconst C dX6_isDigit_12 kc_1 ?_
      refine y_goto C dX6_isDigit_13 (tgt := 17) rfl ?_
      have e0 := Option.some.inj h
      subst e0
      exact y_bret (b := true) C E (Nat.zero_le _) (Nat.zero_le _) dX6_isDigit_17
set_option maxRecDepth 100000 in
def b_X6_isLetter (K : yK) (M : yM) (x1 : Int32) : Option Bool := (if x1 < (97 : Int32) then (some false) else (if (122 : Int32) < x1 then (some false) else (some true)))
set_option maxHeartbeats 4000000 in
set_option maxRecDepth 100000 in
theorem m_X6_isLetter (K : yK) (M : yM) (x1 : Int32) : yMet yX6_isLetter cX6_isLetter 1 (Option.some Jvm.ClassFile.FieldType.boolean) rm_X6_isLetter K M [.int x1] (b_X6_isLetter K M x1) (yFb K M) := by
  refine yM_intro (by decide) (Nat.le_of_ble_eq_true rfl) (fun X r h C E => ?_)
  replace C : yCx X cX6_isLetter RX6 "isLetter" rm_X6_isLetter 1 := C
  show Y X K M 0 0 0 [(0, .int x1)] []
  unfold b_X6_isLetter at h
  refine y_iload_n C dX6_isLetter_0 rfl ?_
  refine y_bipush C dX6_isLetter_1 kb_97 ?_
  refine y_icmp_lt C dX6_isLetter_3 (tgt := 16) rfl (fun c1 => ?_) (fun c1 => ?_)
  · have h := itT c1 h
    refine y_iconst C dX6_isLetter_16 kc_0 ?_
    have e0 := Option.some.inj h
    subst e0
    exact y_bret (b := false) C E (Nat.zero_le _) (Nat.zero_le _) dX6_isLetter_17
  · have h := itF c1 h
    refine y_iload_n C dX6_isLetter_6 rfl ?_
    refine y_bipush C dX6_isLetter_7 kb_122 ?_
    refine y_icmp_gt C dX6_isLetter_9 (tgt := 16) rfl (fun c2 => ?_) (fun c2 => ?_)
    · have h := itT c2 h
      refine y_iconst C dX6_isLetter_16 kc_0 ?_
      have e0 := Option.some.inj h
      subst e0
      exact y_bret (b := false) C E (Nat.zero_le _) (Nat.zero_le _) dX6_isLetter_17
    · have h := itF c2 h
      refine y_iconst C dX6_isLetter_12 kc_1 ?_
      refine y_goto C dX6_isLetter_13 (tgt := 17) rfl ?_
      have e0 := Option.some.inj h
      subst e0
      exact y_bret (b := true) C E (Nat.zero_le _) (Nat.zero_le _) dX6_isLetter_17
def b_X6_endOfToken_20 (K : yK) (M : yM) (t_0 : Nat) (x_2 : Int32) (z_3 : Bool) (z_4 : Bool) : Nat → Int32 → Option Int32
  | 0, _ => none
  | n + 1, u20_5 => (if x_2 ≤ u20_5 then (some u20_5) else (if z_3 = true then (if gA K t_0 u20_5 = true then (Option.bind (b_X6_isLetter K M ((M t_0 (u20_5).toNatClampNeg))) fun r9 => (if r9 = true then (Option.bind (some (u20_5 + (1 : Int32))) fun v11 => (b_X6_endOfToken_20 K M t_0 x_2 z_3 z_4 n v11)) else (if z_4 = true then (Option.bind (b_X6_isDigit K M ((M t_0 (u20_5).toNatClampNeg))) fun r13 => (if r13 = true then (Option.bind (some (u20_5 + (1 : Int32))) fun v15 => (b_X6_endOfToken_20 K M t_0 x_2 z_3 z_4 n v15)) else (some u20_5))) else (some u20_5)))) else none) else (if z_4 = true then (if gA K t_0 u20_5 = true then (Option.bind (b_X6_isDigit K M ((M t_0 (u20_5).toNatClampNeg))) fun r5 => (if r5 = true then (Option.bind (some (u20_5 + (1 : Int32))) fun v7 => (b_X6_endOfToken_20 K M t_0 x_2 z_3 z_4 n v7)) else (some u20_5))) else none) else (some u20_5))))
set_option maxHeartbeats 4000000 in
set_option maxRecDepth 100000 in
theorem l_X6_endOfToken_20 {X : yX} {K : yK} {M : yM} {t_0 : Nat} {x_2 : Int32} {z_3 : Bool} {z_4 : Bool} (C : yCx X cX6_endOfToken RX6 "endOfToken" rm_X6_endOfToken 6) : ∀ (n : Nat) (u20_5 : Int32) (x : Int32), b_X6_endOfToken_20 K M t_0 x_2 z_3 z_4 n u20_5 = some x → ∀ (hX : Y X K M 0 0 61 [(5, .int x)] []), Y X K M 0 0 20 [(0, .ref t_0), (2, .int x_2), (3, .int (bI z_3)), (4, .int (bI z_4)), (5, .int u20_5)] [] := by
  intro n
  induction n with
  | zero =>
    intro u20_5 x h
    exact nomatch (show (none : Option _) = some x from h)
  | succ n ih =>
    intro u20_5 x h hX
    rw [b_X6_endOfToken_20] at h
    refine y_iload C dX6_endOfToken_20 rfl ?_
    refine y_iload_n C dX6_endOfToken_22 rfl ?_
    refine y_icmp_ge C dX6_endOfToken_23 (tgt := 61) rfl (fun c1 => ?_) (fun c1 => ?_)
    · have h := itT c1 h
      have e0 := Option.some.inj h
      subst e0
      exact y_sel [5] rfl hX
    · have h := itF c1 h
      refine y_iload_n C dX6_endOfToken_26 rfl ?_
      refine y_ifeqB C dX6_endOfToken_27 (tgt := 40) rfl (fun c2 => ?_) (fun c2 => ?_)
      · have h := itFb c2 h
        refine y_iload C dX6_endOfToken_40 rfl ?_
        refine y_ifeqB C dX6_endOfToken_42 (tgt := 61) rfl (fun c3 => ?_) (fun c3 => ?_)
        · have h := itFb c3 h
          have e0 := Option.some.inj h
          subst e0
          exact y_sel [5] rfl hX
        · have h := itT c3 h
          refine y_aload_n C dX6_endOfToken_45 rfl ?_
          refine y_iload C dX6_endOfToken_46 rfl ?_
          obtain ⟨g4, h⟩ := gd h
          refine y_iald C g4 dX6_endOfToken_48 ?_
          obtain ⟨r5, hr5, h⟩ := ob h
          refine y_cS C [.int (M t_0 (u20_5).toNatClampNeg)] (m_X6_isDigit K M ((M t_0 (u20_5).toNatClampNeg))) hr5 cw_X6_52 rfl (by decide) ⟨rfl, rfl⟩ ⟨Nat.zero_le _, Nat.zero_le _⟩ (Nat.le_of_ble_eq_true rfl) rfl rfl rfl dX6_endOfToken_49 ?_
          refine y_ifeqB C dX6_endOfToken_52 (tgt := 61) rfl (fun c6 => ?_) (fun c6 => ?_)
          · have h := itFb c6 h
            have e0 := Option.some.inj h
            subst e0
            exact y_sel [5] rfl hX
          · have h := itT c6 h
            obtain ⟨v7, ev7, h⟩ := ob h
            have ev7 := Option.some.inj ev7
            refine y_iinc C dX6_endOfToken_55 (by decide) rfl (v := v7) (by subst ev7; rfl) (L' := [(5, .int v7), (0, .ref t_0), (2, .int x_2), (3, .int (bI z_3)), (4, .int (bI z_4))]) rfl ?_
            refine y_goto C dX6_endOfToken_58 (tgt := 20) rfl ?_
            exact y_sel [0, 2, 3, 4, 5] rfl (ih _ _  h hX)
      · have h := itT c2 h
        refine y_aload_n C dX6_endOfToken_30 rfl ?_
        refine y_iload C dX6_endOfToken_31 rfl ?_
        obtain ⟨g8, h⟩ := gd h
        refine y_iald C g8 dX6_endOfToken_33 ?_
        obtain ⟨r9, hr9, h⟩ := ob h
        refine y_cS C [.int (M t_0 (u20_5).toNatClampNeg)] (m_X6_isLetter K M ((M t_0 (u20_5).toNatClampNeg))) hr9 cw_X6_49 rfl (by decide) ⟨rfl, rfl⟩ ⟨Nat.zero_le _, Nat.zero_le _⟩ (Nat.le_of_ble_eq_true rfl) rfl rfl rfl dX6_endOfToken_34 ?_
        refine y_ifneB C dX6_endOfToken_37 (tgt := 55) rfl (fun c10 => ?_) (fun c10 => ?_)
        · have h := itT c10 h
          obtain ⟨v11, ev11, h⟩ := ob h
          have ev11 := Option.some.inj ev11
          refine y_iinc C dX6_endOfToken_55 (by decide) rfl (v := v11) (by subst ev11; rfl) (L' := [(5, .int v11), (0, .ref t_0), (2, .int x_2), (3, .int (bI z_3)), (4, .int (bI z_4))]) rfl ?_
          refine y_goto C dX6_endOfToken_58 (tgt := 20) rfl ?_
          exact y_sel [0, 2, 3, 4, 5] rfl (ih _ _  h hX)
        · have h := itFb c10 h
          refine y_iload C dX6_endOfToken_40 rfl ?_
          refine y_ifeqB C dX6_endOfToken_42 (tgt := 61) rfl (fun c12 => ?_) (fun c12 => ?_)
          · have h := itFb c12 h
            have e0 := Option.some.inj h
            subst e0
            exact y_sel [5] rfl hX
          · have h := itT c12 h
            refine y_aload_n C dX6_endOfToken_45 rfl ?_
            refine y_iload C dX6_endOfToken_46 rfl ?_
            refine y_iald C g8 dX6_endOfToken_48 ?_
            obtain ⟨r13, hr13, h⟩ := ob h
            refine y_cS C [.int (M t_0 (u20_5).toNatClampNeg)] (m_X6_isDigit K M ((M t_0 (u20_5).toNatClampNeg))) hr13 cw_X6_52 rfl (by decide) ⟨rfl, rfl⟩ ⟨Nat.zero_le _, Nat.zero_le _⟩ (Nat.le_of_ble_eq_true rfl) rfl rfl rfl dX6_endOfToken_49 ?_
            refine y_ifeqB C dX6_endOfToken_52 (tgt := 61) rfl (fun c14 => ?_) (fun c14 => ?_)
            · have h := itFb c14 h
              have e0 := Option.some.inj h
              subst e0
              exact y_sel [5] rfl hX
            · have h := itT c14 h
              obtain ⟨v15, ev15, h⟩ := ob h
              have ev15 := Option.some.inj ev15
              refine y_iinc C dX6_endOfToken_55 (by decide) rfl (v := v15) (by subst ev15; rfl) (L' := [(5, .int v15), (0, .ref t_0), (2, .int x_2), (3, .int (bI z_3)), (4, .int (bI z_4))]) rfl ?_
              refine y_goto C dX6_endOfToken_58 (tgt := 20) rfl ?_
              exact y_sel [0, 2, 3, 4, 5] rfl (ih _ _  h hX)
set_option maxRecDepth 100000 in
def b_X6_endOfToken (K : yK) (M : yM) (a1 : Nat) (x2 : Int32) (x3 : Int32) : Option Int32 := (if gA K a1 x2 = true then (Option.bind (b_X6_isLetter K M ((M a1 (x2).toNatClampNeg))) fun r2 => (Option.bind (b_X6_isDigit K M ((M a1 (x2).toNatClampNeg))) fun r3 => (Option.bind (some (x2 + (1 : Int32))) fun v4 => (Option.bind (b_X6_endOfToken_20 K M a1 x3 r2 r3 1000 v4) fun j5 => (some j5))))) else none)
set_option maxHeartbeats 4000000 in
set_option maxRecDepth 100000 in
theorem m_X6_endOfToken (K : yK) (M : yM) (a1 : Nat) (x2 : Int32) (x3 : Int32) : yMet yX6_endOfToken cX6_endOfToken 6 (Option.some Jvm.ClassFile.FieldType.int) rm_X6_endOfToken K M [.ref a1, .int x2, .int x3] (b_X6_endOfToken K M a1 x2 x3) (yFi K M) := by
  refine yM_intro (by decide) (Nat.le_of_ble_eq_true rfl) (fun X r h C E => ?_)
  replace C : yCx X cX6_endOfToken RX6 "endOfToken" rm_X6_endOfToken 6 := C
  show Y X K M 0 0 0 [(0, .ref a1), (1, .int x2), (2, .int x3)] []
  unfold b_X6_endOfToken at h
  refine y_aload_n C dX6_endOfToken_0 rfl ?_
  refine y_iload_n C dX6_endOfToken_1 rfl ?_
  obtain ⟨g1, h⟩ := gd h
  refine y_iald C g1 dX6_endOfToken_2 ?_
  obtain ⟨r2, hr2, h⟩ := ob h
  refine y_cS C [.int (M a1 (x2).toNatClampNeg)] (m_X6_isLetter K M ((M a1 (x2).toNatClampNeg))) hr2 cw_X6_49 rfl (by decide) ⟨rfl, rfl⟩ ⟨Nat.zero_le _, Nat.zero_le _⟩ (Nat.le_of_ble_eq_true rfl) rfl rfl rfl dX6_endOfToken_3 ?_
  refine y_istore_n C dX6_endOfToken_6 (by decide) (L' := [(3, .int (bI r2)), (0, .ref a1), (1, .int x2), (2, .int x3)]) rfl ?_
  refine y_aload_n C dX6_endOfToken_7 rfl ?_
  refine y_iload_n C dX6_endOfToken_8 rfl ?_
  refine y_iald C g1 dX6_endOfToken_9 ?_
  obtain ⟨r3, hr3, h⟩ := ob h
  refine y_cS C [.int (M a1 (x2).toNatClampNeg)] (m_X6_isDigit K M ((M a1 (x2).toNatClampNeg))) hr3 cw_X6_52 rfl (by decide) ⟨rfl, rfl⟩ ⟨Nat.zero_le _, Nat.zero_le _⟩ (Nat.le_of_ble_eq_true rfl) rfl rfl rfl dX6_endOfToken_10 ?_
  refine y_istore C dX6_endOfToken_13 (by decide) (L' := [(4, .int (bI r3)), (3, .int (bI r2)), (0, .ref a1), (1, .int x2), (2, .int x3)]) rfl ?_
  refine y_iload_n C dX6_endOfToken_15 rfl ?_
  refine y_iconst C dX6_endOfToken_16 kc_1 ?_
  refine y_iadd C dX6_endOfToken_17 ?_
  obtain ⟨v4, ev4, h⟩ := ob h
  have ev4 := Option.some.inj ev4
  refine y_istore C dX6_endOfToken_18 (by decide) (L' := [(5, .int v4), (4, .int (bI r3)), (3, .int (bI r2)), (0, .ref a1), (1, .int x2), (2, .int x3)]) (by subst ev4; rfl) ?_
  obtain ⟨j5, hj5, h⟩ := ob h
  refine y_sel [0, 2, 3, 4, 5] rfl (l_X6_endOfToken_20 C 1000 _ _ hj5 ?_)
  refine y_iload C dX6_endOfToken_61 rfl ?_
  have e0 := Option.some.inj h
  subst e0
  exact y_iret C E (Nat.zero_le _) (Nat.zero_le _) dX6_endOfToken_63
set_option maxRecDepth 100000 in
def b_X6_isBlank (K : yK) (M : yM) (x1 : Int32) : Option Bool := (if x1 = (32 : Int32) then (some true) else (if x1 = (10 : Int32) then (some true) else (some false)))
set_option maxHeartbeats 4000000 in
set_option maxRecDepth 100000 in
theorem m_X6_isBlank (K : yK) (M : yM) (x1 : Int32) : yMet yX6_isBlank cX6_isBlank 1 (Option.some Jvm.ClassFile.FieldType.boolean) rm_X6_isBlank K M [.int x1] (b_X6_isBlank K M x1) (yFb K M) := by
  refine yM_intro (by decide) (Nat.le_of_ble_eq_true rfl) (fun X r h C E => ?_)
  replace C : yCx X cX6_isBlank RX6 "isBlank" rm_X6_isBlank 1 := C
  show Y X K M 0 0 0 [(0, .int x1)] []
  unfold b_X6_isBlank at h
  refine y_iload_n C dX6_isBlank_0 rfl ?_
  refine y_bipush C dX6_isBlank_1 kb_32 ?_
  refine y_icmp_eq C dX6_isBlank_3 (tgt := 12) rfl (fun c1 => ?_) (fun c1 => ?_)
  · have h := itT c1 h
    refine y_iconst C dX6_isBlank_12 kc_1 ?_
    refine y_goto C dX6_isBlank_13 (tgt := 17) rfl ?_
    have e0 := Option.some.inj h
    subst e0
    exact y_bret (b := true) C E (Nat.zero_le _) (Nat.zero_le _) dX6_isBlank_17
  · have h := itF c1 h
    refine y_iload_n C dX6_isBlank_6 rfl ?_
    refine y_bipush C dX6_isBlank_7 kb_10 ?_
    refine y_icmp_ne C dX6_isBlank_9 (tgt := 16) rfl (fun c2 => ?_) (fun c2 => ?_)
    · have h := itF c2 h
      refine y_iconst C dX6_isBlank_16 kc_0 ?_
      have e0 := Option.some.inj h
      subst e0
      exact y_bret (b := false) C E (Nat.zero_le _) (Nat.zero_le _) dX6_isBlank_17
    · have h := itT c2 h
      refine y_iconst C dX6_isBlank_12 kc_1 ?_
      refine y_goto C dX6_isBlank_13 (tgt := 17) rfl ?_
      have e0 := Option.some.inj h
      subst e0
      exact y_bret (b := true) C E (Nat.zero_le _) (Nat.zero_le _) dX6_isBlank_17
def b_X6_numberOf_5 (K : yK) (M : yM) (t_0 : Nat) (x_2 : Int32) : Nat → Int32 → Int32 → Option Int32
  | 0, _, _ => none
  | n + 1, u5_3, u5_4 => (if x_2 ≤ u5_4 then (some u5_3) else (if gA K t_0 u5_4 = true then (Option.bind (some (((u5_3 * (10 : Int32)) + (M t_0 (u5_4).toNatClampNeg)) - (48 : Int32))) fun v3 => (Option.bind (some (u5_4 + (1 : Int32))) fun v4 => (b_X6_numberOf_5 K M t_0 x_2 n v3 v4))) else none))
set_option maxHeartbeats 4000000 in
set_option maxRecDepth 100000 in
theorem l_X6_numberOf_5 {X : yX} {K : yK} {M : yM} {t_0 : Nat} {x_2 : Int32} (C : yCx X cX6_numberOf RX6 "numberOf" rm_X6_numberOf 5) : ∀ (n : Nat) (u5_3 : Int32) (u5_4 : Int32) (x : Int32), b_X6_numberOf_5 K M t_0 x_2 n u5_3 u5_4 = some x → ∀ (hX : Y X K M 0 0 30 [(3, .int x)] []), Y X K M 0 0 5 [(0, .ref t_0), (2, .int x_2), (3, .int u5_3), (4, .int u5_4)] [] := by
  intro n
  induction n with
  | zero =>
    intro u5_3 u5_4 x h
    exact nomatch (show (none : Option _) = some x from h)
  | succ n ih =>
    intro u5_3 u5_4 x h hX
    rw [b_X6_numberOf_5] at h
    refine y_iload C dX6_numberOf_5 rfl ?_
    refine y_iload_n C dX6_numberOf_7 rfl ?_
    refine y_icmp_ge C dX6_numberOf_8 (tgt := 30) rfl (fun c1 => ?_) (fun c1 => ?_)
    · have h := itT c1 h
      have e0 := Option.some.inj h
      subst e0
      exact y_sel [3] rfl hX
    · have h := itF c1 h
      refine y_iload_n C dX6_numberOf_11 rfl ?_
      refine y_bipush C dX6_numberOf_12 kb_10 ?_
      refine y_imul C dX6_numberOf_14 ?_
      refine y_aload_n C dX6_numberOf_15 rfl ?_
      refine y_iload C dX6_numberOf_16 rfl ?_
      obtain ⟨g2, h⟩ := gd h
      refine y_iald C g2 dX6_numberOf_18 ?_
      refine y_iadd C dX6_numberOf_19 ?_
      refine y_bipush C dX6_numberOf_20 kb_48 ?_
      refine y_isub C dX6_numberOf_22 ?_
      obtain ⟨v3, ev3, h⟩ := ob h
      have ev3 := Option.some.inj ev3
      refine y_istore_n C dX6_numberOf_23 (by decide) (L' := [(3, .int v3), (0, .ref t_0), (2, .int x_2), (4, .int u5_4)]) (by subst ev3; rfl) ?_
      obtain ⟨v4, ev4, h⟩ := ob h
      have ev4 := Option.some.inj ev4
      refine y_iinc C dX6_numberOf_24 (by decide) rfl (v := v4) (by subst ev4; rfl) (L' := [(4, .int v4), (3, .int v3), (0, .ref t_0), (2, .int x_2)]) rfl ?_
      refine y_goto C dX6_numberOf_27 (tgt := 5) rfl ?_
      exact y_sel [0, 2, 3, 4] rfl (ih _ _ _  h hX)
set_option maxRecDepth 100000 in
def b_X6_numberOf (K : yK) (M : yM) (a1 : Nat) (x2 : Int32) (x3 : Int32) : Option Int32 := (Option.bind (b_X6_numberOf_5 K M a1 x3 1000 ((0 : Int32)) x2) fun j1 => (some j1))
set_option maxHeartbeats 4000000 in
set_option maxRecDepth 100000 in
theorem m_X6_numberOf (K : yK) (M : yM) (a1 : Nat) (x2 : Int32) (x3 : Int32) : yMet yX6_numberOf cX6_numberOf 5 (Option.some Jvm.ClassFile.FieldType.int) rm_X6_numberOf K M [.ref a1, .int x2, .int x3] (b_X6_numberOf K M a1 x2 x3) (yFi K M) := by
  refine yM_intro (by decide) (Nat.le_of_ble_eq_true rfl) (fun X r h C E => ?_)
  replace C : yCx X cX6_numberOf RX6 "numberOf" rm_X6_numberOf 5 := C
  show Y X K M 0 0 0 [(0, .ref a1), (1, .int x2), (2, .int x3)] []
  unfold b_X6_numberOf at h
  refine y_iconst C dX6_numberOf_0 kc_0 ?_
  refine y_istore_n C dX6_numberOf_1 (by decide) (L' := [(3, .int (0)), (0, .ref a1), (1, .int x2), (2, .int x3)]) rfl ?_
  refine y_iload_n C dX6_numberOf_2 rfl ?_
  refine y_istore C dX6_numberOf_3 (by decide) (L' := [(4, .int x2), (3, .int (0)), (0, .ref a1), (1, .int x2), (2, .int x3)]) rfl ?_
  obtain ⟨j1, hj1, h⟩ := ob h
  refine y_sel [0, 2, 3, 4] rfl (l_X6_numberOf_5 C 1000 _ _ _ hj1 ?_)
  refine y_iload_n C dX6_numberOf_30 rfl ?_
  have e0 := Option.some.inj h
  subst e0
  exact y_iret C E (Nat.zero_le _) (Nat.zero_le _) dX6_numberOf_31
set_option maxRecDepth 100000 in
def b_X6_isSign (K : yK) (M : yM) (x1 : Int32) : Option Bool := (if x1 = (40 : Int32) then (some true) else (if x1 = (41 : Int32) then (some true) else (if x1 = (42 : Int32) then (some true) else (if x1 = (43 : Int32) then (some true) else (if x1 = (44 : Int32) then (some false) else (if x1 = (45 : Int32) then (some true) else (if x1 = (46 : Int32) then (some false) else (if x1 = (47 : Int32) then (some false) else (if x1 = (48 : Int32) then (some false) else (if x1 = (49 : Int32) then (some false) else (if x1 = (50 : Int32) then (some false) else (if x1 = (51 : Int32) then (some false) else (if x1 = (52 : Int32) then (some false) else (if x1 = (53 : Int32) then (some false) else (if x1 = (54 : Int32) then (some false) else (if x1 = (55 : Int32) then (some false) else (if x1 = (56 : Int32) then (some false) else (if x1 = (57 : Int32) then (some false) else (if x1 = (58 : Int32) then (some false) else (if x1 = (59 : Int32) then (some true) else (if x1 = (60 : Int32) then (some true) else (if x1 = (61 : Int32) then (some true) else (some false)))))))))))))))))))))))
set_option maxHeartbeats 4000000 in
set_option maxRecDepth 100000 in
theorem m_X6_isSign (K : yK) (M : yM) (x1 : Int32) : yMet yX6_isSign cX6_isSign 1 (Option.some Jvm.ClassFile.FieldType.boolean) rm_X6_isSign K M [.int x1] (b_X6_isSign K M x1) (yFb K M) := by
  refine yM_intro (by decide) (Nat.le_of_ble_eq_true rfl) (fun X r h C E => ?_)
  replace C : yCx X cX6_isSign RX6 "isSign" rm_X6_isSign 1 := C
  show Y X K M 0 0 0 [(0, .int x1)] []
  unfold b_X6_isSign at h
  refine y_iload_n C dX6_isSign_0 rfl ?_
  rcases Classical.em (x1 = (40 : Int32)) with c1 | c1
  · have h := itT c1 h
    refine y_tabIn C dX6_isSign_1 (off := 103) (tgt := 104) (by rw [c1]; decide) (by rw [c1]; decide) (by rw [c1]; rfl) rfl ?_
    refine y_iconst C dX6_isSign_104 kc_1 ?_
    have e0 := Option.some.inj h
    subst e0
    exact y_bret (b := true) C E (Nat.zero_le _) (Nat.zero_le _) dX6_isSign_105
  replace h := itF c1 h
  rcases Classical.em (x1 = (41 : Int32)) with c2 | c2
  · have h := itT c2 h
    refine y_tabIn C dX6_isSign_1 (off := 103) (tgt := 104) (by rw [c2]; decide) (by rw [c2]; decide) (by rw [c2]; rfl) rfl ?_
    refine y_iconst C dX6_isSign_104 kc_1 ?_
    have e0 := Option.some.inj h
    subst e0
    exact y_bret (b := true) C E (Nat.zero_le _) (Nat.zero_le _) dX6_isSign_105
  replace h := itF c2 h
  rcases Classical.em (x1 = (42 : Int32)) with c3 | c3
  · have h := itT c3 h
    refine y_tabIn C dX6_isSign_1 (off := 103) (tgt := 104) (by rw [c3]; decide) (by rw [c3]; decide) (by rw [c3]; rfl) rfl ?_
    refine y_iconst C dX6_isSign_104 kc_1 ?_
    have e0 := Option.some.inj h
    subst e0
    exact y_bret (b := true) C E (Nat.zero_le _) (Nat.zero_le _) dX6_isSign_105
  replace h := itF c3 h
  rcases Classical.em (x1 = (43 : Int32)) with c4 | c4
  · have h := itT c4 h
    refine y_tabIn C dX6_isSign_1 (off := 103) (tgt := 104) (by rw [c4]; decide) (by rw [c4]; decide) (by rw [c4]; rfl) rfl ?_
    refine y_iconst C dX6_isSign_104 kc_1 ?_
    have e0 := Option.some.inj h
    subst e0
    exact y_bret (b := true) C E (Nat.zero_le _) (Nat.zero_le _) dX6_isSign_105
  replace h := itF c4 h
  rcases Classical.em (x1 = (44 : Int32)) with c5 | c5
  · have h := itT c5 h
    refine y_tabIn C dX6_isSign_1 (off := 105) (tgt := 106) (by rw [c5]; decide) (by rw [c5]; decide) (by rw [c5]; rfl) rfl ?_
    refine y_iconst C dX6_isSign_106 kc_0 ?_
    have e0 := Option.some.inj h
    subst e0
    exact y_bret (b := false) C E (Nat.zero_le _) (Nat.zero_le _) dX6_isSign_107
  replace h := itF c5 h
  rcases Classical.em (x1 = (45 : Int32)) with c6 | c6
  · have h := itT c6 h
    refine y_tabIn C dX6_isSign_1 (off := 103) (tgt := 104) (by rw [c6]; decide) (by rw [c6]; decide) (by rw [c6]; rfl) rfl ?_
    refine y_iconst C dX6_isSign_104 kc_1 ?_
    have e0 := Option.some.inj h
    subst e0
    exact y_bret (b := true) C E (Nat.zero_le _) (Nat.zero_le _) dX6_isSign_105
  replace h := itF c6 h
  rcases Classical.em (x1 = (46 : Int32)) with c7 | c7
  · have h := itT c7 h
    refine y_tabIn C dX6_isSign_1 (off := 105) (tgt := 106) (by rw [c7]; decide) (by rw [c7]; decide) (by rw [c7]; rfl) rfl ?_
    refine y_iconst C dX6_isSign_106 kc_0 ?_
    have e0 := Option.some.inj h
    subst e0
    exact y_bret (b := false) C E (Nat.zero_le _) (Nat.zero_le _) dX6_isSign_107
  replace h := itF c7 h
  rcases Classical.em (x1 = (47 : Int32)) with c8 | c8
  · have h := itT c8 h
    refine y_tabIn C dX6_isSign_1 (off := 105) (tgt := 106) (by rw [c8]; decide) (by rw [c8]; decide) (by rw [c8]; rfl) rfl ?_
    refine y_iconst C dX6_isSign_106 kc_0 ?_
    have e0 := Option.some.inj h
    subst e0
    exact y_bret (b := false) C E (Nat.zero_le _) (Nat.zero_le _) dX6_isSign_107
  replace h := itF c8 h
  rcases Classical.em (x1 = (48 : Int32)) with c9 | c9
  · have h := itT c9 h
    refine y_tabIn C dX6_isSign_1 (off := 105) (tgt := 106) (by rw [c9]; decide) (by rw [c9]; decide) (by rw [c9]; rfl) rfl ?_
    refine y_iconst C dX6_isSign_106 kc_0 ?_
    have e0 := Option.some.inj h
    subst e0
    exact y_bret (b := false) C E (Nat.zero_le _) (Nat.zero_le _) dX6_isSign_107
  replace h := itF c9 h
  rcases Classical.em (x1 = (49 : Int32)) with c10 | c10
  · have h := itT c10 h
    refine y_tabIn C dX6_isSign_1 (off := 105) (tgt := 106) (by rw [c10]; decide) (by rw [c10]; decide) (by rw [c10]; rfl) rfl ?_
    refine y_iconst C dX6_isSign_106 kc_0 ?_
    have e0 := Option.some.inj h
    subst e0
    exact y_bret (b := false) C E (Nat.zero_le _) (Nat.zero_le _) dX6_isSign_107
  replace h := itF c10 h
  rcases Classical.em (x1 = (50 : Int32)) with c11 | c11
  · have h := itT c11 h
    refine y_tabIn C dX6_isSign_1 (off := 105) (tgt := 106) (by rw [c11]; decide) (by rw [c11]; decide) (by rw [c11]; rfl) rfl ?_
    refine y_iconst C dX6_isSign_106 kc_0 ?_
    have e0 := Option.some.inj h
    subst e0
    exact y_bret (b := false) C E (Nat.zero_le _) (Nat.zero_le _) dX6_isSign_107
  replace h := itF c11 h
  rcases Classical.em (x1 = (51 : Int32)) with c12 | c12
  · have h := itT c12 h
    refine y_tabIn C dX6_isSign_1 (off := 105) (tgt := 106) (by rw [c12]; decide) (by rw [c12]; decide) (by rw [c12]; rfl) rfl ?_
    refine y_iconst C dX6_isSign_106 kc_0 ?_
    have e0 := Option.some.inj h
    subst e0
    exact y_bret (b := false) C E (Nat.zero_le _) (Nat.zero_le _) dX6_isSign_107
  replace h := itF c12 h
  rcases Classical.em (x1 = (52 : Int32)) with c13 | c13
  · have h := itT c13 h
    refine y_tabIn C dX6_isSign_1 (off := 105) (tgt := 106) (by rw [c13]; decide) (by rw [c13]; decide) (by rw [c13]; rfl) rfl ?_
    refine y_iconst C dX6_isSign_106 kc_0 ?_
    have e0 := Option.some.inj h
    subst e0
    exact y_bret (b := false) C E (Nat.zero_le _) (Nat.zero_le _) dX6_isSign_107
  replace h := itF c13 h
  rcases Classical.em (x1 = (53 : Int32)) with c14 | c14
  · have h := itT c14 h
    refine y_tabIn C dX6_isSign_1 (off := 105) (tgt := 106) (by rw [c14]; decide) (by rw [c14]; decide) (by rw [c14]; rfl) rfl ?_
    refine y_iconst C dX6_isSign_106 kc_0 ?_
    have e0 := Option.some.inj h
    subst e0
    exact y_bret (b := false) C E (Nat.zero_le _) (Nat.zero_le _) dX6_isSign_107
  replace h := itF c14 h
  rcases Classical.em (x1 = (54 : Int32)) with c15 | c15
  · have h := itT c15 h
    refine y_tabIn C dX6_isSign_1 (off := 105) (tgt := 106) (by rw [c15]; decide) (by rw [c15]; decide) (by rw [c15]; rfl) rfl ?_
    refine y_iconst C dX6_isSign_106 kc_0 ?_
    have e0 := Option.some.inj h
    subst e0
    exact y_bret (b := false) C E (Nat.zero_le _) (Nat.zero_le _) dX6_isSign_107
  replace h := itF c15 h
  rcases Classical.em (x1 = (55 : Int32)) with c16 | c16
  · have h := itT c16 h
    refine y_tabIn C dX6_isSign_1 (off := 105) (tgt := 106) (by rw [c16]; decide) (by rw [c16]; decide) (by rw [c16]; rfl) rfl ?_
    refine y_iconst C dX6_isSign_106 kc_0 ?_
    have e0 := Option.some.inj h
    subst e0
    exact y_bret (b := false) C E (Nat.zero_le _) (Nat.zero_le _) dX6_isSign_107
  replace h := itF c16 h
  rcases Classical.em (x1 = (56 : Int32)) with c17 | c17
  · have h := itT c17 h
    refine y_tabIn C dX6_isSign_1 (off := 105) (tgt := 106) (by rw [c17]; decide) (by rw [c17]; decide) (by rw [c17]; rfl) rfl ?_
    refine y_iconst C dX6_isSign_106 kc_0 ?_
    have e0 := Option.some.inj h
    subst e0
    exact y_bret (b := false) C E (Nat.zero_le _) (Nat.zero_le _) dX6_isSign_107
  replace h := itF c17 h
  rcases Classical.em (x1 = (57 : Int32)) with c18 | c18
  · have h := itT c18 h
    refine y_tabIn C dX6_isSign_1 (off := 105) (tgt := 106) (by rw [c18]; decide) (by rw [c18]; decide) (by rw [c18]; rfl) rfl ?_
    refine y_iconst C dX6_isSign_106 kc_0 ?_
    have e0 := Option.some.inj h
    subst e0
    exact y_bret (b := false) C E (Nat.zero_le _) (Nat.zero_le _) dX6_isSign_107
  replace h := itF c18 h
  rcases Classical.em (x1 = (58 : Int32)) with c19 | c19
  · have h := itT c19 h
    refine y_tabIn C dX6_isSign_1 (off := 105) (tgt := 106) (by rw [c19]; decide) (by rw [c19]; decide) (by rw [c19]; rfl) rfl ?_
    refine y_iconst C dX6_isSign_106 kc_0 ?_
    have e0 := Option.some.inj h
    subst e0
    exact y_bret (b := false) C E (Nat.zero_le _) (Nat.zero_le _) dX6_isSign_107
  replace h := itF c19 h
  rcases Classical.em (x1 = (59 : Int32)) with c20 | c20
  · have h := itT c20 h
    refine y_tabIn C dX6_isSign_1 (off := 103) (tgt := 104) (by rw [c20]; decide) (by rw [c20]; decide) (by rw [c20]; rfl) rfl ?_
    refine y_iconst C dX6_isSign_104 kc_1 ?_
    have e0 := Option.some.inj h
    subst e0
    exact y_bret (b := true) C E (Nat.zero_le _) (Nat.zero_le _) dX6_isSign_105
  replace h := itF c20 h
  rcases Classical.em (x1 = (60 : Int32)) with c21 | c21
  · have h := itT c21 h
    refine y_tabIn C dX6_isSign_1 (off := 103) (tgt := 104) (by rw [c21]; decide) (by rw [c21]; decide) (by rw [c21]; rfl) rfl ?_
    refine y_iconst C dX6_isSign_104 kc_1 ?_
    have e0 := Option.some.inj h
    subst e0
    exact y_bret (b := true) C E (Nat.zero_le _) (Nat.zero_le _) dX6_isSign_105
  replace h := itF c21 h
  rcases Classical.em (x1 = (61 : Int32)) with c22 | c22
  · have h := itT c22 h
    refine y_tabIn C dX6_isSign_1 (off := 103) (tgt := 104) (by rw [c22]; decide) (by rw [c22]; decide) (by rw [c22]; rfl) rfl ?_
    refine y_iconst C dX6_isSign_104 kc_1 ?_
    have e0 := Option.some.inj h
    subst e0
    exact y_bret (b := true) C E (Nat.zero_le _) (Nat.zero_le _) dX6_isSign_105
  replace h := itF c22 h
  refine y_tabOut C dX6_isSign_1 (tgt := 106) (by have q0 : (x1).toInt ≠ 40 := yNe c1; have q1 : (x1).toInt ≠ 41 := yNe c2; have q2 : (x1).toInt ≠ 42 := yNe c3; have q3 : (x1).toInt ≠ 43 := yNe c4; have q4 : (x1).toInt ≠ 44 := yNe c5; have q5 : (x1).toInt ≠ 45 := yNe c6; have q6 : (x1).toInt ≠ 46 := yNe c7; have q7 : (x1).toInt ≠ 47 := yNe c8; have q8 : (x1).toInt ≠ 48 := yNe c9; have q9 : (x1).toInt ≠ 49 := yNe c10; have q10 : (x1).toInt ≠ 50 := yNe c11; have q11 : (x1).toInt ≠ 51 := yNe c12; have q12 : (x1).toInt ≠ 52 := yNe c13; have q13 : (x1).toInt ≠ 53 := yNe c14; have q14 : (x1).toInt ≠ 54 := yNe c15; have q15 : (x1).toInt ≠ 55 := yNe c16; have q16 : (x1).toInt ≠ 56 := yNe c17; have q17 : (x1).toInt ≠ 57 := yNe c18; have q18 : (x1).toInt ≠ 58 := yNe c19; have q19 : (x1).toInt ≠ 59 := yNe c20; have q20 : (x1).toInt ≠ 60 := yNe c21; have q21 : (x1).toInt ≠ 61 := yNe c22; omega) rfl ?_
  refine y_iconst C dX6_isSign_106 kc_0 ?_
  have e0 := Option.some.inj h
  subst e0
  exact y_bret (b := false) C E (Nat.zero_le _) (Nat.zero_le _) dX6_isSign_107
def b_X6_isSpelled_15 (K : yK) (M : yM) (t_0 : Nat) (t_1 : Nat) (x_2 : Int32) : Nat → Int32 → Option (Unit ⊕ Bool)
  | 0, _ => none
  | n + 1, u15_4 => (if 1000001 ≤ t_0 ∧ t_0 < 1000013 then (Option.bind (b_J0_length_8abf5 K M t_0) fun r2 => (if r2 ≤ u15_4 then (some (.inl ())) else (if 1000001 ≤ t_0 ∧ t_0 < 1000013 then (Option.bind (b_J0_charAt_5068e K M t_0 u15_4) fun r5 => (if gA K t_1 (x_2 + u15_4) = true then (if r5 = (M t_1 ((x_2 + u15_4)).toNatClampNeg) then (Option.bind (some (u15_4 + (1 : Int32))) fun v8 => (b_X6_isSpelled_15 K M t_0 t_1 x_2 n v8)) else (some (.inr false))) else none)) else none))) else none)
set_option maxHeartbeats 4000000 in
set_option maxRecDepth 100000 in
theorem l_X6_isSpelled_15 {X : yX} {K : yK} {M : yM} {K0 : yK} {M0 : yM} {t_0 : Nat} {t_1 : Nat} {x_2 : Int32} (C : yCx X cX6_isSpelled RX6 "isSpelled" rm_X6_isSpelled 5) : ∀ (n : Nat) (u15_4 : Int32) (x : (Unit ⊕ Bool)), b_X6_isSpelled_15 K M t_0 t_1 x_2 n u15_4 = some x → ∀ (hX : ∀ x8, x = .inl x8 → Y X K M 0 0 47 [] []), ∀ (hE : ∀ x9, x = .inr x9 → yRt X (Option.some Jvm.ClassFile.FieldType.boolean) K0 M0 ((yFb K M) x9).1 ((yFb K M) x9).2.1 ((yFb K M) x9).2.2 0 0), Y X K M 0 0 15 [(0, .ref t_0), (1, .ref t_1), (2, .int x_2), (4, .int u15_4)] [] := by
  intro n
  induction n with
  | zero =>
    intro u15_4 x h
    exact nomatch (show (none : Option _) = some x from h)
  | succ n ih =>
    intro u15_4 x h hX hE
    rw [b_X6_isSpelled_15] at h
    refine y_iload C dX6_isSpelled_15 rfl ?_
    refine y_aload_n C dX6_isSpelled_17 rfl ?_
    obtain ⟨g1, h⟩ := gp h
    obtain ⟨r2, hr2, h⟩ := ob h
    refine y_cStr C [] (m_J0_length_8abf5 K M t_0) hr2 g1 cw_X6_69 rfl (by decide) ⟨rfl, rfl⟩ ⟨Nat.zero_le _, Nat.zero_le _⟩ (Nat.le_of_ble_eq_true rfl) rfl rfl rfl dX6_isSpelled_18 ?_
    refine y_icmp_ge C dX6_isSpelled_21 (tgt := 47) rfl (fun c3 => ?_) (fun c3 => ?_)
    · have h := itT c3 h
      have e0 := Option.some.inj h
      subst e0
      exact y_sel [] rfl (hX _ rfl)
    · have h := itF c3 h
      refine y_aload_n C dX6_isSpelled_24 rfl ?_
      refine y_iload C dX6_isSpelled_25 rfl ?_
      obtain ⟨g4, h⟩ := gp h
      obtain ⟨r5, hr5, h⟩ := ob h
      refine y_cStr C [.int u15_4] (m_J0_charAt_5068e K M t_0 u15_4) hr5 g4 cw_X6_75 rfl (by decide) ⟨rfl, rfl⟩ ⟨Nat.zero_le _, Nat.zero_le _⟩ (Nat.le_of_ble_eq_true rfl) rfl rfl rfl dX6_isSpelled_27 ?_
      refine y_aload_n C dX6_isSpelled_30 rfl ?_
      refine y_iload_n C dX6_isSpelled_31 rfl ?_
      refine y_iload C dX6_isSpelled_32 rfl ?_
      refine y_iadd C dX6_isSpelled_34 ?_
      obtain ⟨g6, h⟩ := gd h
      refine y_iald C g6 dX6_isSpelled_35 ?_
      refine y_icmp_eq C dX6_isSpelled_36 (tgt := 41) rfl (fun c7 => ?_) (fun c7 => ?_)
      · have h := itT c7 h
        obtain ⟨v8, ev8, h⟩ := ob h
        have ev8 := Option.some.inj ev8
        refine y_iinc C dX6_isSpelled_41 (by decide) rfl (v := v8) (by subst ev8; rfl) (L' := [(4, .int v8), (0, .ref t_0), (1, .ref t_1), (2, .int x_2)]) rfl ?_
        refine y_goto C dX6_isSpelled_44 (tgt := 15) rfl ?_
        exact y_sel [0, 1, 2, 4] rfl (ih _ _  h hX hE)
      · have h := itF c7 h
        refine y_iconst C dX6_isSpelled_39 kc_0 ?_
        have e0 := Option.some.inj h
        subst e0
        have E := hE _ rfl
        exact y_bret (b := false) C E (Nat.zero_le _) (Nat.zero_le _) dX6_isSpelled_40
set_option maxRecDepth 100000 in
def b_X6_isSpelled (K : yK) (M : yM) (a1 : Nat) (a2 : Nat) (x3 : Int32) (x4 : Int32) : Option Bool := (if 1000001 ≤ a1 ∧ a1 < 1000013 then (Option.bind (b_J0_length_8abf5 K M a1) fun r2 => (if r2 = (x4 - x3) then (Option.bind (b_X6_isSpelled_15 K M a1 a2 x3 1000 ((0 : Int32))) fun x9 => Sum.elim (fun j4 => (some true)) (fun r9 => (some r9)) x9) else (some false))) else none)
set_option maxHeartbeats 4000000 in
set_option maxRecDepth 100000 in
theorem m_X6_isSpelled (K : yK) (M : yM) (a1 : Nat) (a2 : Nat) (x3 : Int32) (x4 : Int32) : yMet yX6_isSpelled cX6_isSpelled 5 (Option.some Jvm.ClassFile.FieldType.boolean) rm_X6_isSpelled K M [.ref a1, .ref a2, .int x3, .int x4] (b_X6_isSpelled K M a1 a2 x3 x4) (yFb K M) := by
  refine yM_intro (by decide) (Nat.le_of_ble_eq_true rfl) (fun X r h C E => ?_)
  replace C : yCx X cX6_isSpelled RX6 "isSpelled" rm_X6_isSpelled 5 := C
  show Y X K M 0 0 0 [(0, .ref a1), (1, .ref a2), (2, .int x3), (3, .int x4)] []
  unfold b_X6_isSpelled at h
  refine y_aload_n C dX6_isSpelled_0 rfl ?_
  obtain ⟨g1, h⟩ := gp h
  obtain ⟨r2, hr2, h⟩ := ob h
  refine y_cStr C [] (m_J0_length_8abf5 K M a1) hr2 g1 cw_X6_69 rfl (by decide) ⟨rfl, rfl⟩ ⟨Nat.zero_le _, Nat.zero_le _⟩ (Nat.le_of_ble_eq_true rfl) rfl rfl rfl dX6_isSpelled_1 ?_
  refine y_iload_n C dX6_isSpelled_4 rfl ?_
  refine y_iload_n C dX6_isSpelled_5 rfl ?_
  refine y_isub C dX6_isSpelled_6 ?_
  refine y_icmp_eq C dX6_isSpelled_7 (tgt := 12) rfl (fun c3 => ?_) (fun c3 => ?_)
  · have h := itT c3 h
    refine y_iconst C dX6_isSpelled_12 kc_0 ?_
    refine y_istore C dX6_isSpelled_13 (by decide) (L' := [(4, .int (0)), (0, .ref a1), (1, .ref a2), (2, .int x3), (3, .int x4)]) rfl ?_
    obtain ⟨x9, hx9, h⟩ := ob h
    refine y_sel [0, 1, 2, 4] rfl (l_X6_isSpelled_15 (K0 := K) (M0 := M) C 1000 _ _ hx9 (fun j4 e9 => ?_) (fun r9 e9 => ?_))
    · subst e9
      dsimp only [Sum.elim_inl] at h
      refine y_iconst C dX6_isSpelled_47 kc_1 ?_
      have e0 := Option.some.inj h
      subst e0
      exact y_bret (b := true) C E (Nat.zero_le _) (Nat.zero_le _) dX6_isSpelled_48
    · subst e9
      dsimp only [Sum.elim_inr] at h
      have e0 := Option.some.inj h
      subst e0
      exact E
  · have h := itF c3 h
    refine y_iconst C dX6_isSpelled_10 kc_0 ?_
    have e0 := Option.some.inj h
    subst e0
    exact y_bret (b := false) C E (Nat.zero_le _) (Nat.zero_le _) dX6_isSpelled_11
set_option maxRecDepth 100000 in
def b_X6_spelling (K : yK) (M : yM) (x1 : Int32) : Option Nat := (if (x1 - (256 : Int32)) = (0 : Int32) then (some 1000001) else (if (x1 - (256 : Int32)) = (1 : Int32) then (some 1000002) else (if (x1 - (256 : Int32)) = (2 : Int32) then (some 1000003) else (if (x1 - (256 : Int32)) = (3 : Int32) then (some 1000004) else (if (x1 - (256 : Int32)) = (4 : Int32) then (some 1000005) else (if (x1 - (256 : Int32)) = (5 : Int32) then (some 1000006) else (if (x1 - (256 : Int32)) = (6 : Int32) then (some 1000007) else (if (x1 - (256 : Int32)) = (7 : Int32) then (some 1000008) else (if (x1 - (256 : Int32)) = (8 : Int32) then (some 1000009) else (if (x1 - (256 : Int32)) = (9 : Int32) then (some 1000010) else (if (x1 - (256 : Int32)) = (10 : Int32) then (some 1000011) else (some 1000012))))))))))))
set_option maxHeartbeats 4000000 in
set_option maxRecDepth 100000 in
theorem m_X6_spelling (K : yK) (M : yM) (x1 : Int32) : yMet yX6_spelling cX6_spelling 1 (Option.some (Jvm.ClassFile.FieldType.object "java/lang/String")) rm_X6_spelling K M [.int x1] (b_X6_spelling K M x1) (yFr K M) := by
  refine yM_intro (by decide) (Nat.le_of_ble_eq_true rfl) (fun X r h C E => ?_)
  replace C : yCx X cX6_spelling RX6 "spelling" rm_X6_spelling 1 := C
  show Y X K M 0 0 0 [(0, .int x1)] []
  unfold b_X6_spelling at h
  refine y_iload_n C dX6_spelling_0 rfl ?_
  refine y_sipush C dX6_spelling_1 ks_256 ?_
  refine y_isub C dX6_spelling_4 ?_
  rcases Classical.em ((x1 - (256 : Int32)) = (0 : Int32)) with c1 | c1
  · have h := itT c1 h
    refine y_tabIn C dX6_spelling_5 (off := 59) (tgt := 64) (by rw [c1]; decide) (by rw [c1]; decide) (by rw [c1]; rfl) rfl ?_
    refine y_ldcS C (i := 0) (by decide) rfl dX6_spelling_64 ?_
    have e0 := Option.some.inj h
    subst e0
    exact y_aret C E (Or.inl ⟨_, rfl⟩) (Or.inr ⟨_, rfl⟩) (Nat.zero_le _) (Nat.zero_le _) dX6_spelling_66
  replace h := itF c1 h
  rcases Classical.em ((x1 - (256 : Int32)) = (1 : Int32)) with c2 | c2
  · have h := itT c2 h
    refine y_tabIn C dX6_spelling_5 (off := 62) (tgt := 67) (by rw [c2]; decide) (by rw [c2]; decide) (by rw [c2]; rfl) rfl ?_
    refine y_ldcS C (i := 1) (by decide) rfl dX6_spelling_67 ?_
    have e0 := Option.some.inj h
    subst e0
    exact y_aret C E (Or.inl ⟨_, rfl⟩) (Or.inr ⟨_, rfl⟩) (Nat.zero_le _) (Nat.zero_le _) dX6_spelling_69
  replace h := itF c2 h
  rcases Classical.em ((x1 - (256 : Int32)) = (2 : Int32)) with c3 | c3
  · have h := itT c3 h
    refine y_tabIn C dX6_spelling_5 (off := 65) (tgt := 70) (by rw [c3]; decide) (by rw [c3]; decide) (by rw [c3]; rfl) rfl ?_
    refine y_ldcS C (i := 2) (by decide) rfl dX6_spelling_70 ?_
    have e0 := Option.some.inj h
    subst e0
    exact y_aret C E (Or.inl ⟨_, rfl⟩) (Or.inr ⟨_, rfl⟩) (Nat.zero_le _) (Nat.zero_le _) dX6_spelling_72
  replace h := itF c3 h
  rcases Classical.em ((x1 - (256 : Int32)) = (3 : Int32)) with c4 | c4
  · have h := itT c4 h
    refine y_tabIn C dX6_spelling_5 (off := 68) (tgt := 73) (by rw [c4]; decide) (by rw [c4]; decide) (by rw [c4]; rfl) rfl ?_
    refine y_ldcS C (i := 3) (by decide) rfl dX6_spelling_73 ?_
    have e0 := Option.some.inj h
    subst e0
    exact y_aret C E (Or.inl ⟨_, rfl⟩) (Or.inr ⟨_, rfl⟩) (Nat.zero_le _) (Nat.zero_le _) dX6_spelling_75
  replace h := itF c4 h
  rcases Classical.em ((x1 - (256 : Int32)) = (4 : Int32)) with c5 | c5
  · have h := itT c5 h
    refine y_tabIn C dX6_spelling_5 (off := 71) (tgt := 76) (by rw [c5]; decide) (by rw [c5]; decide) (by rw [c5]; rfl) rfl ?_
    refine y_ldcS C (i := 4) (by decide) rfl dX6_spelling_76 ?_
    have e0 := Option.some.inj h
    subst e0
    exact y_aret C E (Or.inl ⟨_, rfl⟩) (Or.inr ⟨_, rfl⟩) (Nat.zero_le _) (Nat.zero_le _) dX6_spelling_78
  replace h := itF c5 h
  rcases Classical.em ((x1 - (256 : Int32)) = (5 : Int32)) with c6 | c6
  · have h := itT c6 h
    refine y_tabIn C dX6_spelling_5 (off := 74) (tgt := 79) (by rw [c6]; decide) (by rw [c6]; decide) (by rw [c6]; rfl) rfl ?_
    refine y_ldcS C (i := 5) (by decide) rfl dX6_spelling_79 ?_
    have e0 := Option.some.inj h
    subst e0
    exact y_aret C E (Or.inl ⟨_, rfl⟩) (Or.inr ⟨_, rfl⟩) (Nat.zero_le _) (Nat.zero_le _) dX6_spelling_81
  replace h := itF c6 h
  rcases Classical.em ((x1 - (256 : Int32)) = (6 : Int32)) with c7 | c7
  · have h := itT c7 h
    refine y_tabIn C dX6_spelling_5 (off := 77) (tgt := 82) (by rw [c7]; decide) (by rw [c7]; decide) (by rw [c7]; rfl) rfl ?_
    refine y_ldcS C (i := 6) (by decide) rfl dX6_spelling_82 ?_
    have e0 := Option.some.inj h
    subst e0
    exact y_aret C E (Or.inl ⟨_, rfl⟩) (Or.inr ⟨_, rfl⟩) (Nat.zero_le _) (Nat.zero_le _) dX6_spelling_84
  replace h := itF c7 h
  rcases Classical.em ((x1 - (256 : Int32)) = (7 : Int32)) with c8 | c8
  · have h := itT c8 h
    refine y_tabIn C dX6_spelling_5 (off := 80) (tgt := 85) (by rw [c8]; decide) (by rw [c8]; decide) (by rw [c8]; rfl) rfl ?_
    refine y_ldcS C (i := 7) (by decide) rfl dX6_spelling_85 ?_
    have e0 := Option.some.inj h
    subst e0
    exact y_aret C E (Or.inl ⟨_, rfl⟩) (Or.inr ⟨_, rfl⟩) (Nat.zero_le _) (Nat.zero_le _) dX6_spelling_87
  replace h := itF c8 h
  rcases Classical.em ((x1 - (256 : Int32)) = (8 : Int32)) with c9 | c9
  · have h := itT c9 h
    refine y_tabIn C dX6_spelling_5 (off := 83) (tgt := 88) (by rw [c9]; decide) (by rw [c9]; decide) (by rw [c9]; rfl) rfl ?_
    refine y_ldcS C (i := 8) (by decide) rfl dX6_spelling_88 ?_
    have e0 := Option.some.inj h
    subst e0
    exact y_aret C E (Or.inl ⟨_, rfl⟩) (Or.inr ⟨_, rfl⟩) (Nat.zero_le _) (Nat.zero_le _) dX6_spelling_90
  replace h := itF c9 h
  rcases Classical.em ((x1 - (256 : Int32)) = (9 : Int32)) with c10 | c10
  · have h := itT c10 h
    refine y_tabIn C dX6_spelling_5 (off := 86) (tgt := 91) (by rw [c10]; decide) (by rw [c10]; decide) (by rw [c10]; rfl) rfl ?_
    refine y_ldcS C (i := 9) (by decide) rfl dX6_spelling_91 ?_
    have e0 := Option.some.inj h
    subst e0
    exact y_aret C E (Or.inl ⟨_, rfl⟩) (Or.inr ⟨_, rfl⟩) (Nat.zero_le _) (Nat.zero_le _) dX6_spelling_93
  replace h := itF c10 h
  rcases Classical.em ((x1 - (256 : Int32)) = (10 : Int32)) with c11 | c11
  · have h := itT c11 h
    refine y_tabIn C dX6_spelling_5 (off := 89) (tgt := 94) (by rw [c11]; decide) (by rw [c11]; decide) (by rw [c11]; rfl) rfl ?_
    refine y_ldcS C (i := 10) (by decide) rfl dX6_spelling_94 ?_
    have e0 := Option.some.inj h
    subst e0
    exact y_aret C E (Or.inl ⟨_, rfl⟩) (Or.inr ⟨_, rfl⟩) (Nat.zero_le _) (Nat.zero_le _) dX6_spelling_96
  replace h := itF c11 h
  refine y_tabOut C dX6_spelling_5 (tgt := 97) (by have q0 : ((x1 - (256 : Int32))).toInt ≠ 0 := yNe c1; have q1 : ((x1 - (256 : Int32))).toInt ≠ 1 := yNe c2; have q2 : ((x1 - (256 : Int32))).toInt ≠ 2 := yNe c3; have q3 : ((x1 - (256 : Int32))).toInt ≠ 3 := yNe c4; have q4 : ((x1 - (256 : Int32))).toInt ≠ 4 := yNe c5; have q5 : ((x1 - (256 : Int32))).toInt ≠ 5 := yNe c6; have q6 : ((x1 - (256 : Int32))).toInt ≠ 6 := yNe c7; have q7 : ((x1 - (256 : Int32))).toInt ≠ 7 := yNe c8; have q8 : ((x1 - (256 : Int32))).toInt ≠ 8 := yNe c9; have q9 : ((x1 - (256 : Int32))).toInt ≠ 9 := yNe c10; have q10 : ((x1 - (256 : Int32))).toInt ≠ 10 := yNe c11; omega) rfl ?_
  refine y_ldcS C (i := 11) (by decide) rfl dX6_spelling_97 ?_
  have e0 := Option.some.inj h
  subst e0
  exact y_aret C E (Or.inl ⟨_, rfl⟩) (Or.inr ⟨_, rfl⟩) (Nat.zero_le _) (Nat.zero_le _) dX6_spelling_99
def b_X6_wordOf_4 (K : yK) (M : yM) (t_0 : Nat) (x_1 : Int32) (x_2 : Int32) : Nat → Int32 → Option (Unit ⊕ Int32)
  | 0, _ => none
  | n + 1, u4_3 => (if (268 : Int32) ≤ u4_3 then (some (.inl ())) else (Option.bind (b_X6_spelling K M u4_3) fun r2 => (Option.bind (b_X6_isSpelled K M r2 t_0 x_1 x_2) fun r3 => (if r3 = true then (some (.inr u4_3)) else (Option.bind (some (u4_3 + (1 : Int32))) fun v5 => (b_X6_wordOf_4 K M t_0 x_1 x_2 n v5))))))
set_option maxHeartbeats 4000000 in
set_option maxRecDepth 100000 in
theorem l_X6_wordOf_4 {X : yX} {K : yK} {M : yM} {K0 : yK} {M0 : yM} {t_0 : Nat} {x_1 : Int32} {x_2 : Int32} (C : yCx X cX6_wordOf RX6 "wordOf" rm_X6_wordOf 4) : ∀ (n : Nat) (u4_3 : Int32) (x : (Unit ⊕ Int32)), b_X6_wordOf_4 K M t_0 x_1 x_2 n u4_3 = some x → ∀ (hX : ∀ x8, x = .inl x8 → Y X K M 0 0 32 [] []), ∀ (hE : ∀ x9, x = .inr x9 → yRt X (Option.some Jvm.ClassFile.FieldType.int) K0 M0 ((yFi K M) x9).1 ((yFi K M) x9).2.1 ((yFi K M) x9).2.2 0 0), Y X K M 0 0 4 [(0, .ref t_0), (1, .int x_1), (2, .int x_2), (3, .int u4_3)] [] := by
  intro n
  induction n with
  | zero =>
    intro u4_3 x h
    exact nomatch (show (none : Option _) = some x from h)
  | succ n ih =>
    intro u4_3 x h hX hE
    rw [b_X6_wordOf_4] at h
    refine y_iload_n C dX6_wordOf_4 rfl ?_
    refine y_sipush C dX6_wordOf_5 ks_268 ?_
    refine y_icmp_ge C dX6_wordOf_8 (tgt := 32) rfl (fun c1 => ?_) (fun c1 => ?_)
    · have h := itT c1 h
      have e0 := Option.some.inj h
      subst e0
      exact y_sel [] rfl (hX _ rfl)
    · have h := itF c1 h
      refine y_iload_n C dX6_wordOf_11 rfl ?_
      obtain ⟨r2, hr2, h⟩ := ob h
      refine y_cS C [.int u4_3] (m_X6_spelling K M u4_3) hr2 cw_X6_61 rfl (by decide) ⟨rfl, rfl⟩ ⟨Nat.zero_le _, Nat.zero_le _⟩ (Nat.le_of_ble_eq_true rfl) rfl rfl rfl dX6_wordOf_12 ?_
      refine y_aload_n C dX6_wordOf_15 rfl ?_
      refine y_iload_n C dX6_wordOf_16 rfl ?_
      refine y_iload_n C dX6_wordOf_17 rfl ?_
      obtain ⟨r3, hr3, h⟩ := ob h
      refine y_cS C [.ref r2, .ref t_0, .int x_1, .int x_2] (m_X6_isSpelled K M r2 t_0 x_1 x_2) hr3 cw_X6_65 rfl (by decide) ⟨rfl, rfl⟩ ⟨Nat.zero_le _, Nat.zero_le _⟩ (Nat.le_of_ble_eq_true rfl) rfl rfl rfl dX6_wordOf_18 ?_
      refine y_ifeqB C dX6_wordOf_21 (tgt := 26) rfl (fun c4 => ?_) (fun c4 => ?_)
      · have h := itFb c4 h
        obtain ⟨v5, ev5, h⟩ := ob h
        have ev5 := Option.some.inj ev5
        refine y_iinc C dX6_wordOf_26 (by decide) rfl (v := v5) (by subst ev5; rfl) (L' := [(3, .int v5), (0, .ref t_0), (1, .int x_1), (2, .int x_2)]) rfl ?_
        refine y_goto C dX6_wordOf_29 (tgt := 4) rfl ?_
        exact y_sel [0, 1, 2, 3] rfl (ih _ _  h hX hE)
      · have h := itT c4 h
        refine y_iload_n C dX6_wordOf_24 rfl ?_
        have e0 := Option.some.inj h
        subst e0
        have E := hE _ rfl
        exact y_iret C E (Nat.zero_le _) (Nat.zero_le _) dX6_wordOf_25
set_option maxRecDepth 100000 in
def b_X6_wordOf (K : yK) (M : yM) (a1 : Nat) (x2 : Int32) (x3 : Int32) : Option Int32 := (Option.bind (b_X6_wordOf_4 K M a1 x2 x3 1000 ((256 : Int32))) fun x9 => Sum.elim (fun j1 => (some (-1 : Int32))) (fun r9 => (some r9)) x9)
set_option maxHeartbeats 4000000 in
set_option maxRecDepth 100000 in
theorem m_X6_wordOf (K : yK) (M : yM) (a1 : Nat) (x2 : Int32) (x3 : Int32) : yMet yX6_wordOf cX6_wordOf 4 (Option.some Jvm.ClassFile.FieldType.int) rm_X6_wordOf K M [.ref a1, .int x2, .int x3] (b_X6_wordOf K M a1 x2 x3) (yFi K M) := by
  refine yM_intro (by decide) (Nat.le_of_ble_eq_true rfl) (fun X r h C E => ?_)
  replace C : yCx X cX6_wordOf RX6 "wordOf" rm_X6_wordOf 4 := C
  show Y X K M 0 0 0 [(0, .ref a1), (1, .int x2), (2, .int x3)] []
  unfold b_X6_wordOf at h
  refine y_sipush C dX6_wordOf_0 ks_256 ?_
  refine y_istore_n C dX6_wordOf_3 (by decide) (L' := [(3, .int (256)), (0, .ref a1), (1, .int x2), (2, .int x3)]) rfl ?_
  obtain ⟨x9, hx9, h⟩ := ob h
  refine y_sel [0, 1, 2, 3] rfl (l_X6_wordOf_4 (K0 := K) (M0 := M) C 1000 _ _ hx9 (fun j1 e9 => ?_) (fun r9 e9 => ?_))
  · subst e9
    dsimp only [Sum.elim_inl] at h
    refine y_iconst C dX6_wordOf_32 kc_m1 ?_
    have e0 := Option.some.inj h
    subst e0
    exact y_iret C E (Nat.zero_le _) (Nat.zero_le _) dX6_wordOf_33
  · subst e9
    dsimp only [Sum.elim_inr] at h
    have e0 := Option.some.inj h
    subst e0
    exact E
set_option maxRecDepth 100000 in
def b_X6_tokenOf (K : yK) (M : yM) (a1 : Nat) (x2 : Int32) (x3 : Int32) : Option Int32 := (if gA K a1 x2 = true then (Option.bind (b_X6_isLetter K M ((M a1 (x2).toNatClampNeg))) fun r2 => (if r2 = true then (Option.bind (b_X6_wordOf K M a1 x2 x3) fun r9 => (some r9)) else (Option.bind (b_X6_isDigit K M ((M a1 (x2).toNatClampNeg))) fun r4 => (if r4 = true then (if (x3 - x2) ≤ (4 : Int32) then (some (1 : Int32)) else (some (-1 : Int32))) else (Option.bind (b_X6_isSign K M ((M a1 (x2).toNatClampNeg))) fun r6 => (if r6 = true then (some (M a1 (x2).toNatClampNeg)) else (some (-1 : Int32)))))))) else none)
set_option maxHeartbeats 4000000 in
set_option maxRecDepth 100000 in
theorem m_X6_tokenOf (K : yK) (M : yM) (a1 : Nat) (x2 : Int32) (x3 : Int32) : yMet yX6_tokenOf cX6_tokenOf 3 (Option.some Jvm.ClassFile.FieldType.int) rm_X6_tokenOf K M [.ref a1, .int x2, .int x3] (b_X6_tokenOf K M a1 x2 x3) (yFi K M) := by
  refine yM_intro (by decide) (Nat.le_of_ble_eq_true rfl) (fun X r h C E => ?_)
  replace C : yCx X cX6_tokenOf RX6 "tokenOf" rm_X6_tokenOf 3 := C
  show Y X K M 0 0 0 [(0, .ref a1), (1, .int x2), (2, .int x3)] []
  unfold b_X6_tokenOf at h
  refine y_aload_n C dX6_tokenOf_0 rfl ?_
  refine y_iload_n C dX6_tokenOf_1 rfl ?_
  obtain ⟨g1, h⟩ := gd h
  refine y_iald C g1 dX6_tokenOf_2 ?_
  obtain ⟨r2, hr2, h⟩ := ob h
  refine y_cS C [.int (M a1 (x2).toNatClampNeg)] (m_X6_isLetter K M ((M a1 (x2).toNatClampNeg))) hr2 cw_X6_49 rfl (by decide) ⟨rfl, rfl⟩ ⟨Nat.zero_le _, Nat.zero_le _⟩ (Nat.le_of_ble_eq_true rfl) rfl rfl rfl dX6_tokenOf_3 ?_
  refine y_ifeqB C dX6_tokenOf_6 (tgt := 16) rfl (fun c3 => ?_) (fun c3 => ?_)
  · have h := itFb c3 h
    refine y_aload_n C dX6_tokenOf_16 rfl ?_
    refine y_iload_n C dX6_tokenOf_17 rfl ?_
    refine y_iald C g1 dX6_tokenOf_18 ?_
    obtain ⟨r4, hr4, h⟩ := ob h
    refine y_cS C [.int (M a1 (x2).toNatClampNeg)] (m_X6_isDigit K M ((M a1 (x2).toNatClampNeg))) hr4 cw_X6_52 rfl (by decide) ⟨rfl, rfl⟩ ⟨Nat.zero_le _, Nat.zero_le _⟩ (Nat.le_of_ble_eq_true rfl) rfl rfl rfl dX6_tokenOf_19 ?_
    refine y_ifeqB C dX6_tokenOf_22 (tgt := 38) rfl (fun c5 => ?_) (fun c5 => ?_)
    · have h := itFb c5 h
      refine y_aload_n C dX6_tokenOf_38 rfl ?_
      refine y_iload_n C dX6_tokenOf_39 rfl ?_
      refine y_iald C g1 dX6_tokenOf_40 ?_
      obtain ⟨r6, hr6, h⟩ := ob h
      refine y_cS C [.int (M a1 (x2).toNatClampNeg)] (m_X6_isSign K M ((M a1 (x2).toNatClampNeg))) hr6 cw_X6_58 rfl (by decide) ⟨rfl, rfl⟩ ⟨Nat.zero_le _, Nat.zero_le _⟩ (Nat.le_of_ble_eq_true rfl) rfl rfl rfl dX6_tokenOf_41 ?_
      refine y_ifeqB C dX6_tokenOf_44 (tgt := 53) rfl (fun c7 => ?_) (fun c7 => ?_)
      · have h := itFb c7 h
        refine y_iconst C dX6_tokenOf_53 kc_m1 ?_
        have e0 := Option.some.inj h
        subst e0
        exact y_iret C E (Nat.zero_le _) (Nat.zero_le _) dX6_tokenOf_54
      · have h := itT c7 h
        refine y_aload_n C dX6_tokenOf_47 rfl ?_
        refine y_iload_n C dX6_tokenOf_48 rfl ?_
        refine y_iald C g1 dX6_tokenOf_49 ?_
        refine y_goto C dX6_tokenOf_50 (tgt := 54) rfl ?_
        have e0 := Option.some.inj h
        subst e0
        exact y_iret C E (Nat.zero_le _) (Nat.zero_le _) dX6_tokenOf_54
    · have h := itT c5 h
      refine y_iload_n C dX6_tokenOf_25 rfl ?_
      refine y_iload_n C dX6_tokenOf_26 rfl ?_
      refine y_isub C dX6_tokenOf_27 ?_
      refine y_iconst C dX6_tokenOf_28 kc_4 ?_
      refine y_icmp_le C dX6_tokenOf_29 (tgt := 36) rfl (fun c8 => ?_) (fun c8 => ?_)
      · have h := itT c8 h
        refine y_iconst C dX6_tokenOf_36 kc_1 ?_
        have e0 := Option.some.inj h
        subst e0
        exact y_iret C E (Nat.zero_le _) (Nat.zero_le _) dX6_tokenOf_37
      · have h := itF c8 h
        refine y_iconst C dX6_tokenOf_32 kc_m1 ?_
        refine y_goto C dX6_tokenOf_33 (tgt := 37) rfl ?_
        have e0 := Option.some.inj h
        subst e0
        exact y_iret C E (Nat.zero_le _) (Nat.zero_le _) dX6_tokenOf_37
  · have h := itT c3 h
    refine y_aload_n C dX6_tokenOf_9 rfl ?_
    refine y_iload_n C dX6_tokenOf_10 rfl ?_
    refine y_iload_n C dX6_tokenOf_11 rfl ?_
    obtain ⟨r9, hr9, h⟩ := ob h
    refine y_cS C [.ref a1, .int x2, .int x3] (m_X6_wordOf K M a1 x2 x3) hr9 cw_X6_55 rfl (by decide) ⟨rfl, rfl⟩ ⟨Nat.zero_le _, Nat.zero_le _⟩ (Nat.le_of_ble_eq_true rfl) rfl rfl rfl dX6_tokenOf_12 ?_
    have e0 := Option.some.inj h
    subst e0
    exact y_iret C E (Nat.zero_le _) (Nat.zero_le _) dX6_tokenOf_15
def b_X6_scan_18 (K : yK) (t : Nat) (t_1 : Nat) (x_2 : Int32) (x_3 : Int32) : Nat → yM → Int32 → Int32 → Option yM
  | 0, _, _, _ => none
  | n + 1, M, u18_4, u18_5 => (if (160 : Int32) ≤ u18_5 then (some M) else (if x_3 ≤ u18_4 then (some M) else (Option.bind (b_X6_endOfToken K M t_1 u18_4 x_3) fun r3 => (if gA K t_1 u18_4 = true then (Option.bind (b_X6_isBlank K M ((M t_1 (u18_4).toNatClampNeg))) fun r5 => (Option.bind (if r5 = true then (some M) else (Option.bind (b_X6_tokenOf K M t_1 u18_4 r3) fun r8 => (Option.bind (b_X6_numberOf K M t_1 u18_4 r3) fun r9 => (if gO K t 5 = true then (Option.bind (b_X6_append K M t r8 u18_4 r9) fun r11 => (some r11)) else none)))) fun j7 => (Option.bind (some (u18_5 + (1 : Int32))) fun v12 => (b_X6_scan_18 K t t_1 x_2 x_3 n j7 r3 v12)))) else none))))
set_option maxHeartbeats 4000000 in
set_option maxRecDepth 100000 in
theorem l_X6_scan_18 {X : yX} {K : yK} {t : Nat} {t_1 : Nat} {x_2 : Int32} {x_3 : Int32} (C : yCx X cX6_scan RX6 "scan" rm_X6_scan 7) : ∀ (n : Nat) (M : yM) (u18_4 : Int32) (u18_5 : Int32) (x : yM), b_X6_scan_18 K t t_1 x_2 x_3 n M u18_4 u18_5 = some x → ∀ (hX : Y X K x 0 0 83 [(0, .ref t), (2, .int x_2)] []), Y X K M 0 0 18 [(0, .ref t), (1, .ref t_1), (2, .int x_2), (3, .int x_3), (4, .int u18_4), (5, .int u18_5)] [] := by
  intro n
  induction n with
  | zero =>
    intro M u18_4 u18_5 x h
    exact nomatch (show (none : Option _) = some x from h)
  | succ n ih =>
    intro M u18_4 u18_5 x h hX
    rw [b_X6_scan_18] at h
    refine y_iload C dX6_scan_18 rfl ?_
    refine y_sipush C dX6_scan_20 ks_160 ?_
    refine y_icmp_ge C dX6_scan_23 (tgt := 83) rfl (fun c1 => ?_) (fun c1 => ?_)
    · have h := itT c1 h
      have e0 := Option.some.inj h
      subst e0
      exact y_sel [0, 2] rfl hX
    · have h := itF c1 h
      refine y_iload C dX6_scan_26 rfl ?_
      refine y_iload_n C dX6_scan_28 rfl ?_
      refine y_icmp_ge C dX6_scan_29 (tgt := 83) rfl (fun c2 => ?_) (fun c2 => ?_)
      · have h := itT c2 h
        have e0 := Option.some.inj h
        subst e0
        exact y_sel [0, 2] rfl hX
      · have h := itF c2 h
        refine y_aload_n C dX6_scan_32 rfl ?_
        refine y_iload C dX6_scan_33 rfl ?_
        refine y_iload_n C dX6_scan_35 rfl ?_
        obtain ⟨r3, hr3, h⟩ := ob h
        refine y_cS C [.ref t_1, .int u18_4, .int x_3] (m_X6_endOfToken K M t_1 u18_4 x_3) hr3 cw_X6_31 rfl (by decide) ⟨rfl, rfl⟩ ⟨Nat.zero_le _, Nat.zero_le _⟩ (Nat.le_of_ble_eq_true rfl) rfl rfl rfl dX6_scan_36 ?_
        refine y_istore C dX6_scan_39 (by decide) (L' := [(6, .int r3), (0, .ref t), (1, .ref t_1), (2, .int x_2), (3, .int x_3), (4, .int u18_4), (5, .int u18_5)]) rfl ?_
        refine y_aload_n C dX6_scan_41 rfl ?_
        refine y_iload C dX6_scan_42 rfl ?_
        obtain ⟨g4, h⟩ := gd h
        refine y_iald C g4 dX6_scan_44 ?_
        obtain ⟨r5, hr5, h⟩ := ob h
        refine y_cS C [.int (M t_1 (u18_4).toNatClampNeg)] (m_X6_isBlank K M ((M t_1 (u18_4).toNatClampNeg))) hr5 cw_X6_35 rfl (by decide) ⟨rfl, rfl⟩ ⟨Nat.zero_le _, Nat.zero_le _⟩ (Nat.le_of_ble_eq_true rfl) rfl rfl rfl dX6_scan_45 ?_
        obtain ⟨j7, hj7, h⟩ := ob h
        have hJj7 : Y X K j7 0 0 73 [(6, .int r3), (0, .ref t), (1, .ref t_1), (2, .int x_2), (3, .int x_3), (5, .int u18_5)] [] := by
          refine y_iload C dX6_scan_73 rfl ?_
          refine y_istore C dX6_scan_75 (by decide) (L' := [(4, .int r3), (6, .int r3), (0, .ref t), (1, .ref t_1), (2, .int x_2), (3, .int x_3), (5, .int u18_5)]) rfl ?_
          obtain ⟨v12, ev12, h⟩ := ob h
          have ev12 := Option.some.inj ev12
          refine y_iinc C dX6_scan_77 (by decide) rfl (v := v12) (by subst ev12; rfl) (L' := [(5, .int v12), (4, .int r3), (6, .int r3), (0, .ref t), (1, .ref t_1), (2, .int x_2), (3, .int x_3)]) rfl ?_
          refine y_goto C dX6_scan_80 (tgt := 18) rfl ?_
          exact y_sel [0, 1, 2, 3, 4, 5] rfl (ih _ _ _ _  h hX)
        replace h := hj7
        refine y_ifneB C dX6_scan_48 (tgt := 73) rfl (fun c6 => ?_) (fun c6 => ?_)
        · have h := itT c6 h
          have e0 := Option.some.inj h
          subst e0
          exact y_sel [6, 0, 1, 2, 3, 5] rfl hJj7
        · have h := itFb c6 h
          refine y_aload_n C dX6_scan_51 rfl ?_
          refine y_aload_n C dX6_scan_52 rfl ?_
          refine y_iload C dX6_scan_53 rfl ?_
          refine y_iload C dX6_scan_55 rfl ?_
          obtain ⟨r8, hr8, h⟩ := ob h
          refine y_cS C [.ref t_1, .int u18_4, .int r3] (m_X6_tokenOf K M t_1 u18_4 r3) hr8 cw_X6_39 rfl (by decide) ⟨rfl, rfl⟩ ⟨Nat.zero_le _, Nat.zero_le _⟩ (Nat.le_of_ble_eq_true rfl) rfl rfl rfl dX6_scan_57 ?_
          refine y_iload C dX6_scan_60 rfl ?_
          refine y_aload_n C dX6_scan_62 rfl ?_
          refine y_iload C dX6_scan_63 rfl ?_
          refine y_iload C dX6_scan_65 rfl ?_
          obtain ⟨r9, hr9, h⟩ := ob h
          refine y_cS C [.ref t_1, .int u18_4, .int r3] (m_X6_numberOf K M t_1 u18_4 r3) hr9 cw_X6_42 rfl (by decide) ⟨rfl, rfl⟩ ⟨Nat.zero_le _, Nat.zero_le _⟩ (Nat.le_of_ble_eq_true rfl) rfl rfl rfl dX6_scan_67 ?_
          obtain ⟨g10, h⟩ := gd h
          obtain ⟨r11, hr11, h⟩ := ob h
          refine y_cV C [.int r8, .int u18_4, .int r9] (m_X6_append K M t r8 u18_4 r9) hr11 g10 cw_X6_45 rfl (by decide) ⟨rfl, rfl⟩ ⟨Nat.zero_le _, Nat.zero_le _⟩ (Nat.le_of_ble_eq_true rfl) rfl rfl rfl dX6_scan_70 ?_
          have e0 := Option.some.inj h
          subst e0
          exact y_sel [6, 0, 1, 2, 3, 5] rfl hJj7
set_option maxRecDepth 100000 in
def b_X6_scan (K : yK) (M : yM) (t : Nat) (a1 : Nat) (x2 : Int32) : Option yM := (if gO K t 5 = true then (Option.bind (some (yS M t 3 (0 : Int32))) fun M2 => (if gI K a1 = true then (Option.bind (some (if (Int32.ofNat (K.2.1 a1).2) < x2 then (Int32.ofNat (K.2.1 a1).2) else x2)) fun v4 => (Option.bind (b_X6_scan_18 K t a1 x2 v4 1000 M2 ((0 : Int32)) ((0 : Int32))) fun j5 => (Option.bind (b_X6_append K j5 t ((0 : Int32)) x2 ((0 : Int32))) fun r6 => (some r6)))) else none)) else none)
set_option maxHeartbeats 4000000 in
set_option maxRecDepth 100000 in
theorem m_X6_scan (K : yK) (M : yM) (t : Nat) (a1 : Nat) (x2 : Int32) : yMet yX6_scan cX6_scan 7 none rm_X6_scan K M [.ref t, .ref a1, .int x2] (b_X6_scan K M t a1 x2) (yGv K) := by
  refine yM_intro (by decide) (Nat.le_of_ble_eq_true rfl) (fun X r h C E => ?_)
  replace C : yCx X cX6_scan RX6 "scan" rm_X6_scan 7 := C
  show Y X K M 0 0 0 [(0, .ref t), (1, .ref a1), (2, .int x2)] []
  unfold b_X6_scan at h
  refine y_aload_n C dX6_scan_0 rfl ?_
  refine y_iconst C dX6_scan_1 kc_0 ?_
  obtain ⟨g1, h⟩ := gd h
  obtain ⟨M2, eM2, h⟩ := ob h
  have eM2 := Option.some.inj eM2
  refine y_puti C fl_X6_21 rfl g1 rfl rfl dX6_scan_2 eM2 ?_
  refine y_iload_n C dX6_scan_5 rfl ?_
  refine y_aload_n C dX6_scan_6 rfl ?_
  obtain ⟨g3, h⟩ := gd h
  refine y_alen C g3 dX6_scan_7 ?_
  refine y_min C jm_X6_25 ⟨by decide, Nat.le_of_ble_eq_true rfl, Nat.le_of_ble_eq_true rfl, Nat.le_of_ble_eq_true rfl⟩ dX6_scan_8 ?_
  obtain ⟨v4, ev4, h⟩ := ob h
  have ev4 := Option.some.inj ev4
  refine y_istore_n C dX6_scan_11 (by decide) (L' := [(3, .int v4), (0, .ref t), (1, .ref a1), (2, .int x2)]) (by subst ev4; rfl) ?_
  refine y_iconst C dX6_scan_12 kc_0 ?_
  refine y_istore C dX6_scan_13 (by decide) (L' := [(4, .int (0)), (3, .int v4), (0, .ref t), (1, .ref a1), (2, .int x2)]) rfl ?_
  refine y_iconst C dX6_scan_15 kc_0 ?_
  refine y_istore C dX6_scan_16 (by decide) (L' := [(5, .int (0)), (4, .int (0)), (3, .int v4), (0, .ref t), (1, .ref a1), (2, .int x2)]) rfl ?_
  obtain ⟨j5, hj5, h⟩ := ob h
  refine y_sel [0, 1, 2, 3, 4, 5] rfl (l_X6_scan_18 C 1000 _ _ _ _ hj5 ?_)
  refine y_aload_n C dX6_scan_83 rfl ?_
  refine y_iconst C dX6_scan_84 kc_0 ?_
  refine y_iload_n C dX6_scan_85 rfl ?_
  refine y_iconst C dX6_scan_86 kc_0 ?_
  obtain ⟨r6, hr6, h⟩ := ob h
  refine y_cV C [.int (0 : Int32), .int x2, .int (0 : Int32)] (m_X6_append K j5 t ((0 : Int32)) x2 ((0 : Int32))) hr6 g1 cw_X6_45 rfl (by decide) ⟨rfl, rfl⟩ ⟨Nat.zero_le _, Nat.zero_le _⟩ (Nat.le_of_ble_eq_true rfl) rfl rfl rfl dX6_scan_87 ?_
  have e0 := Option.some.inj h
  subst e0
  exact y_vret C E (Nat.zero_le _) (Nat.zero_le _) dX6_scan_90
