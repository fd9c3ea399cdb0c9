set_option maxRecDepth 100000 in
def b_X0_has (K : yK) (M : yM) (t : Nat) (x1 : Int32) : Option Bool := (if x1 < 0 then (some false) else (if gO K t 0 = true then (if (M t 8) ≤ x1 then (some false) else (if (12 : Int32) ≤ x1 then (some false) else (some true))) else none))
set_option maxHeartbeats 4000000 in
set_option maxRecDepth 100000 in
theorem m_X0_has (K : yK) (M : yM) (t : Nat) (x1 : Int32) : yMet yX0_has cX0_has 2 (Option.some Jvm.ClassFile.FieldType.boolean) rm_X0_has K M [.ref t, .int x1] (b_X0_has K M t x1) (yFb K M) := by
  refine yM_intro (by decide) (Nat.le_of_ble_eq_true rfl) (fun X r h C E => ?_)
  replace C : yCx X cX0_has RX0 "has" rm_X0_has 2 := C
  show Y X K M 0 0 0 [(0, .ref t), (1, .int x1)] []
  unfold b_X0_has at h
  refine y_iload_n C dX0_has_0 rfl ?_
  refine y_if_lt C dX0_has_1 (tgt := 22) rfl (fun c1 => ?_) (fun c1 => ?_)
  · have h := itT c1 h
    refine y_iconst C dX0_has_22 kc_0 ?_
    have e0 := Option.some.inj h
    subst e0
    exact y_bret (b := false) C E (Nat.zero_le _) (Nat.zero_le _) dX0_has_23
  · have h := itF c1 h
    refine y_iload_n C dX0_has_4 rfl ?_
    refine y_aload_n C dX0_has_5 rfl ?_
    obtain ⟨g2, h⟩ := gd h
    refine y_geti C fl_X0_54 g2 dX0_has_6 ?_
    refine y_icmp_ge C dX0_has_9 (tgt := 22) rfl (fun c3 => ?_) (fun c3 => ?_)
    · have h := itT c3 h
      refine y_iconst C dX0_has_22 kc_0 ?_
      have e0 := Option.some.inj h
      subst e0
      exact y_bret (b := false) C E (Nat.zero_le _) (Nat.zero_le _) dX0_has_23
    · have h := itF c3 h
      refine y_iload_n C dX0_has_12 rfl ?_
      refine y_bipush C dX0_has_13 kb_12 ?_
      refine y_icmp_ge C dX0_has_15 (tgt := 22) rfl (fun c4 => ?_) (fun c4 => ?_)
      · have h := itT c4 h
        refine y_iconst C dX0_has_22 kc_0 ?_
        have e0 := Option.some.inj h
        subst e0
        exact y_bret (b := false) C E (Nat.zero_le _) (Nat.zero_le _) dX0_has_23
      · have h := itF c4 h
        refine y_iconst C dX0_has_18 kc_1 ?_
        refine y_goto C dX0_has_19 (tgt := 23) rfl ?_
        have e0 := Option.some.inj h
        subst e0
        exact y_bret (b := true) C E (Nat.zero_le _) (Nat.zero_le _) dX0_has_23
def b_X0_chainOf_7 (K : yK) (M : yM) (t : Nat) : Nat → Int32 → Int32 → Int32 → Option Int32
  | 0, _, _, _ => none
  | n + 1, u7_2, u7_3, u7_4 => (if (12 : Int32) ≤ u7_4 then (some u7_2) else (if gO K t 0 = true then (Option.bind (b_X0_has K M t u7_3) fun r3 => (if r3 = true then (if ((u7_2 >>> (u7_3 &&& 31)) &&& (1 : Int32)) = 0 then (Option.bind (some (u7_2 ||| ((1 : Int32) <<< (u7_3 &&& 31)))) fun v6 => (Option.bind (K.2.2 t 0) fun q7 => (if gA K q7 u7_3 = true then (Option.bind (b_X2_needsNext K M ((M q7 (u7_3).toNatClampNeg))) fun r9 => (Option.bind (if r9 = true then (Option.bind (K.2.2 t 3) fun q12 => (if gA K q12 u7_3 = true then (some (M q12 (u7_3).toNatClampNeg)) else none)) else (some (-1 : Int32))) fun j11 => (Option.bind (some (u7_4 + (1 : Int32))) fun v14 => (b_X0_chainOf_7 K M t n v6 j11 v14)))) else none))) else (some u7_2)) else (some u7_2))) else none))
set_option maxHeartbeats 4000000 in
set_option maxRecDepth 100000 in
theorem l_X0_chainOf_7 {X : yX} {K : yK} {M : yM} {t : Nat} (C : yCx X cX0_chainOf RX0 "chainOf" rm_X0_chainOf 5) : ∀ (n : Nat) (u7_2 : Int32) (u7_3 : Int32) (u7_4 : Int32) (x : Int32), b_X0_chainOf_7 K M t n u7_2 u7_3 u7_4 = some x → ∀ (hX : Y X K M 0 0 65 [(2, .int x)] []), Y X K M 0 0 7 [(0, .ref t), (2, .int u7_2), (3, .int u7_3), (4, .int u7_4)] [] := by
  intro n
  induction n with
  | zero =>
    intro u7_2 u7_3 u7_4 x h
    exact nomatch (show (none : Option _) = some x from h)
  | succ n ih =>
    intro u7_2 u7_3 u7_4 x h hX
    rw [b_X0_chainOf_7] at h
    refine y_iload C dX0_chainOf_7 rfl ?_
    refine y_bipush C dX0_chainOf_9 kb_12 ?_
    refine y_icmp_ge C dX0_chainOf_11 (tgt := 65) rfl (fun c1 => ?_) (fun c1 => ?_)
    · have h := itT c1 h
      have e0 := Option.some.inj h
      subst e0
      exact y_sel [2] rfl hX
    · have h := itF c1 h
      refine y_aload_n C dX0_chainOf_14 rfl ?_
      refine y_iload_n C dX0_chainOf_15 rfl ?_
      obtain ⟨g2, h⟩ := gd h
      obtain ⟨r3, hr3, h⟩ := ob h
      refine y_cV C [.int u7_3] (m_X0_has K M t u7_3) hr3 g2 cw_X0_79 rfl (by decide) ⟨rfl, rfl⟩ ⟨Nat.zero_le _, Nat.zero_le _⟩ (Nat.le_of_ble_eq_true rfl) rfl rfl rfl dX0_chainOf_16 ?_
      refine y_ifeqB C dX0_chainOf_19 (tgt := 65) rfl (fun c4 => ?_) (fun c4 => ?_)
      · have h := itFb c4 h
        have e0 := Option.some.inj h
        subst e0
        exact y_sel [2] rfl hX
      · have h := itT c4 h
        refine y_iload_n C dX0_chainOf_22 rfl ?_
        refine y_iload_n C dX0_chainOf_23 rfl ?_
        refine y_ishr C dX0_chainOf_24 ?_
        refine y_iconst C dX0_chainOf_25 kc_1 ?_
        refine y_iand C dX0_chainOf_26 ?_
        refine y_if_ne C dX0_chainOf_27 (tgt := 65) rfl (fun c5 => ?_) (fun c5 => ?_)
        · have h := itF c5 h
          have e0 := Option.some.inj h
          subst e0
          exact y_sel [2] rfl hX
        · have h := itT c5 h
          refine y_iload_n C dX0_chainOf_30 rfl ?_
          refine y_iconst C dX0_chainOf_31 kc_1 ?_
          refine y_iload_n C dX0_chainOf_32 rfl ?_
          refine y_ishl C dX0_chainOf_33 ?_
          refine y_ior C dX0_chainOf_34 ?_
          obtain ⟨v6, ev6, h⟩ := ob h
          have ev6 := Option.some.inj ev6
          refine y_istore_n C dX0_chainOf_35 (by decide) (L' := [(2, .int v6), (0, .ref t), (3, .int u7_3), (4, .int u7_4)]) (by subst ev6; rfl) ?_
          refine y_aload_n C dX0_chainOf_36 rfl ?_
          obtain ⟨q7, hq7, h⟩ := ob h
          refine y_getr C fl_X0_9 g2 hq7 dX0_chainOf_37 ?_
          refine y_iload_n C dX0_chainOf_40 rfl ?_
          obtain ⟨g8, h⟩ := gd h
          refine y_iald C g8 dX0_chainOf_41 ?_
          obtain ⟨r9, hr9, h⟩ := ob h
          refine y_cS C [.int (M q7 (u7_3).toNatClampNeg)] (m_X2_needsNext K M ((M q7 (u7_3).toNatClampNeg))) hr9 cw_X0_98 rfl (by decide) ⟨rfl, rfl⟩ ⟨Nat.zero_le _, Nat.zero_le _⟩ (Nat.le_of_ble_eq_true rfl) rfl rfl rfl dX0_chainOf_42 ?_
          obtain ⟨j11, hj11, h⟩ := ob h
          have hJj11 : Y X K M 0 0 58 [(2, .int v6), (0, .ref t), (4, .int u7_4)] [.int j11] := by
            refine y_istore_n C dX0_chainOf_58 (by decide) (L' := [(3, .int j11), (2, .int v6), (0, .ref t), (4, .int u7_4)]) rfl ?_
            obtain ⟨v14, ev14, h⟩ := ob h
            have ev14 := Option.some.inj ev14
            refine y_iinc C dX0_chainOf_59 (by decide) rfl (v := v14) (by subst ev14; rfl) (L' := [(4, .int v14), (3, .int j11), (2, .int v6), (0, .ref t)]) rfl ?_
            refine y_goto C dX0_chainOf_62 (tgt := 7) rfl ?_
            exact y_sel [0, 2, 3, 4] rfl (ih _ _ _ _  h hX)
          replace h := hj11
          refine y_ifeqB C dX0_chainOf_45 (tgt := 57) rfl (fun c10 => ?_) (fun c10 => ?_)
          · have h := itFb c10 h
            refine y_iconst C dX0_chainOf_57 kc_m1 ?_
            have e0 := Option.some.inj h
            subst e0
            exact y_sel [2, 0, 4] rfl hJj11
          · have h := itT c10 h
            refine y_aload_n C dX0_chainOf_48 rfl ?_
            obtain ⟨q12, hq12, h⟩ := ob h
            refine y_getr C fl_X0_21 g2 hq12 dX0_chainOf_49 ?_
            refine y_iload_n C dX0_chainOf_52 rfl ?_
            obtain ⟨g13, h⟩ := gd h
            refine y_iald C g13 dX0_chainOf_53 ?_
            refine y_goto C dX0_chainOf_54 (tgt := 58) rfl ?_
            have e0 := Option.some.inj h
            subst e0
            exact y_sel [2, 0, 4] rfl hJj11
set_option maxRecDepth 100000 in
def b_X0_chainOf (K : yK) (M : yM) (t : Nat) (x1 : Int32) : Option Int32 := (Option.bind (b_X0_chainOf_7 K M t 1000 ((0 : Int32)) x1 ((0 : Int32))) fun j1 => (some j1))
set_option maxHeartbeats 4000000 in
set_option maxRecDepth 100000 in
theorem m_X0_chainOf (K : yK) (M : yM) (t : Nat) (x1 : Int32) : yMet yX0_chainOf cX0_chainOf 5 (Option.some Jvm.ClassFile.FieldType.int) rm_X0_chainOf K M [.ref t, .int x1] (b_X0_chainOf K M t x1) (yFi K M) := by
  refine yM_intro (by decide) (Nat.le_of_ble_eq_true rfl) (fun X r h C E => ?_)
  replace C : yCx X cX0_chainOf RX0 "chainOf" rm_X0_chainOf 5 := C
  show Y X K M 0 0 0 [(0, .ref t), (1, .int x1)] []
  unfold b_X0_chainOf at h
  refine y_iconst C dX0_chainOf_0 kc_0 ?_
  refine y_istore_n C dX0_chainOf_1 (by decide) (L' := [(2, .int (0)), (0, .ref t), (1, .int x1)]) rfl ?_
  refine y_iload_n C dX0_chainOf_2 rfl ?_
  refine y_istore_n C dX0_chainOf_3 (by decide) (L' := [(3, .int x1), (2, .int (0)), (0, .ref t), (1, .int x1)]) rfl ?_
  refine y_iconst C dX0_chainOf_4 kc_0 ?_
  refine y_istore C dX0_chainOf_5 (by decide) (L' := [(4, .int (0)), (3, .int x1), (2, .int (0)), (0, .ref t), (1, .int x1)]) rfl ?_
  obtain ⟨j1, hj1, h⟩ := ob h
  refine y_sel [0, 2, 3, 4] rfl (l_X0_chainOf_7 C 1000 _ _ _ _ hj1 ?_)
  refine y_iload_n C dX0_chainOf_65 rfl ?_
  have e0 := Option.some.inj h
  subst e0
  exact y_iret C E (Nat.zero_le _) (Nat.zero_le _) dX0_chainOf_66
set_option maxRecDepth 100000 in
def b_X0_takesOf (K : yK) (M : yM) (t : Nat) (x1 : Int32) : Option Int32 := (if gO K t 0 = true then (Option.bind (b_X0_has K M t x1) fun r2 => (if r2 = true then (Option.bind (K.2.2 t 0) fun q4 => (if gA K q4 x1 = true then (Option.bind (K.2.2 t 1) fun q6 => (if gA K q6 x1 = true then (Option.bind (K.2.2 t 2) fun q8 => (if gA K q8 x1 = true then (Option.bind (b_X2_takes K M ((M q4 (x1).toNatClampNeg)) ((M q6 (x1).toNatClampNeg)) ((M q8 (x1).toNatClampNeg))) fun r10 => (some r10)) else none)) else none)) else none)) else (some (0 : Int32)))) else none)
set_option maxHeartbeats 4000000 in
set_option maxRecDepth 100000 in
theorem m_X0_takesOf (K : yK) (M : yM) (t : Nat) (x1 : Int32) : yMet yX0_takesOf cX0_takesOf 2 (Option.some Jvm.ClassFile.FieldType.int) rm_X0_takesOf K M [.ref t, .int x1] (b_X0_takesOf K M t x1) (yFi K M) := by
  refine yM_intro (by decide) (Nat.le_of_ble_eq_true rfl) (fun X r h C E => ?_)
  replace C : yCx X cX0_takesOf RX0 "takesOf" rm_X0_takesOf 2 := C
  show Y X K M 0 0 0 [(0, .ref t), (1, .int x1)] []
  unfold b_X0_takesOf at h
  refine y_aload_n C dX0_takesOf_0 rfl ?_
  refine y_iload_n C dX0_takesOf_1 rfl ?_
  obtain ⟨g1, h⟩ := gd h
  obtain ⟨r2, hr2, h⟩ := ob h
  refine y_cV C [.int x1] (m_X0_has K M t x1) hr2 g1 cw_X0_79 rfl (by decide) ⟨rfl, rfl⟩ ⟨Nat.zero_le _, Nat.zero_le _⟩ (Nat.le_of_ble_eq_true rfl) rfl rfl rfl dX0_takesOf_2 ?_
  refine y_ifeqB C dX0_takesOf_5 (tgt := 32) rfl (fun c3 => ?_) (fun c3 => ?_)
  · have h := itFb c3 h
    refine y_iconst C dX0_takesOf_32 kc_0 ?_
    have e0 := Option.some.inj h
    subst e0
    exact y_iret C E (Nat.zero_le _) (Nat.zero_le _) dX0_takesOf_33
  · have h := itT c3 h
    refine y_aload_n C dX0_takesOf_8 rfl ?_
    obtain ⟨q4, hq4, h⟩ := ob h
    refine y_getr C fl_X0_9 g1 hq4 dX0_takesOf_9 ?_
    refine y_iload_n C dX0_takesOf_12 rfl ?_
    obtain ⟨g5, h⟩ := gd h
    refine y_iald C g5 dX0_takesOf_13 ?_
    refine y_aload_n C dX0_takesOf_14 rfl ?_
    obtain ⟨q6, hq6, h⟩ := ob h
    refine y_getr C fl_X0_15 g1 hq6 dX0_takesOf_15 ?_
    refine y_iload_n C dX0_takesOf_18 rfl ?_
    obtain ⟨g7, h⟩ := gd h
    refine y_iald C g7 dX0_takesOf_19 ?_
    refine y_aload_n C dX0_takesOf_20 rfl ?_
    obtain ⟨q8, hq8, h⟩ := ob h
    refine y_getr C fl_X0_18 g1 hq8 dX0_takesOf_21 ?_
    refine y_iload_n C dX0_takesOf_24 rfl ?_
    obtain ⟨g9, h⟩ := gd h
    refine y_iald C g9 dX0_takesOf_25 ?_
    obtain ⟨r10, hr10, h⟩ := ob h
    refine y_cS C [.int (M q4 (x1).toNatClampNeg), .int (M q6 (x1).toNatClampNeg), .int (M q8 (x1).toNatClampNeg)] (m_X2_takes K M ((M q4 (x1).toNatClampNeg)) ((M q6 (x1).toNatClampNeg)) ((M q8 (x1).toNatClampNeg))) hr10 cw_X0_83 rfl (by decide) ⟨rfl, rfl⟩ ⟨Nat.zero_le _, Nat.zero_le _⟩ (Nat.le_of_ble_eq_true rfl) rfl rfl rfl dX0_takesOf_26 ?_
    refine y_goto C dX0_takesOf_29 (tgt := 33) rfl ?_
    have e0 := Option.some.inj h
    subst e0
    exact y_iret C E (Nat.zero_le _) (Nat.zero_le _) dX0_takesOf_33
def b_X0_settle_4 (K : yK) (t : Nat) : Nat → yM → Int32 → Int32 → Option (Int32 × yM)
  | 0, _, _, _ => none
  | n + 1, M, u4_1, u4_2 => (if gO K t 0 = true then (if (M t 8) ≤ u4_2 then (some (u4_1, M)) else (Option.bind (K.2.2 t 5) fun q3 => (if gA K q3 u4_2 = true then (Option.bind (some (yS M q3 (u4_2).toNatClampNeg u4_1)) fun M5 => (Option.bind (b_X0_takesOf K M5 t u4_2) fun r6 => (Option.bind (some (u4_1 + r6)) fun v7 => (Option.bind (K.2.2 t 6) fun q8 => (Option.bind (b_X0_chainOf K M5 t u4_2) fun r9 => (if gA K q8 u4_2 = true then (Option.bind (some (yS M5 q8 (u4_2).toNatClampNeg r9)) fun M11 => (Option.bind (some (u4_2 + (1 : Int32))) fun v12 => (b_X0_settle_4 K t n M11 v7 v12))) else none)))))) else none))) else none)
set_option maxHeartbeats 4000000 in
set_option maxRecDepth 100000 in
theorem l_X0_settle_4 {X : yX} {K : yK} {t : Nat} (C : yCx X cX0_settle RX0 "settle" rm_X0_settle 3) : ∀ (n : Nat) (M : yM) (u4_1 : Int32) (u4_2 : Int32) (x : (Int32 × yM)), b_X0_settle_4 K t n M u4_1 u4_2 = some x → ∀ (hX : Y X K x.2 0 0 44 [(0, .ref t), (1, .int x.1)] []), Y X K M 0 0 4 [(0, .ref t), (1, .int u4_1), (2, .int u4_2)] [] := by
  intro n
  induction n with
  | zero =>
    intro M u4_1 u4_2 x h
    exact nomatch (show (none : Option _) = some x from h)
  | succ n ih =>
    intro M u4_1 u4_2 x h hX
    rw [b_X0_settle_4] at h
    refine y_iload_n C dX0_settle_4 rfl ?_
    refine y_aload_n C dX0_settle_5 rfl ?_
    obtain ⟨g1, h⟩ := gd h
    refine y_geti C fl_X0_54 g1 dX0_settle_6 ?_
    refine y_icmp_ge C dX0_settle_9 (tgt := 44) rfl (fun c2 => ?_) (fun c2 => ?_)
    · have h := itT c2 h
      have e0 := Option.some.inj h
      subst e0
      exact y_sel [0, 1] rfl hX
    · have h := itF c2 h
      refine y_aload_n C dX0_settle_12 rfl ?_
      obtain ⟨q3, hq3, h⟩ := ob h
      refine y_getr C fl_X0_27 g1 hq3 dX0_settle_13 ?_
      refine y_iload_n C dX0_settle_16 rfl ?_
      refine y_iload_n C dX0_settle_17 rfl ?_
      obtain ⟨g4, h⟩ := gd h
      obtain ⟨M5, eM5, h⟩ := ob h
      have eM5 := Option.some.inj eM5
      refine y_iast C g4 dX0_settle_18 eM5 ?_
      refine y_iload_n C dX0_settle_19 rfl ?_
      refine y_aload_n C dX0_settle_20 rfl ?_
      refine y_iload_n C dX0_settle_21 rfl ?_
      obtain ⟨r6, hr6, h⟩ := ob h
      refine y_cV C [.int u4_2] (m_X0_takesOf K M5 t u4_2) hr6 g1 cw_X0_92 rfl (by decide) ⟨rfl, rfl⟩ ⟨Nat.zero_le _, Nat.zero_le _⟩ (Nat.le_of_ble_eq_true rfl) rfl rfl rfl dX0_settle_22 ?_
      refine y_iadd C dX0_settle_25 ?_
      obtain ⟨v7, ev7, h⟩ := ob h
      have ev7 := Option.some.inj ev7
      refine y_istore_n C dX0_settle_26 (by decide) (L' := [(1, .int v7), (0, .ref t), (2, .int u4_2)]) (by subst ev7; rfl) ?_
      refine y_aload_n C dX0_settle_27 rfl ?_
      obtain ⟨q8, hq8, h⟩ := ob h
      refine y_getr C fl_X0_30 g1 hq8 dX0_settle_28 ?_
      refine y_iload_n C dX0_settle_31 rfl ?_
      refine y_aload_n C dX0_settle_32 rfl ?_
      refine y_iload_n C dX0_settle_33 rfl ?_
      obtain ⟨r9, hr9, h⟩ := ob h
      refine y_cV C [.int u4_2] (m_X0_chainOf K M5 t u4_2) hr9 g1 cw_X0_95 rfl (by decide) ⟨rfl, rfl⟩ ⟨Nat.zero_le _, Nat.zero_le _⟩ (Nat.le_of_ble_eq_true rfl) rfl rfl rfl dX0_settle_34 ?_
      obtain ⟨g10, h⟩ := gd h
      obtain ⟨M11, eM11, h⟩ := ob h
      have eM11 := Option.some.inj eM11
      refine y_iast C g10 dX0_settle_37 eM11 ?_
      obtain ⟨v12, ev12, h⟩ := ob h
      have ev12 := Option.some.inj ev12
      refine y_iinc C dX0_settle_38 (by decide) rfl (v := v12) (by subst ev12; rfl) (L' := [(2, .int v12), (1, .int v7), (0, .ref t)]) rfl ?_
      refine y_goto C dX0_settle_41 (tgt := 4) rfl ?_
      exact y_sel [0, 1, 2] rfl (ih _ _ _ _  h hX)
set_option maxRecDepth 100000 in
def b_X0_settle (K : yK) (M : yM) (t : Nat) : Option yM := (Option.bind (b_X0_settle_4 K t 1000 M ((0 : Int32)) ((0 : Int32))) fun j1 => (if gO K t 0 = true then (Option.bind (K.2.2 t 5) fun q3 => (if gA K q3 (j1.2 t 8) = true then (Option.bind (some (yS j1.2 q3 ((j1.2 t 8)).toNatClampNeg j1.1)) fun M5 => (some M5)) else none)) else none))
set_option maxHeartbeats 4000000 in
set_option maxRecDepth 100000 in
theorem m_X0_settle (K : yK) (M : yM) (t : Nat) : yMet yX0_settle cX0_settle 3 none rm_X0_settle K M [.ref t] (b_X0_settle K M t) (yGv K) := by
  refine yM_intro (by decide) (Nat.le_of_ble_eq_true rfl) (fun X r h C E => ?_)
  replace C : yCx X cX0_settle RX0 "settle" rm_X0_settle 3 := C
  show Y X K M 0 0 0 [(0, .ref t)] []
  unfold b_X0_settle at h
  refine y_iconst C dX0_settle_0 kc_0 ?_
  refine y_istore_n C dX0_settle_1 (by decide) (L' := [(1, .int (0)), (0, .ref t)]) rfl ?_
  refine y_iconst C dX0_settle_2 kc_0 ?_
  refine y_istore_n C dX0_settle_3 (by decide) (L' := [(2, .int (0)), (1, .int (0)), (0, .ref t)]) rfl ?_
  obtain ⟨j1, hj1, h⟩ := ob h
  refine y_sel [0, 1, 2] rfl (l_X0_settle_4 C 1000 _ _ _ _ hj1 ?_)
  refine y_aload_n C dX0_settle_44 rfl ?_
  obtain ⟨g2, h⟩ := gd h
  obtain ⟨q3, hq3, h⟩ := ob h
  refine y_getr C fl_X0_27 g2 hq3 dX0_settle_45 ?_
  refine y_aload_n C dX0_settle_48 rfl ?_
  refine y_geti C fl_X0_54 g2 dX0_settle_49 ?_
  refine y_iload_n C dX0_settle_52 rfl ?_
  obtain ⟨g4, h⟩ := gd h
  obtain ⟨M5, eM5, h⟩ := ob h
  have eM5 := Option.some.inj eM5
  refine y_iast C g4 dX0_settle_53 eM5 ?_
  have e0 := Option.some.inj h
  subst e0
  exact y_vret C E (Nat.zero_le _) (Nat.zero_le _) dX0_settle_54
set_option maxRecDepth 100000 in
def b_X0_add (K : yK) (M : yM) (t : Nat) (x1 : Int32) (x2 : Int32) (x3 : Int32) : Option (Bool × yM) := (if gO K t 0 = true then (Option.bind (some (M t 8)) fun v2 => (if v2 < 0 then (some (false, M)) else (if v2 < (12 : Int32) then (Option.bind (K.2.2 t 0) fun q5 => (if gA K q5 v2 = true then (Option.bind (some (yS M q5 (v2).toNatClampNeg (x1 / (10 : Int32)))) fun M7 => (Option.bind (K.2.2 t 1) fun q8 => (if gA K q8 v2 = true then (Option.bind (some (yS M7 q8 (v2).toNatClampNeg (x1 - x1 / (10 : Int32) * (10 : Int32)))) fun M10 => (Option.bind (K.2.2 t 2) fun q11 => (if gA K q11 v2 = true then (Option.bind (some (yS M10 q11 (v2).toNatClampNeg x2)) fun M13 => (Option.bind (K.2.2 t 3) fun q14 => (if gA K q14 v2 = true then (Option.bind (some (yS M13 q14 (v2).toNatClampNeg x3)) fun M16 => (Option.bind (K.2.2 t 4) fun q17 => (if gA K q17 v2 = true then (Option.bind (some (yS M16 q17 (v2).toNatClampNeg (-1 : Int32))) fun M19 => (Option.bind (some (yS M19 t 8 ((M19 t 8) + (1 : Int32)))) fun M20 => (Option.bind (b_X0_settle K M20 t) fun r21 => (some (true, r21))))) else none))) else none))) else none))) else none))) else none)) else (some (false, M))))) else none)
set_option maxHeartbeats 4000000 in
set_option maxRecDepth 100000 in
theorem m_X0_add (K : yK) (M : yM) (t : Nat) (x1 : Int32) (x2 : Int32) (x3 : Int32) : yMet yX0_add cX0_add 5 (Option.some Jvm.ClassFile.FieldType.boolean) rm_X0_add K M [.ref t, .int x1, .int x2, .int x3] (b_X0_add K M t x1 x2 x3) (yGb K) := by
  refine yM_intro (by decide) (Nat.le_of_ble_eq_true rfl) (fun X r h C E => ?_)
  replace C : yCx X cX0_add RX0 "add" rm_X0_add 5 := C
  show Y X K M 0 0 0 [(0, .ref t), (1, .int x1), (2, .int x2), (3, .int x3)] []
  unfold b_X0_add at h
  refine y_aload_n C dX0_add_0 rfl ?_
  obtain ⟨g1, h⟩ := gd h
  refine y_geti C fl_X0_54 g1 dX0_add_1 ?_
  obtain ⟨v2, ev2, h⟩ := ob h
  have ev2 := Option.some.inj ev2
  refine y_istore C dX0_add_4 (by decide) (L' := [(4, .int v2), (0, .ref t), (1, .int x1), (2, .int x2), (3, .int x3)]) (by subst ev2; rfl) ?_
  refine y_iload C dX0_add_6 rfl ?_
  refine y_if_lt C dX0_add_8 (tgt := 18) rfl (fun c3 => ?_) (fun c3 => ?_)
  · have h := itT c3 h
    refine y_iconst C dX0_add_18 kc_0 ?_
    have e0 := Option.some.inj h
    subst e0
    exact y_bret (b := false) C E (Nat.zero_le _) (Nat.zero_le _) dX0_add_19
  · have h := itF c3 h
    refine y_iload C dX0_add_11 rfl ?_
    refine y_bipush C dX0_add_13 kb_12 ?_
    refine y_icmp_lt C dX0_add_15 (tgt := 20) rfl (fun c4 => ?_) (fun c4 => ?_)
    · have h := itT c4 h
      refine y_aload_n C dX0_add_20 rfl ?_
      obtain ⟨q5, hq5, h⟩ := ob h
      refine y_getr C fl_X0_9 g1 hq5 dX0_add_21 ?_
      refine y_iload C dX0_add_24 rfl ?_
      refine y_iload_n C dX0_add_26 rfl ?_
      refine y_bipush C dX0_add_27 kb_10 ?_
      refine y_idiv C dX0_add_29 (by decide) ?_
      obtain ⟨g6, h⟩ := gd h
      obtain ⟨M7, eM7, h⟩ := ob h
      have eM7 := Option.some.inj eM7
      refine y_iast C g6 dX0_add_30 eM7 ?_
      refine y_aload_n C dX0_add_31 rfl ?_
      obtain ⟨q8, hq8, h⟩ := ob h
      refine y_getr C fl_X0_15 g1 hq8 dX0_add_32 ?_
      refine y_iload C dX0_add_35 rfl ?_
      refine y_iload_n C dX0_add_37 rfl ?_
      refine y_bipush C dX0_add_38 kb_10 ?_
      refine y_irem C dX0_add_40 (by decide) ?_
      obtain ⟨g9, h⟩ := gd h
      obtain ⟨M10, eM10, h⟩ := ob h
      have eM10 := Option.some.inj eM10
      refine y_iast C g9 dX0_add_41 eM10 ?_
      refine y_aload_n C dX0_add_42 rfl ?_
      obtain ⟨q11, hq11, h⟩ := ob h
      refine y_getr C fl_X0_18 g1 hq11 dX0_add_43 ?_
      refine y_iload C dX0_add_46 rfl ?_
      refine y_iload_n C dX0_add_48 rfl ?_
      obtain ⟨g12, h⟩ := gd h
      obtain ⟨M13, eM13, h⟩ := ob h
      have eM13 := Option.some.inj eM13
      refine y_iast C g12 dX0_add_49 eM13 ?_
      refine y_aload_n C dX0_add_50 rfl ?_
      obtain ⟨q14, hq14, h⟩ := ob h
      refine y_getr C fl_X0_21 g1 hq14 dX0_add_51 ?_
      refine y_iload C dX0_add_54 rfl ?_
      refine y_iload_n C dX0_add_56 rfl ?_
      obtain ⟨g15, h⟩ := gd h
      obtain ⟨M16, eM16, h⟩ := ob h
      have eM16 := Option.some.inj eM16
      refine y_iast C g15 dX0_add_57 eM16 ?_
      refine y_aload_n C dX0_add_58 rfl ?_
      obtain ⟨q17, hq17, h⟩ := ob h
      refine y_getr C fl_X0_24 g1 hq17 dX0_add_59 ?_
      refine y_iload C dX0_add_62 rfl ?_
      refine y_iconst C dX0_add_64 kc_m1 ?_
      obtain ⟨g18, h⟩ := gd h
      obtain ⟨M19, eM19, h⟩ := ob h
      have eM19 := Option.some.inj eM19
      refine y_iast C g18 dX0_add_65 eM19 ?_
      refine y_aload_n C dX0_add_66 rfl ?_
      refine y_dup C dX0_add_67 rfl ?_
      refine y_geti C fl_X0_54 g1 dX0_add_68 ?_
      refine y_iconst C dX0_add_71 kc_1 ?_
      refine y_iadd C dX0_add_72 ?_
      obtain ⟨M20, eM20, h⟩ := ob h
      have eM20 := Option.some.inj eM20
      refine y_puti C fl_X0_54 rfl g1 rfl rfl dX0_add_73 eM20 ?_
      refine y_aload_n C dX0_add_76 rfl ?_
      obtain ⟨r21, hr21, h⟩ := ob h
      refine y_cV C [] (m_X0_settle K M20 t) hr21 g1 cw_X0_89 rfl (by decide) ⟨rfl, rfl⟩ ⟨Nat.zero_le _, Nat.zero_le _⟩ (Nat.le_of_ble_eq_true rfl) rfl rfl rfl dX0_add_77 ?_
      refine y_iconst C dX0_add_80 kc_1 ?_
      have e0 := Option.some.inj h
      subst e0
      exact y_bret (b := true) C E (Nat.zero_le _) (Nat.zero_le _) dX0_add_81
    · have h := itF c4 h
      refine y_iconst C dX0_add_18 kc_0 ?_
      have e0 := Option.some.inj h
      subst e0
      exact y_bret (b := false) C E (Nat.zero_le _) (Nat.zero_le _) dX0_add_19
set_option maxRecDepth 100000 in
def b_X0_addDeed (K : yK) (M : yM) (t : Nat) (x1 : Int32) : Option (Bool × yM) := (if gO K t 0 = true then (if (M t 9) < 0 then (some (false, M)) else (if (M t 9) < (6 : Int32) then (Option.bind (K.2.2 t 7) fun q4 => (if gA K q4 (M t 9) = true then (Option.bind (some (yS M q4 ((M t 9)).toNatClampNeg x1)) fun M6 => (Option.bind (some (yS M6 t 9 ((M6 t 9) + (1 : Int32)))) fun M7 => (some (true, M7)))) else none)) else (some (false, M)))) else none)
set_option maxHeartbeats 4000000 in
set_option maxRecDepth 100000 in
theorem m_X0_addDeed (K : yK) (M : yM) (t : Nat) (x1 : Int32) : yMet yX0_addDeed cX0_addDeed 2 (Option.some Jvm.ClassFile.FieldType.boolean) rm_X0_addDeed K M [.ref t, .int x1] (b_X0_addDeed K M t x1) (yGb K) := by
  refine yM_intro (by decide) (Nat.le_of_ble_eq_true rfl) (fun X r h C E => ?_)
  replace C : yCx X cX0_addDeed RX0 "addDeed" rm_X0_addDeed 2 := C
  show Y X K M 0 0 0 [(0, .ref t), (1, .int x1)] []
  unfold b_X0_addDeed at h
  refine y_aload_n C dX0_addDeed_0 rfl ?_
  obtain ⟨g1, h⟩ := gd h
  refine y_geti C fl_X0_57 g1 dX0_addDeed_1 ?_
  refine y_if_lt C dX0_addDeed_4 (tgt := 16) rfl (fun c2 => ?_) (fun c2 => ?_)
  · have h := itT c2 h
    refine y_iconst C dX0_addDeed_16 kc_0 ?_
    have e0 := Option.some.inj h
    subst e0
    exact y_bret (b := false) C E (Nat.zero_le _) (Nat.zero_le _) dX0_addDeed_17
  · have h := itF c2 h
    refine y_aload_n C dX0_addDeed_7 rfl ?_
    refine y_geti C fl_X0_57 g1 dX0_addDeed_8 ?_
    refine y_bipush C dX0_addDeed_11 kb_6 ?_
    refine y_icmp_lt C dX0_addDeed_13 (tgt := 18) rfl (fun c3 => ?_) (fun c3 => ?_)
    · have h := itT c3 h
      refine y_aload_n C dX0_addDeed_18 rfl ?_
      obtain ⟨q4, hq4, h⟩ := ob h
      refine y_getr C fl_X0_33 g1 hq4 dX0_addDeed_19 ?_
      refine y_aload_n C dX0_addDeed_22 rfl ?_
      refine y_geti C fl_X0_57 g1 dX0_addDeed_23 ?_
      refine y_iload_n C dX0_addDeed_26 rfl ?_
      obtain ⟨g5, h⟩ := gd h
      obtain ⟨M6, eM6, h⟩ := ob h
      have eM6 := Option.some.inj eM6
      refine y_iast C g5 dX0_addDeed_27 eM6 ?_
      refine y_aload_n C dX0_addDeed_28 rfl ?_
      refine y_dup C dX0_addDeed_29 rfl ?_
      refine y_geti C fl_X0_57 g1 dX0_addDeed_30 ?_
      refine y_iconst C dX0_addDeed_33 kc_1 ?_
      refine y_iadd C dX0_addDeed_34 ?_
      obtain ⟨M7, eM7, h⟩ := ob h
      have eM7 := Option.some.inj eM7
      refine y_puti C fl_X0_57 rfl g1 rfl rfl dX0_addDeed_35 eM7 ?_
      refine y_iconst C dX0_addDeed_38 kc_1 ?_
      have e0 := Option.some.inj h
      subst e0
      exact y_bret (b := true) C E (Nat.zero_le _) (Nat.zero_le _) dX0_addDeed_39
    · have h := itF c3 h
      refine y_iconst C dX0_addDeed_16 kc_0 ?_
      have e0 := Option.some.inj h
      subst e0
      exact y_bret (b := false) C E (Nat.zero_le _) (Nat.zero_le _) dX0_addDeed_17
set_option maxRecDepth 100000 in
def b_X0_allEntries (K : yK) (M : yM) (t : Nat) : Option Int32 := (if gO K t 0 = true then (some (((1 : Int32) <<< ((M t 8) &&& 31)) - (1 : Int32))) else none)
set_option maxHeartbeats 4000000 in
set_option maxRecDepth 100000 in
theorem m_X0_allEntries (K : yK) (M : yM) (t : Nat) : yMet yX0_allEntries cX0_allEntries 1 (Option.some Jvm.ClassFile.FieldType.int) rm_X0_allEntries K M [.ref t] (b_X0_allEntries K M t) (yFi K M) := by
  refine yM_intro (by decide) (Nat.le_of_ble_eq_true rfl) (fun X r h C E => ?_)
  replace C : yCx X cX0_allEntries RX0 "allEntries" rm_X0_allEntries 1 := C
  show Y X K M 0 0 0 [(0, .ref t)] []
  unfold b_X0_allEntries at h
  refine y_iconst C dX0_allEntries_0 kc_1 ?_
  refine y_aload_n C dX0_allEntries_1 rfl ?_
  obtain ⟨g1, h⟩ := gd h
  refine y_geti C fl_X0_54 g1 dX0_allEntries_2 ?_
  refine y_ishl C dX0_allEntries_5 ?_
  refine y_iconst C dX0_allEntries_6 kc_1 ?_
  refine y_isub C dX0_allEntries_7 ?_
  have e0 := Option.some.inj h
  subst e0
  exact y_iret C E (Nat.zero_le _) (Nat.zero_le _) dX0_allEntries_8
set_option maxRecDepth 100000 in
def b_X0_behindOf (K : yK) (M : yM) (t : Nat) (x1 : Int32) : Option Int32 := (if gO K t 0 = true then (Option.bind (K.2.2 t 4) fun q2 => (if gA K q2 x1 = true then (if (M q2 (x1).toNatClampNeg) = (-1 : Int32) then (some (999 : Int32)) else (some (if (0 : Int32) < ((M t 11) - (M q2 (x1).toNatClampNeg)) then ((M t 11) - (M q2 (x1).toNatClampNeg)) else (0 : Int32)))) else none)) else none)
set_option maxHeartbeats 4000000 in
set_option maxRecDepth 100000 in
theorem m_X0_behindOf (K : yK) (M : yM) (t : Nat) (x1 : Int32) : yMet yX0_behindOf cX0_behindOf 2 (Option.some Jvm.ClassFile.FieldType.int) rm_X0_behindOf K M [.ref t, .int x1] (b_X0_behindOf K M t x1) (yFi K M) := by
  refine yM_intro (by decide) (Nat.le_of_ble_eq_true rfl) (fun X r h C E => ?_)
  replace C : yCx X cX0_behindOf RX0 "behindOf" rm_X0_behindOf 2 := C
  show Y X K M 0 0 0 [(0, .ref t), (1, .int x1)] []
  unfold b_X0_behindOf at h
  refine y_aload_n C dX0_behindOf_0 rfl ?_
  obtain ⟨g1, h⟩ := gd h
  obtain ⟨q2, hq2, h⟩ := ob h
  refine y_getr C fl_X0_24 g1 hq2 dX0_behindOf_1 ?_
  refine y_iload_n C dX0_behindOf_4 rfl ?_
  obtain ⟨g3, h⟩ := gd h
  refine y_iald C g3 dX0_behindOf_5 ?_
  refine y_iconst C dX0_behindOf_6 kc_m1 ?_
  refine y_icmp_ne C dX0_behindOf_7 (tgt := 16) rfl (fun c4 => ?_) (fun c4 => ?_)
  · have h := itF c4 h
    refine y_iconst C dX0_behindOf_16 kc_0 ?_
    refine y_aload_n C dX0_behindOf_17 rfl ?_
    refine y_geti C fl_X0_63 g1 dX0_behindOf_18 ?_
    refine y_aload_n C dX0_behindOf_21 rfl ?_
    refine y_getr C fl_X0_24 g1 hq2 dX0_behindOf_22 ?_
    refine y_iload_n C dX0_behindOf_25 rfl ?_
    refine y_iald C g3 dX0_behindOf_26 ?_
    refine y_isub C dX0_behindOf_27 ?_
    refine y_max C jm_X0_139 ⟨by decide, Nat.le_of_ble_eq_true rfl, Nat.le_of_ble_eq_true rfl, Nat.le_of_ble_eq_true rfl⟩ dX0_behindOf_28 ?_
    have e0 := Option.some.inj h
    subst e0
    exact y_iret C E (Nat.zero_le _) (Nat.zero_le _) dX0_behindOf_31
  · have h := itT c4 h
    refine y_sipush C dX0_behindOf_10 ks_999 ?_
    refine y_goto C dX0_behindOf_13 (tgt := 31) rfl ?_
    have e0 := Option.some.inj h
    subst e0
    exact y_iret C E (Nat.zero_le _) (Nat.zero_le _) dX0_behindOf_31
def b_X0_canDo_4 (K : yK) (M : yM) (t : Nat) (x_1 : Int32) : Nat → Int32 → Int32 → Option Int32
  | 0, _, _ => none
  | n + 1, u4_2, u4_3 => (if gO K t 0 = true then (if (M t 9) ≤ u4_3 then (some u4_2) else (Option.bind (K.2.2 t 7) fun q3 => (if gA K q3 u4_3 = true then (Option.bind (if ((M q3 (u4_3).toNatClampNeg) &&& (x_1 ^^^ (-1 : Int32))) = 0 then (Option.bind (some (u4_2 ||| ((1 : Int32) <<< (u4_3 &&& 31)))) fun v7 => (some v7)) else (some u4_2)) fun j6 => (Option.bind (some (u4_3 + (1 : Int32))) fun v8 => (b_X0_canDo_4 K M t x_1 n j6 v8))) else none))) else none)
set_option maxHeartbeats 4000000 in
set_option maxRecDepth 100000 in
theorem l_X0_canDo_4 {X : yX} {K : yK} {M : yM} {t : Nat} {x_1 : Int32} (C : yCx X cX0_canDo RX0 "canDo" rm_X0_canDo 4) : ∀ (n : Nat) (u4_2 : Int32) (u4_3 : Int32) (x : Int32), b_X0_canDo_4 K M t x_1 n u4_2 u4_3 = some x → ∀ (hX : Y X K M 0 0 37 [(2, .int x)] []), Y X K M 0 0 4 [(0, .ref t), (1, .int x_1), (2, .int u4_2), (3, .int u4_3)] [] := by
  intro n
  induction n with
  | zero =>
    intro u4_2 u4_3 x h
    exact nomatch (show (none : Option _) = some x from h)
  | succ n ih =>
    intro u4_2 u4_3 x h hX
    rw [b_X0_canDo_4] at h
    refine y_iload_n C dX0_canDo_4 rfl ?_
    refine y_aload_n C dX0_canDo_5 rfl ?_
    obtain ⟨g1, h⟩ := gd h
    refine y_geti C fl_X0_57 g1 dX0_canDo_6 ?_
    refine y_icmp_ge C dX0_canDo_9 (tgt := 37) rfl (fun c2 => ?_) (fun c2 => ?_)
    · have h := itT c2 h
      have e0 := Option.some.inj h
      subst e0
      exact y_sel [2] rfl hX
    · have h := itF c2 h
      refine y_aload_n C dX0_canDo_12 rfl ?_
      obtain ⟨q3, hq3, h⟩ := ob h
      refine y_getr C fl_X0_33 g1 hq3 dX0_canDo_13 ?_
      refine y_iload_n C dX0_canDo_16 rfl ?_
      obtain ⟨g4, h⟩ := gd h
      refine y_iald C g4 dX0_canDo_17 ?_
      refine y_iload_n C dX0_canDo_18 rfl ?_
      refine y_iconst C dX0_canDo_19 kc_m1 ?_
      refine y_ixor C dX0_canDo_20 ?_
      refine y_iand C dX0_canDo_21 ?_
      obtain ⟨j6, hj6, h⟩ := ob h
      have hJj6 : Y X K M 0 0 31 [(0, .ref t), (1, .int x_1), (2, .int j6), (3, .int u4_3)] [] := by
        obtain ⟨v8, ev8, h⟩ := ob h
        have ev8 := Option.some.inj ev8
        refine y_iinc C dX0_canDo_31 (by decide) rfl (v := v8) (by subst ev8; rfl) (L' := [(3, .int v8), (0, .ref t), (1, .int x_1), (2, .int j6)]) rfl ?_
        refine y_goto C dX0_canDo_34 (tgt := 4) rfl ?_
        exact y_sel [0, 1, 2, 3] rfl (ih _ _ _  h hX)
      replace h := hj6
      refine y_if_ne C dX0_canDo_22 (tgt := 31) rfl (fun c5 => ?_) (fun c5 => ?_)
      · have h := itF c5 h
        have e0 := Option.some.inj h
        subst e0
        exact y_sel [0, 1, 2, 3] rfl hJj6
      · have h := itT c5 h
        refine y_iload_n C dX0_canDo_25 rfl ?_
        refine y_iconst C dX0_canDo_26 kc_1 ?_
        refine y_iload_n C dX0_canDo_27 rfl ?_
        refine y_ishl C dX0_canDo_28 ?_
        refine y_ior C dX0_canDo_29 ?_
        obtain ⟨v7, ev7, h⟩ := ob h
        have ev7 := Option.some.inj ev7
        refine y_istore_n C dX0_canDo_30 (by decide) (L' := [(2, .int v7), (0, .ref t), (1, .int x_1), (3, .int u4_3)]) (by subst ev7; rfl) ?_
        have e0 := Option.some.inj h
        subst e0
        exact y_sel [0, 1, 2, 3] rfl hJj6
set_option maxRecDepth 100000 in
def b_X0_canDo (K : yK) (M : yM) (t : Nat) (x1 : Int32) : Option Int32 := (Option.bind (b_X0_canDo_4 K M t x1 1000 ((0 : Int32)) ((0 : Int32))) fun j1 => (some j1))
set_option maxHeartbeats 4000000 in
set_option maxRecDepth 100000 in
theorem m_X0_canDo (K : yK) (M : yM) (t : Nat) (x1 : Int32) : yMet yX0_canDo cX0_canDo 4 (Option.some Jvm.ClassFile.FieldType.int) rm_X0_canDo K M [.ref t, .int x1] (b_X0_canDo K M t x1) (yFi K M) := by
  refine yM_intro (by decide) (Nat.le_of_ble_eq_true rfl) (fun X r h C E => ?_)
  replace C : yCx X cX0_canDo RX0 "canDo" rm_X0_canDo 4 := C
  show Y X K M 0 0 0 [(0, .ref t), (1, .int x1)] []
  unfold b_X0_canDo at h
  refine y_iconst C dX0_canDo_0 kc_0 ?_
  refine y_istore_n C dX0_canDo_1 (by decide) (L' := [(2, .int (0)), (0, .ref t), (1, .int x1)]) rfl ?_
  refine y_iconst C dX0_canDo_2 kc_0 ?_
  refine y_istore_n C dX0_canDo_3 (by decide) (L' := [(3, .int (0)), (2, .int (0)), (0, .ref t), (1, .int x1)]) rfl ?_
  obtain ⟨j1, hj1, h⟩ := ob h
  refine y_sel [0, 1, 2, 3] rfl (l_X0_canDo_4 C 1000 _ _ _ hj1 ?_)
  refine y_iload_n C dX0_canDo_37 rfl ?_
  have e0 := Option.some.inj h
  subst e0
  exact y_iret C E (Nat.zero_le _) (Nat.zero_le _) dX0_canDo_38
def b_X0_entryOn_2 (K : yK) (M : yM) (t : Nat) (x_1 : Int32) : Nat → Int32 → Option (Unit ⊕ Int32)
  | 0, _ => none
  | n + 1, u2_2 => (if gO K t 0 = true then (if (M t 8) ≤ u2_2 then (some (.inl ())) else (Option.bind (K.2.2 t 5) fun q3 => (if gA K q3 (u2_2 + (1 : Int32)) = true then (if (M q3 ((u2_2 + (1 : Int32))).toNatClampNeg) ≤ x_1 then (Option.bind (some (u2_2 + (1 : Int32))) fun v6 => (b_X0_entryOn_2 K M t x_1 n v6)) else (some (.inr u2_2))) else none))) else none)
set_option maxHeartbeats 4000000 in
set_option maxRecDepth 100000 in
theorem l_X0_entryOn_2 {X : yX} {K : yK} {M : yM} {K0 : yK} {M0 : yM} {t : Nat} {x_1 : Int32} (C : yCx X cX0_entryOn RX0 "entryOn" rm_X0_entryOn 3) : ∀ (n : Nat) (u2_2 : Int32) (x : (Unit ⊕ Int32)), b_X0_entryOn_2 K M t x_1 n u2_2 = some x → ∀ (hX : ∀ x8, x = .inl x8 → Y X K M 0 0 30 [] []), ∀ (hE : ∀ x9, x = .inr x9 → yRt X (Option.some Jvm.ClassFile.FieldType.int) K0 M0 ((yFi K M) x9).1 ((yFi K M) x9).2.1 ((yFi K M) x9).2.2 0 0), Y X K M 0 0 2 [(0, .ref t), (1, .int x_1), (2, .int u2_2)] [] := by
  intro n
  induction n with
  | zero =>
    intro u2_2 x h
    exact nomatch (show (none : Option _) = some x from h)
  | succ n ih =>
    intro u2_2 x h hX hE
    rw [b_X0_entryOn_2] at h
    refine y_iload_n C dX0_entryOn_2 rfl ?_
    refine y_aload_n C dX0_entryOn_3 rfl ?_
    obtain ⟨g1, h⟩ := gd h
    refine y_geti C fl_X0_54 g1 dX0_entryOn_4 ?_
    refine y_icmp_ge C dX0_entryOn_7 (tgt := 30) rfl (fun c2 => ?_) (fun c2 => ?_)
    · have h := itT c2 h
      have e0 := Option.some.inj h
      subst e0
      exact y_sel [] rfl (hX _ rfl)
    · have h := itF c2 h
      refine y_iload_n C dX0_entryOn_10 rfl ?_
      refine y_aload_n C dX0_entryOn_11 rfl ?_
      obtain ⟨q3, hq3, h⟩ := ob h
      refine y_getr C fl_X0_27 g1 hq3 dX0_entryOn_12 ?_
      refine y_iload_n C dX0_entryOn_15 rfl ?_
      refine y_iconst C dX0_entryOn_16 kc_1 ?_
      refine y_iadd C dX0_entryOn_17 ?_
      obtain ⟨g4, h⟩ := gd h
      refine y_iald C g4 dX0_entryOn_18 ?_
      refine y_icmp_ge C dX0_entryOn_19 (tgt := 24) rfl (fun c5 => ?_) (fun c5 => ?_)
      · have h := itT c5 h
        obtain ⟨v6, ev6, h⟩ := ob h
        have ev6 := Option.some.inj ev6
        refine y_iinc C dX0_entryOn_24 (by decide) rfl (v := v6) (by subst ev6; rfl) (L' := [(2, .int v6), (0, .ref t), (1, .int x_1)]) rfl ?_
        refine y_goto C dX0_entryOn_27 (tgt := 2) rfl ?_
        exact y_sel [0, 1, 2] rfl (ih _ _  h hX hE)
      · have h := itF c5 h
        refine y_iload_n C dX0_entryOn_22 rfl ?_
        have e0 := Option.some.inj h
        subst e0
        have E := hE _ rfl
        exact y_iret C E (Nat.zero_le _) (Nat.zero_le _) dX0_entryOn_23
set_option maxRecDepth 100000 in
def b_X0_entryOn (K : yK) (M : yM) (t : Nat) (x1 : Int32) : Option Int32 := (Option.bind (b_X0_entryOn_2 K M t x1 1000 ((0 : Int32))) fun x9 => Sum.elim (fun j1 => (some (-1 : Int32))) (fun r9 => (some r9)) x9)
set_option maxHeartbeats 4000000 in
set_option maxRecDepth 100000 in
theorem m_X0_entryOn (K : yK) (M : yM) (t : Nat) (x1 : Int32) : yMet yX0_entryOn cX0_entryOn 3 (Option.some Jvm.ClassFile.FieldType.int) rm_X0_entryOn K M [.ref t, .int x1] (b_X0_entryOn K M t x1) (yFi K M) := by
  refine yM_intro (by decide) (Nat.le_of_ble_eq_true rfl) (fun X r h C E => ?_)
  replace C : yCx X cX0_entryOn RX0 "entryOn" rm_X0_entryOn 3 := C
  show Y X K M 0 0 0 [(0, .ref t), (1, .int x1)] []
  unfold b_X0_entryOn at h
  refine y_iconst C dX0_entryOn_0 kc_0 ?_
  refine y_istore_n C dX0_entryOn_1 (by decide) (L' := [(2, .int (0)), (0, .ref t), (1, .int x1)]) rfl ?_
  obtain ⟨x9, hx9, h⟩ := ob h
  refine y_sel [0, 1, 2] rfl (l_X0_entryOn_2 (K0 := K) (M0 := M) C 1000 _ _ hx9 (fun j1 e9 => ?_) (fun r9 e9 => ?_))
  · subst e9
    dsimp only [Sum.elim_inl] at h
    refine y_iconst C dX0_entryOn_30 kc_m1 ?_
    have e0 := Option.some.inj h
    subst e0
    exact y_iret C E (Nat.zero_le _) (Nat.zero_le _) dX0_entryOn_31
  · subst e9
    dsimp only [Sum.elim_inr] at h
    have e0 := Option.some.inj h
    subst e0
    exact E
set_option maxRecDepth 100000 in
def b_X0_firstOf (K : yK) (M : yM) (t : Nat) (x1 : Int32) : Option Int32 := (if x1 < 0 then (some (0 : Int32)) else (if gO K t 0 = true then (Option.bind (K.2.2 t 5) fun q3 => (if gI K q3 = true then (if (Int32.ofNat (K.2.1 q3).2) ≤ x1 then (some (0 : Int32)) else (if gA K q3 x1 = true then (some (M q3 (x1).toNatClampNeg)) else none)) else none)) else none))
set_option maxHeartbeats 4000000 in
set_option maxRecDepth 100000 in
theorem m_X0_firstOf (K : yK) (M : yM) (t : Nat) (x1 : Int32) : yMet yX0_firstOf cX0_firstOf 2 (Option.some Jvm.ClassFile.FieldType.int) rm_X0_firstOf K M [.ref t, .int x1] (b_X0_firstOf K M t x1) (yFi K M) := by
  refine yM_intro (by decide) (Nat.le_of_ble_eq_true rfl) (fun X r h C E => ?_)
  replace C : yCx X cX0_firstOf RX0 "firstOf" rm_X0_firstOf 2 := C
  show Y X K M 0 0 0 [(0, .ref t), (1, .int x1)] []
  unfold b_X0_firstOf at h
  refine y_iload_n C dX0_firstOf_0 rfl ?_
  refine y_if_lt C dX0_firstOf_1 (tgt := 22) rfl (fun c1 => ?_) (fun c1 => ?_)
  · have h := itT c1 h
    refine y_iconst C dX0_firstOf_22 kc_0 ?_
    have e0 := Option.some.inj h
    subst e0
    exact y_iret C E (Nat.zero_le _) (Nat.zero_le _) dX0_firstOf_23
  · have h := itF c1 h
    refine y_iload_n C dX0_firstOf_4 rfl ?_
    refine y_aload_n C dX0_firstOf_5 rfl ?_
    obtain ⟨g2, h⟩ := gd h
    obtain ⟨q3, hq3, h⟩ := ob h
    refine y_getr C fl_X0_27 g2 hq3 dX0_firstOf_6 ?_
    obtain ⟨g4, h⟩ := gd h
    refine y_alen C g4 dX0_firstOf_9 ?_
    refine y_icmp_ge C dX0_firstOf_10 (tgt := 22) rfl (fun c5 => ?_) (fun c5 => ?_)
    · have h := itT c5 h
      refine y_iconst C dX0_firstOf_22 kc_0 ?_
      have e0 := Option.some.inj h
      subst e0
      exact y_iret C E (Nat.zero_le _) (Nat.zero_le _) dX0_firstOf_23
    · have h := itF c5 h
      refine y_aload_n C dX0_firstOf_13 rfl ?_
      refine y_getr C fl_X0_27 g2 hq3 dX0_firstOf_14 ?_
      refine y_iload_n C dX0_firstOf_17 rfl ?_
      obtain ⟨g6, h⟩ := gd h
      refine y_iald C g6 dX0_firstOf_18 ?_
      refine y_goto C dX0_firstOf_19 (tgt := 23) rfl ?_
      have e0 := Option.some.inj h
      subst e0
      exact y_iret C E (Nat.zero_le _) (Nat.zero_le _) dX0_firstOf_23
set_option maxRecDepth 100000 in
def b_X0_hasDeed (K : yK) (M : yM) (t : Nat) (x1 : Int32) : Option Bool := (if x1 < 0 then (some false) else (if gO K t 0 = true then (if (M t 9) ≤ x1 then (some false) else (if (6 : Int32) ≤ x1 then (some false) else (some true))) else none))
set_option maxHeartbeats 4000000 in
set_option maxRecDepth 100000 in
theorem m_X0_hasDeed (K : yK) (M : yM) (t : Nat) (x1 : Int32) : yMet yX0_hasDeed cX0_hasDeed 2 (Option.some Jvm.ClassFile.FieldType.boolean) rm_X0_hasDeed K M [.ref t, .int x1] (b_X0_hasDeed K M t x1) (yFb K M) := by
  refine yM_intro (by decide) (Nat.le_of_ble_eq_true rfl) (fun X r h C E => ?_)
  replace C : yCx X cX0_hasDeed RX0 "hasDeed" rm_X0_hasDeed 2 := C
  show Y X K M 0 0 0 [(0, .ref t), (1, .int x1)] []
  unfold b_X0_hasDeed at h
  refine y_iload_n C dX0_hasDeed_0 rfl ?_
  refine y_if_lt C dX0_hasDeed_1 (tgt := 22) rfl (fun c1 => ?_) (fun c1 => ?_)
  · have h := itT c1 h
    refine y_iconst C dX0_hasDeed_22 kc_0 ?_
    have e0 := Option.some.inj h
    subst e0
    exact y_bret (b := false) C E (Nat.zero_le _) (Nat.zero_le _) dX0_hasDeed_23
  · have h := itF c1 h
    refine y_iload_n C dX0_hasDeed_4 rfl ?_
    refine y_aload_n C dX0_hasDeed_5 rfl ?_
    obtain ⟨g2, h⟩ := gd h
    refine y_geti C fl_X0_57 g2 dX0_hasDeed_6 ?_
    refine y_icmp_ge C dX0_hasDeed_9 (tgt := 22) rfl (fun c3 => ?_) (fun c3 => ?_)
    · have h := itT c3 h
      refine y_iconst C dX0_hasDeed_22 kc_0 ?_
      have e0 := Option.some.inj h
      subst e0
      exact y_bret (b := false) C E (Nat.zero_le _) (Nat.zero_le _) dX0_hasDeed_23
    · have h := itF c3 h
      refine y_iload_n C dX0_hasDeed_12 rfl ?_
      refine y_bipush C dX0_hasDeed_13 kb_6 ?_
      refine y_icmp_ge C dX0_hasDeed_15 (tgt := 22) rfl (fun c4 => ?_) (fun c4 => ?_)
      · have h := itT c4 h
        refine y_iconst C dX0_hasDeed_22 kc_0 ?_
        have e0 := Option.some.inj h
        subst e0
        exact y_bret (b := false) C E (Nat.zero_le _) (Nat.zero_le _) dX0_hasDeed_23
      · have h := itF c4 h
        refine y_iconst C dX0_hasDeed_18 kc_1 ?_
        refine y_goto C dX0_hasDeed_19 (tgt := 23) rfl ?_
        have e0 := Option.some.inj h
        subst e0
        exact y_bret (b := true) C E (Nat.zero_le _) (Nat.zero_le _) dX0_hasDeed_23
def b_X0_held_4 (K : yK) (M : yM) (t : Nat) (x_1 : Int32) : Nat → Int32 → Int32 → Option Int32
  | 0, _, _ => none
  | n + 1, u4_2, u4_3 => (if gO K t 0 = true then (if (M t 8) ≤ u4_3 then (some u4_2) else (Option.bind (K.2.2 t 6) fun q3 => (if gA K q3 u4_3 = true then (Option.bind (if ((M q3 (u4_3).toNatClampNeg) &&& (x_1 ^^^ (-1 : Int32))) = 0 then (Option.bind (some (u4_2 ||| ((1 : Int32) <<< (u4_3 &&& 31)))) fun v7 => (some v7)) else (some u4_2)) fun j6 => (Option.bind (some (u4_3 + (1 : Int32))) fun v8 => (b_X0_held_4 K M t x_1 n j6 v8))) else none))) else none)
set_option maxHeartbeats 4000000 in
set_option maxRecDepth 100000 in
theorem l_X0_held_4 {X : yX} {K : yK} {M : yM} {t : Nat} {x_1 : Int32} (C : yCx X cX0_held RX0 "held" rm_X0_held 4) : ∀ (n : Nat) (u4_2 : Int32) (u4_3 : Int32) (x : Int32), b_X0_held_4 K M t x_1 n u4_2 u4_3 = some x → ∀ (hX : Y X K M 0 0 37 [(2, .int x)] []), Y X K M 0 0 4 [(0, .ref t), (1, .int x_1), (2, .int u4_2), (3, .int u4_3)] [] := by
  intro n
  induction n with
  | zero =>
    intro u4_2 u4_3 x h
    exact nomatch (show (none : Option _) = some x from h)
  | succ n ih =>
    intro u4_2 u4_3 x h hX
    rw [b_X0_held_4] at h
    refine y_iload_n C dX0_held_4 rfl ?_
    refine y_aload_n C dX0_held_5 rfl ?_
    obtain ⟨g1, h⟩ := gd h
    refine y_geti C fl_X0_54 g1 dX0_held_6 ?_
    refine y_icmp_ge C dX0_held_9 (tgt := 37) rfl (fun c2 => ?_) (fun c2 => ?_)
    · have h := itT c2 h
      have e0 := Option.some.inj h
      subst e0
      exact y_sel [2] rfl hX
    · have h := itF c2 h
      refine y_aload_n C dX0_held_12 rfl ?_
      obtain ⟨q3, hq3, h⟩ := ob h
      refine y_getr C fl_X0_30 g1 hq3 dX0_held_13 ?_
      refine y_iload_n C dX0_held_16 rfl ?_
      obtain ⟨g4, h⟩ := gd h
      refine y_iald C g4 dX0_held_17 ?_
      refine y_iload_n C dX0_held_18 rfl ?_
      refine y_iconst C dX0_held_19 kc_m1 ?_
      refine y_ixor C dX0_held_20 ?_
      refine y_iand C dX0_held_21 ?_
      obtain ⟨j6, hj6, h⟩ := ob h
      have hJj6 : Y X K M 0 0 31 [(0, .ref t), (1, .int x_1), (2, .int j6), (3, .int u4_3)] [] := by
        obtain ⟨v8, ev8, h⟩ := ob h
        have ev8 := Option.some.inj ev8
        refine y_iinc C dX0_held_31 (by decide) rfl (v := v8) (by subst ev8; rfl) (L' := [(3, .int v8), (0, .ref t), (1, .int x_1), (2, .int j6)]) rfl ?_
        refine y_goto C dX0_held_34 (tgt := 4) rfl ?_
        exact y_sel [0, 1, 2, 3] rfl (ih _ _ _  h hX)
      replace h := hj6
      refine y_if_ne C dX0_held_22 (tgt := 31) rfl (fun c5 => ?_) (fun c5 => ?_)
      · have h := itF c5 h
        have e0 := Option.some.inj h
        subst e0
        exact y_sel [0, 1, 2, 3] rfl hJj6
      · have h := itT c5 h
        refine y_iload_n C dX0_held_25 rfl ?_
        refine y_iconst C dX0_held_26 kc_1 ?_
        refine y_iload_n C dX0_held_27 rfl ?_
        refine y_ishl C dX0_held_28 ?_
        refine y_ior C dX0_held_29 ?_
        obtain ⟨v7, ev7, h⟩ := ob h
        have ev7 := Option.some.inj ev7
        refine y_istore_n C dX0_held_30 (by decide) (L' := [(2, .int v7), (0, .ref t), (1, .int x_1), (3, .int u4_3)]) (by subst ev7; rfl) ?_
        have e0 := Option.some.inj h
        subst e0
        exact y_sel [0, 1, 2, 3] rfl hJj6
set_option maxRecDepth 100000 in
def b_X0_held (K : yK) (M : yM) (t : Nat) (x1 : Int32) : Option Int32 := (Option.bind (b_X0_held_4 K M t x1 1000 ((0 : Int32)) ((0 : Int32))) fun j1 => (some j1))
set_option maxHeartbeats 4000000 in
set_option maxRecDepth 100000 in
theorem m_X0_held (K : yK) (M : yM) (t : Nat) (x1 : Int32) : yMet yX0_held cX0_held 4 (Option.some Jvm.ClassFile.FieldType.int) rm_X0_held K M [.ref t, .int x1] (b_X0_held K M t x1) (yFi K M) := by
  refine yM_intro (by decide) (Nat.le_of_ble_eq_true rfl) (fun X r h C E => ?_)
  replace C : yCx X cX0_held RX0 "held" rm_X0_held 4 := C
  show Y X K M 0 0 0 [(0, .ref t), (1, .int x1)] []
  unfold b_X0_held at h
  refine y_iconst C dX0_held_0 kc_0 ?_
  refine y_istore_n C dX0_held_1 (by decide) (L' := [(2, .int (0)), (0, .ref t), (1, .int x1)]) rfl ?_
  refine y_iconst C dX0_held_2 kc_0 ?_
  refine y_istore_n C dX0_held_3 (by decide) (L' := [(3, .int (0)), (2, .int (0)), (0, .ref t), (1, .int x1)]) rfl ?_
  obtain ⟨j1, hj1, h⟩ := ob h
  refine y_sel [0, 1, 2, 3] rfl (l_X0_held_4 C 1000 _ _ _ hj1 ?_)
  refine y_iload_n C dX0_held_37 rfl ?_
  have e0 := Option.some.inj h
  subst e0
  exact y_iret C E (Nat.zero_le _) (Nat.zero_le _) dX0_held_38
set_option maxRecDepth 100000 in
def b_X0_says (K : yK) (M : yM) (t : Nat) (x1 : Int32) (x2 : Int32) (x3 : Int32) (x4 : Int32) : Option (Int32 × yM) := (if gO K t 0 = true then (Option.bind (b_X0_has K M t x2) fun r2 => (if r2 = true then (if (M t 15) < 0 then (some ((0 : Int32), M)) else (Option.bind (K.2.2 t 17) fun q5 => (if gT K q5 1 = true then (if (M t 15) < (Int32.ofNat (K.2.1 q5).2) then (Option.bind (K.2.2 t 18) fun q8 => (Option.bind (K.2.2 t 1) fun q9 => (if gA K q9 x2 = true then (Option.bind (K.2.2 t 2) fun q11 => (if gA K q11 x2 = true then (if gO K q8 3 = true then (Option.bind (b_X4_about K M q8 ((M t 11)) ((M q9 (x2).toNatClampNeg)) ((M q11 (x2).toNatClampNeg)) x2 x3 x4) fun r14 => (if gQ K q5 1 (r14 t 15) = true then (Option.bind (K.2.2 q5 ((r14 t 15)).toNatClampNeg) fun q16 => (Option.bind (b_X4_value K r14 q8 q16 x1) fun r17 => (if x1 = (1 : Int32) then (if r17.1 = 0 then (some ((0 : Int32), r17.2)) else (some ((1 : Int32), r17.2))) else (some ((if (0 : Int32) < (if r17.1 < (99 : Int32) then r17.1 else (99 : Int32)) then (if r17.1 < (99 : Int32) then r17.1 else (99 : Int32)) else (0 : Int32)), r17.2))))) else none)) else none) else none)) else none))) else (some ((0 : Int32), M))) else none))) else (some ((0 : Int32), M)))) else none)
set_option maxHeartbeats 4000000 in
set_option maxRecDepth 100000 in
theorem m_X0_says (K : yK) (M : yM) (t : Nat) (x1 : Int32) (x2 : Int32) (x3 : Int32) (x4 : Int32) : yMet yX0_says cX0_says 6 (Option.some Jvm.ClassFile.FieldType.int) rm_X0_says K M [.ref t, .int x1, .int x2, .int x3, .int x4] (b_X0_says K M t x1 x2 x3 x4) (yGi K) := by
  refine yM_intro (by decide) (Nat.le_of_ble_eq_true rfl) (fun X r h C E => ?_)
  replace C : yCx X cX0_says RX0 "says" rm_X0_says 6 := C
  show Y X K M 0 0 0 [(0, .ref t), (1, .int x1), (2, .int x2), (3, .int x3), (4, .int x4)] []
  unfold b_X0_says at h
  refine y_aload_n C dX0_says_0 rfl ?_
  refine y_iload_n C dX0_says_1 rfl ?_
  obtain ⟨g1, h⟩ := gd h
  obtain ⟨r2, hr2, h⟩ := ob h
  refine y_cV C [.int x2] (m_X0_has K M t x2) hr2 g1 cw_X0_79 rfl (by decide) ⟨rfl, rfl⟩ ⟨Nat.zero_le _, Nat.zero_le _⟩ (Nat.le_of_ble_eq_true rfl) rfl rfl rfl dX0_says_2 ?_
  refine y_ifeqB C dX0_says_5 (tgt := 27) rfl (fun c3 => ?_) (fun c3 => ?_)
  · have h := itFb c3 h
    refine y_iconst C dX0_says_27 kc_0 ?_
    have e0 := Option.some.inj h
    subst e0
    exact y_iret C E (Nat.zero_le _) (Nat.zero_le _) dX0_says_28
  · have h := itT c3 h
    refine y_aload_n C dX0_says_8 rfl ?_
    refine y_geti C fl_X0_72 g1 dX0_says_9 ?_
    refine y_if_lt C dX0_says_12 (tgt := 27) rfl (fun c4 => ?_) (fun c4 => ?_)
    · have h := itT c4 h
      refine y_iconst C dX0_says_27 kc_0 ?_
      have e0 := Option.some.inj h
      subst e0
      exact y_iret C E (Nat.zero_le _) (Nat.zero_le _) dX0_says_28
    · have h := itF c4 h
      refine y_aload_n C dX0_says_15 rfl ?_
      refine y_geti C fl_X0_72 g1 dX0_says_16 ?_
      refine y_aload_n C dX0_says_19 rfl ?_
      obtain ⟨q5, hq5, h⟩ := ob h
      refine y_getr C fl_X0_40 g1 hq5 dX0_says_20 ?_
      obtain ⟨g6, h⟩ := gd h
      refine y_alenQ C (by decide) g6 dX0_says_23 ?_
      refine y_icmp_lt C dX0_says_24 (tgt := 29) rfl (fun c7 => ?_) (fun c7 => ?_)
      · have h := itT c7 h
        refine y_aload_n C dX0_says_29 rfl ?_
        obtain ⟨q8, hq8, h⟩ := ob h
        refine y_getr C fl_X0_44 g1 hq8 dX0_says_30 ?_
        refine y_aload_n C dX0_says_33 rfl ?_
        refine y_geti C fl_X0_63 g1 dX0_says_34 ?_
        refine y_aload_n C dX0_says_37 rfl ?_
        obtain ⟨q9, hq9, h⟩ := ob h
        refine y_getr C fl_X0_15 g1 hq9 dX0_says_38 ?_
        refine y_iload_n C dX0_says_41 rfl ?_
        obtain ⟨g10, h⟩ := gd h
        refine y_iald C g10 dX0_says_42 ?_
        refine y_aload_n C dX0_says_43 rfl ?_
        obtain ⟨q11, hq11, h⟩ := ob h
        refine y_getr C fl_X0_18 g1 hq11 dX0_says_44 ?_
        refine y_iload_n C dX0_says_47 rfl ?_
        obtain ⟨g12, h⟩ := gd h
        refine y_iald C g12 dX0_says_48 ?_
        refine y_iload_n C dX0_says_49 rfl ?_
        refine y_iload_n C dX0_says_50 rfl ?_
        refine y_iload C dX0_says_51 rfl ?_
        obtain ⟨g13, h⟩ := gd h
        obtain ⟨r14, hr14, h⟩ := ob h
        refine y_cV C [.int (M t 11), .int (M q9 (x2).toNatClampNeg), .int (M q11 (x2).toNatClampNeg), .int x2, .int x3, .int x4] (m_X4_about K M q8 ((M t 11)) ((M q9 (x2).toNatClampNeg)) ((M q11 (x2).toNatClampNeg)) x2 x3 x4) hr14 g13 cw_X0_129 rfl (by decide) ⟨rfl, rfl⟩ ⟨Nat.zero_le _, Nat.zero_le _⟩ (Nat.le_of_ble_eq_true rfl) rfl rfl rfl dX0_says_53 ?_
        refine y_aload_n C dX0_says_56 rfl ?_
        refine y_getr C fl_X0_44 g1 hq8 dX0_says_57 ?_
        refine y_aload_n C dX0_says_60 rfl ?_
        refine y_getr C fl_X0_40 g1 hq5 dX0_says_61 ?_
        refine y_aload_n C dX0_says_64 rfl ?_
        refine y_geti C fl_X0_72 g1 dX0_says_65 ?_
        obtain ⟨g15, h⟩ := gd h
        obtain ⟨q16, hq16, h⟩ := ob h
        refine y_aald C (by decide) g15 hq16 dX0_says_68 ?_
        refine y_iload_n C dX0_says_69 rfl ?_
        obtain ⟨r17, hr17, h⟩ := ob h
        refine y_cV C [.ref q16, .int x1] (m_X4_value K r14 q8 q16 x1) hr17 g13 cw_X0_135 rfl (by decide) ⟨rfl, rfl⟩ ⟨Nat.zero_le _, Nat.zero_le _⟩ (Nat.le_of_ble_eq_true rfl) rfl rfl rfl dX0_says_70 ?_
        refine y_istore C dX0_says_73 (by decide) (L' := [(5, .int r17.1), (0, .ref t), (1, .int x1), (2, .int x2), (3, .int x3), (4, .int x4)]) rfl ?_
        refine y_iload_n C dX0_says_75 rfl ?_
        refine y_iconst C dX0_says_76 kc_1 ?_
        refine y_icmp_ne C dX0_says_77 (tgt := 91) rfl (fun c18 => ?_) (fun c18 => ?_)
        · have h := itF c18 h
          refine y_iconst C dX0_says_91 kc_0 ?_
          refine y_bipush C dX0_says_92 kb_99 ?_
          refine y_iload C dX0_says_94 rfl ?_
          refine y_min C jm_X0_115 ⟨by decide, Nat.le_of_ble_eq_true rfl, Nat.le_of_ble_eq_true rfl, Nat.le_of_ble_eq_true rfl⟩ dX0_says_96 ?_
          refine y_max C jm_X0_139 ⟨by decide, Nat.le_of_ble_eq_true rfl, Nat.le_of_ble_eq_true rfl, Nat.le_of_ble_eq_true rfl⟩ dX0_says_99 ?_
          have e0 := Option.some.inj h
          subst e0
          exact y_iret C E (Nat.zero_le _) (Nat.zero_le _) dX0_says_102
        · have h := itT c18 h
          refine y_iload C dX0_says_80 rfl ?_
          refine y_if_eq C dX0_says_82 (tgt := 89) rfl (fun c19 => ?_) (fun c19 => ?_)
          · have h := itT c19 h
            refine y_iconst C dX0_says_89 kc_0 ?_
            have e0 := Option.some.inj h
            subst e0
            exact y_iret C E (Nat.zero_le _) (Nat.zero_le _) dX0_says_90
          · have h := itF c19 h
            refine y_iconst C dX0_says_85 kc_1 ?_
            refine y_goto C dX0_says_86 (tgt := 90) rfl ?_
            have e0 := Option.some.inj h
            subst e0
            exact y_iret C E (Nat.zero_le _) (Nat.zero_le _) dX0_says_90
      · have h := itF c7 h
        refine y_iconst C dX0_says_27 kc_0 ?_
        have e0 := Option.some.inj h
        subst e0
        exact y_iret C E (Nat.zero_le _) (Nat.zero_le _) dX0_says_28
def b_X0_itself_12 (K : yK) (t : Nat) (x_2 : Int32) : Nat → yM → Int32 → Int32 → Option (Int32 × yM)
  | 0, _, _, _ => none
  | n + 1, M, u12_1, u12_3 => (if gO K t 0 = true then (if (M t 8) ≤ u12_3 then (some (u12_1, M)) else (Option.bind (b_X0_behindOf K M t u12_3) fun r3 => (Option.bind (K.2.2 t 4) fun q4 => (if gA K q4 u12_3 = true then (Option.bind (if (M q4 (u12_3).toNatClampNeg) = (M t 11) then (some true) else (some false)) fun j7 => (Option.bind (if j7 = true then (Option.bind (b_X0_says K M t ((1 : Int32)) u12_3 x_2 r3) fun r10 => (if r10.1 = 0 then (some (false, r10.2)) else (some (true, r10.2)))) else (Option.bind (K.2.2 t 1) fun q12 => (if gA K q12 u12_3 = true then (if (M q12 (u12_3).toNatClampNeg) < r3 then (some (false, M)) else (Option.bind (b_X0_says K M t ((1 : Int32)) u12_3 x_2 r3) fun r15 => (if r15.1 = 0 then (some (false, r15.2)) else (some (true, r15.2))))) else none))) fun j9 => (Option.bind (K.2.2 t 0) fun q17 => (if gA K q17 u12_3 = true then (Option.bind (K.2.2 t 1) fun q19 => (if gA K q19 u12_3 = true then (Option.bind (b_X2_holds K j9.2 ((j9.2 q17 (u12_3).toNatClampNeg)) ((j9.2 q19 (u12_3).toNatClampNeg)) j7 j9.1 r3 ((j9.2 t 11))) fun r21 => (Option.bind (if r21 = true then (Option.bind (some (u12_1 ||| ((1 : Int32) <<< (u12_3 &&& 31)))) fun v24 => (some v24)) else (some u12_1)) fun j23 => (Option.bind (some (u12_3 + (1 : Int32))) fun v25 => (b_X0_itself_12 K t x_2 n j9.2 j23 v25)))) else none)) else none)))) else none)))) else none)
set_option maxHeartbeats 4000000 in
set_option maxRecDepth 100000 in
theorem l_X0_itself_12 {X : yX} {K : yK} {t : Nat} {x_2 : Int32} (C : yCx X cX0_itself RX0 "itself" rm_X0_itself 7) : ∀ (n : Nat) (M : yM) (u12_1 : Int32) (u12_3 : Int32) (x : (Int32 × yM)), b_X0_itself_12 K t x_2 n M u12_1 u12_3 = some x → ∀ (hX : Y X K x.2 0 0 122 [(1, .int x.1)] []), Y X K M 0 0 12 [(0, .ref t), (1, .int u12_1), (2, .int x_2), (3, .int u12_3)] [] := by
  intro n
  induction n with
  | zero =>
    intro M u12_1 u12_3 x h
    exact nomatch (show (none : Option _) = some x from h)
  | succ n ih =>
    intro M u12_1 u12_3 x h hX
    rw [b_X0_itself_12] at h
    refine y_iload_n C dX0_itself_12 rfl ?_
    refine y_aload_n C dX0_itself_13 rfl ?_
    obtain ⟨g1, h⟩ := gd h
    refine y_geti C fl_X0_54 g1 dX0_itself_14 ?_
    refine y_icmp_ge C dX0_itself_17 (tgt := 122) rfl (fun c2 => ?_) (fun c2 => ?_)
    · have h := itT c2 h
      have e0 := Option.some.inj h
      subst e0
      exact y_sel [1] rfl hX
    · have h := itF c2 h
      refine y_aload_n C dX0_itself_20 rfl ?_
      refine y_iload_n C dX0_itself_21 rfl ?_
      obtain ⟨r3, hr3, h⟩ := ob h
      refine y_cV C [.int u12_3] (m_X0_behindOf K M t u12_3) hr3 g1 cw_X0_147 rfl (by decide) ⟨rfl, rfl⟩ ⟨Nat.zero_le _, Nat.zero_le _⟩ (Nat.le_of_ble_eq_true rfl) rfl rfl rfl dX0_itself_22 ?_
      refine y_istore C dX0_itself_25 (by decide) (L' := [(4, .int r3), (0, .ref t), (1, .int u12_1), (2, .int x_2), (3, .int u12_3)]) rfl ?_
      refine y_aload_n C dX0_itself_27 rfl ?_
      obtain ⟨q4, hq4, h⟩ := ob h
      refine y_getr C fl_X0_24 g1 hq4 dX0_itself_28 ?_
      refine y_iload_n C dX0_itself_31 rfl ?_
      obtain ⟨g5, h⟩ := gd h
      refine y_iald C g5 dX0_itself_32 ?_
      refine y_aload_n C dX0_itself_33 rfl ?_
      refine y_geti C fl_X0_63 g1 dX0_itself_34 ?_
      obtain ⟨j7, hj7, h⟩ := ob h
      have hJj7 : Y X K M 0 0 45 [(4, .int r3), (0, .ref t), (1, .int u12_1), (2, .int x_2), (3, .int u12_3)] [.int (bI j7)] := by
        refine y_istore C dX0_itself_45 (by decide) (L' := [(5, .int (bI j7)), (4, .int r3), (0, .ref t), (1, .int u12_1), (2, .int x_2), (3, .int u12_3)]) rfl ?_
        refine y_iload C dX0_itself_47 rfl ?_
        obtain ⟨j9, hj9, h⟩ := ob h
        have hJj9 : Y X K j9.2 0 0 80 [(5, .int (bI j7)), (4, .int r3), (0, .ref t), (1, .int u12_1), (2, .int x_2), (3, .int u12_3)] [.int (bI j9.1)] := by
          refine y_istore C dX0_itself_80 (by decide) (L' := [(6, .int (bI j9.1)), (5, .int (bI j7)), (4, .int r3), (0, .ref t), (1, .int u12_1), (2, .int x_2), (3, .int u12_3)]) rfl ?_
          refine y_aload_n C dX0_itself_82 rfl ?_
          obtain ⟨q17, hq17, h⟩ := ob h
          refine y_getr C fl_X0_9 g1 hq17 dX0_itself_83 ?_
          refine y_iload_n C dX0_itself_86 rfl ?_
          obtain ⟨g18, h⟩ := gd h
          refine y_iald C g18 dX0_itself_87 ?_
          refine y_aload_n C dX0_itself_88 rfl ?_
          obtain ⟨q19, hq19, h⟩ := ob h
          refine y_getr C fl_X0_15 g1 hq19 dX0_itself_89 ?_
          refine y_iload_n C dX0_itself_92 rfl ?_
          obtain ⟨g20, h⟩ := gd h
          refine y_iald C g20 dX0_itself_93 ?_
          refine y_iload C dX0_itself_94 rfl ?_
          refine y_iload C dX0_itself_96 rfl ?_
          refine y_iload C dX0_itself_98 rfl ?_
          refine y_aload_n C dX0_itself_100 rfl ?_
          refine y_geti C fl_X0_63 g1 dX0_itself_101 ?_
          obtain ⟨r21, hr21, h⟩ := ob h
          refine y_cS C [.int (j9.2 q17 (u12_3).toNatClampNeg), .int (j9.2 q19 (u12_3).toNatClampNeg), .int (bI j7), .int (bI j9.1), .int r3, .int (j9.2 t 11)] (m_X2_holds K j9.2 ((j9.2 q17 (u12_3).toNatClampNeg)) ((j9.2 q19 (u12_3).toNatClampNeg)) j7 j9.1 r3 ((j9.2 t 11))) hr21 cw_X0_150 rfl (by decide) ⟨rfl, rfl⟩ ⟨Nat.zero_le _, Nat.zero_le _⟩ (Nat.le_of_ble_eq_true rfl) rfl rfl rfl dX0_itself_104 ?_
          obtain ⟨j23, hj23, h⟩ := ob h
          have hJj23 : Y X K j9.2 0 0 116 [(0, .ref t), (1, .int j23), (2, .int x_2), (3, .int u12_3)] [] := by
            obtain ⟨v25, ev25, h⟩ := ob h
            have ev25 := Option.some.inj ev25
            refine y_iinc C dX0_itself_116 (by decide) rfl (v := v25) (by subst ev25; rfl) (L' := [(3, .int v25), (0, .ref t), (1, .int j23), (2, .int x_2)]) rfl ?_
            refine y_goto C dX0_itself_119 (tgt := 12) rfl ?_
            exact y_sel [0, 1, 2, 3] rfl (ih _ _ _ _  h hX)
          replace h := hj23
          refine y_ifeqB C dX0_itself_107 (tgt := 116) rfl (fun c22 => ?_) (fun c22 => ?_)
          · have h := itFb c22 h
            have e0 := Option.some.inj h
            subst e0
            exact y_sel [0, 1, 2, 3] rfl hJj23
          · have h := itT c22 h
            refine y_iload_n C dX0_itself_110 rfl ?_
            refine y_iconst C dX0_itself_111 kc_1 ?_
            refine y_iload_n C dX0_itself_112 rfl ?_
            refine y_ishl C dX0_itself_113 ?_
            refine y_ior C dX0_itself_114 ?_
            obtain ⟨v24, ev24, h⟩ := ob h
            have ev24 := Option.some.inj ev24
            refine y_istore_n C dX0_itself_115 (by decide) (L' := [(1, .int v24), (6, .int (bI j9.1)), (5, .int (bI j7)), (4, .int r3), (0, .ref t), (2, .int x_2), (3, .int u12_3)]) (by subst ev24; rfl) ?_
            have e0 := Option.some.inj h
            subst e0
            exact y_sel [0, 1, 2, 3] rfl hJj23
        replace h := hj9
        refine y_ifneB C dX0_itself_49 (tgt := 63) rfl (fun c8 => ?_) (fun c8 => ?_)
        · have h := itT c8 h
          refine y_aload_n C dX0_itself_63 rfl ?_
          refine y_iconst C dX0_itself_64 kc_1 ?_
          refine y_iload_n C dX0_itself_65 rfl ?_
          refine y_iload_n C dX0_itself_66 rfl ?_
          refine y_iload C dX0_itself_67 rfl ?_
          obtain ⟨r10, hr10, h⟩ := ob h
          refine y_cV C [.int (1 : Int32), .int u12_3, .int x_2, .int r3] (m_X0_says K M t ((1 : Int32)) u12_3 x_2 r3) hr10 g1 cw_X0_111 rfl (by decide) ⟨rfl, rfl⟩ ⟨Nat.zero_le _, Nat.zero_le _⟩ (Nat.le_of_ble_eq_true rfl) rfl rfl rfl dX0_itself_69 ?_
          refine y_if_eq C dX0_itself_72 (tgt := 79) rfl (fun c11 => ?_) (fun c11 => ?_)
          · have h := itT c11 h
            refine y_iconst C dX0_itself_79 kc_0 ?_
            have e0 := Option.some.inj h
            subst e0
            exact y_sel [5, 4, 0, 1, 2, 3] rfl hJj9
          · have h := itF c11 h
            refine y_iconst C dX0_itself_75 kc_1 ?_
            refine y_goto C dX0_itself_76 (tgt := 80) rfl ?_
            have e0 := Option.some.inj h
            subst e0
            exact y_sel [5, 4, 0, 1, 2, 3] rfl hJj9
        · have h := itFb c8 h
          refine y_iload C dX0_itself_52 rfl ?_
          refine y_aload_n C dX0_itself_54 rfl ?_
          obtain ⟨q12, hq12, h⟩ := ob h
          refine y_getr C fl_X0_15 g1 hq12 dX0_itself_55 ?_
          refine y_iload_n C dX0_itself_58 rfl ?_
          obtain ⟨g13, h⟩ := gd h
          refine y_iald C g13 dX0_itself_59 ?_
          refine y_icmp_gt C dX0_itself_60 (tgt := 79) rfl (fun c14 => ?_) (fun c14 => ?_)
          · have h := itT c14 h
            refine y_iconst C dX0_itself_79 kc_0 ?_
            have e0 := Option.some.inj h
            subst e0
            exact y_sel [5, 4, 0, 1, 2, 3] rfl hJj9
          · have h := itF c14 h
            refine y_aload_n C dX0_itself_63 rfl ?_
            refine y_iconst C dX0_itself_64 kc_1 ?_
            refine y_iload_n C dX0_itself_65 rfl ?_
            refine y_iload_n C dX0_itself_66 rfl ?_
            refine y_iload C dX0_itself_67 rfl ?_
            obtain ⟨r15, hr15, h⟩ := ob h
            refine y_cV C [.int (1 : Int32), .int u12_3, .int x_2, .int r3] (m_X0_says K M t ((1 : Int32)) u12_3 x_2 r3) hr15 g1 cw_X0_111 rfl (by decide) ⟨rfl, rfl⟩ ⟨Nat.zero_le _, Nat.zero_le _⟩ (Nat.le_of_ble_eq_true rfl) rfl rfl rfl dX0_itself_69 ?_
            refine y_if_eq C dX0_itself_72 (tgt := 79) rfl (fun c16 => ?_) (fun c16 => ?_)
            · have h := itT c16 h
              refine y_iconst C dX0_itself_79 kc_0 ?_
              have e0 := Option.some.inj h
              subst e0
              exact y_sel [5, 4, 0, 1, 2, 3] rfl hJj9
            · have h := itF c16 h
              refine y_iconst C dX0_itself_75 kc_1 ?_
              refine y_goto C dX0_itself_76 (tgt := 80) rfl ?_
              have e0 := Option.some.inj h
              subst e0
              exact y_sel [5, 4, 0, 1, 2, 3] rfl hJj9
      replace h := hj7
      refine y_icmp_ne C dX0_itself_37 (tgt := 44) rfl (fun c6 => ?_) (fun c6 => ?_)
      · have h := itF c6 h
        refine y_iconst C dX0_itself_44 kc_0 ?_
        have e0 := Option.some.inj h
        subst e0
        exact y_sel [4, 0, 1, 2, 3] rfl hJj7
      · have h := itT c6 h
        refine y_iconst C dX0_itself_40 kc_1 ?_
        refine y_goto C dX0_itself_41 (tgt := 45) rfl ?_
        have e0 := Option.some.inj h
        subst e0
        exact y_sel [4, 0, 1, 2, 3] rfl hJj7
set_option maxRecDepth 100000 in
def b_X0_itself (K : yK) (M : yM) (t : Nat) : Option (Int32 × yM) := (if gO K t 0 = true then (Option.bind (b_J6_bitCount_0f7a4 K M ((M t 14))) fun r2 => (Option.bind (b_X0_itself_12 K t r2 1000 M ((0 : Int32)) ((0 : Int32))) fun j3 => (some (j3.1, j3.2)))) else none)
set_option maxHeartbeats 4000000 in
set_option maxRecDepth 100000 in
theorem m_X0_itself (K : yK) (M : yM) (t : Nat) : yMet yX0_itself cX0_itself 7 (Option.some Jvm.ClassFile.FieldType.int) rm_X0_itself K M [.ref t] (b_X0_itself K M t) (yGi K) := by
  refine yM_intro (by decide) (Nat.le_of_ble_eq_true rfl) (fun X r h C E => ?_)
  replace C : yCx X cX0_itself RX0 "itself" rm_X0_itself 7 := C
  show Y X K M 0 0 0 [(0, .ref t)] []
  unfold b_X0_itself at h
  refine y_iconst C dX0_itself_0 kc_0 ?_
  refine y_istore_n C dX0_itself_1 (by decide) (L' := [(1, .int (0)), (0, .ref t)]) rfl ?_
  refine y_aload_n C dX0_itself_2 rfl ?_
  obtain ⟨g1, h⟩ := gd h
  refine y_geti C fl_X0_69 g1 dX0_itself_3 ?_
  obtain ⟨r2, hr2, h⟩ := ob h
  refine y_cS C [.int (M t 14)] (m_J6_bitCount_0f7a4 K M ((M t 14))) hr2 cw_X0_142 rfl (by decide) ⟨rfl, rfl⟩ ⟨Nat.zero_le _, Nat.zero_le _⟩ (Nat.le_of_ble_eq_true rfl) rfl rfl rfl dX0_itself_6 ?_
  refine y_istore_n C dX0_itself_9 (by decide) (L' := [(2, .int r2), (1, .int (0)), (0, .ref t)]) rfl ?_
  refine y_iconst C dX0_itself_10 kc_0 ?_
  refine y_istore_n C dX0_itself_11 (by decide) (L' := [(3, .int (0)), (2, .int r2), (1, .int (0)), (0, .ref t)]) rfl ?_
  obtain ⟨j3, hj3, h⟩ := ob h
  refine y_sel [0, 1, 2, 3] rfl (l_X0_itself_12 C 1000 _ _ _ _ hj3 ?_)
  refine y_iload_n C dX0_itself_122 rfl ?_
  have e0 := Option.some.inj h
  subst e0
  exact y_iret C E (Nat.zero_le _) (Nat.zero_le _) dX0_itself_123
set_option maxRecDepth 100000 in
def b_X0_liesIn (K : yK) (M : yM) (t : Nat) (x1 : Int32) (x2 : Int32) (x3 : Int32) : Option Bool := (if gO K t 0 = true then (Option.bind (K.2.2 t 5) fun q2 => (if gA K q2 x1 = true then (if x3 ≤ (M q2 (x1).toNatClampNeg) then (some false) else (if gA K q2 (x1 + (1 : Int32)) = true then (if (M q2 ((x1 + (1 : Int32))).toNatClampNeg) ≤ x2 then (some false) else (some true)) else none)) else none)) else none)
set_option maxHeartbeats 4000000 in
set_option maxRecDepth 100000 in
theorem m_X0_liesIn (K : yK) (M : yM) (t : Nat) (x1 : Int32) (x2 : Int32) (x3 : Int32) : yMet yX0_liesIn cX0_liesIn 4 (Option.some Jvm.ClassFile.FieldType.boolean) rm_X0_liesIn K M [.ref t, .int x1, .int x2, .int x3] (b_X0_liesIn K M t x1 x2 x3) (yFb K M) := by
  refine yM_intro (by decide) (Nat.le_of_ble_eq_true rfl) (fun X r h C E => ?_)
  replace C : yCx X cX0_liesIn RX0 "liesIn" rm_X0_liesIn 4 := C
  show Y X K M 0 0 0 [(0, .ref t), (1, .int x1), (2, .int x2), (3, .int x3)] []
  unfold b_X0_liesIn at h
  refine y_aload_n C dX0_liesIn_0 rfl ?_
  obtain ⟨g1, h⟩ := gd h
  obtain ⟨q2, hq2, h⟩ := ob h
  refine y_getr C fl_X0_27 g1 hq2 dX0_liesIn_1 ?_
  refine y_iload_n C dX0_liesIn_4 rfl ?_
  obtain ⟨g3, h⟩ := gd h
  refine y_iald C g3 dX0_liesIn_5 ?_
  refine y_iload_n C dX0_liesIn_6 rfl ?_
  refine y_icmp_ge C dX0_liesIn_7 (tgt := 26) rfl (fun c4 => ?_) (fun c4 => ?_)
  · have h := itT c4 h
    refine y_iconst C dX0_liesIn_26 kc_0 ?_
    have e0 := Option.some.inj h
    subst e0
    exact y_bret (b := false) C E (Nat.zero_le _) (Nat.zero_le _) dX0_liesIn_27
  · have h := itF c4 h
    refine y_aload_n C dX0_liesIn_10 rfl ?_
    refine y_getr C fl_X0_27 g1 hq2 dX0_liesIn_11 ?_
    refine y_iload_n C dX0_liesIn_14 rfl ?_
    refine y_iconst C dX0_liesIn_15 kc_1 ?_
    refine y_iadd C dX0_liesIn_16 ?_
    obtain ⟨g5, h⟩ := gd h
    refine y_iald C g5 dX0_liesIn_17 ?_
    refine y_iload_n C dX0_liesIn_18 rfl ?_
    refine y_icmp_le C dX0_liesIn_19 (tgt := 26) rfl (fun c6 => ?_) (fun c6 => ?_)
    · have h := itT c6 h
      refine y_iconst C dX0_liesIn_26 kc_0 ?_
      have e0 := Option.some.inj h
      subst e0
      exact y_bret (b := false) C E (Nat.zero_le _) (Nat.zero_le _) dX0_liesIn_27
    · have h := itF c6 h
      refine y_iconst C dX0_liesIn_22 kc_1 ?_
      refine y_goto C dX0_liesIn_23 (tgt := 27) rfl ?_
      have e0 := Option.some.inj h
      subst e0
      exact y_bret (b := true) C E (Nat.zero_le _) (Nat.zero_le _) dX0_liesIn_27
def b_X0_lowest_2 (K : yK) (M : yM) (x_0 : Int32) : Nat → Int32 → Option (Unit ⊕ Int32)
  | 0, _ => none
  | n + 1, u2_1 => (if (12 : Int32) ≤ u2_1 then (some (.inl ())) else (if ((x_0 >>> (u2_1 &&& 31)) &&& (1 : Int32)) = (1 : Int32) then (some (.inr u2_1)) else (Option.bind (some (u2_1 + (1 : Int32))) fun v3 => (b_X0_lowest_2 K M x_0 n v3))))
set_option maxHeartbeats 4000000 in
set_option maxRecDepth 100000 in
theorem l_X0_lowest_2 {X : yX} {K : yK} {M : yM} {K0 : yK} {M0 : yM} {x_0 : Int32} (C : yCx X cX0_lowest RX0 "lowest" rm_X0_lowest 2) : ∀ (n : Nat) (u2_1 : Int32) (x : (Unit ⊕ Int32)), b_X0_lowest_2 K M x_0 n u2_1 = some x → ∀ (hX : ∀ x8, x = .inl x8 → Y X K M 0 0 25 [] []), ∀ (hE : ∀ x9, x = .inr x9 → yRt X (Option.some Jvm.ClassFile.FieldType.int) K0 M0 ((yFi K M) x9).1 ((yFi K M) x9).2.1 ((yFi K M) x9).2.2 0 0), Y X K M 0 0 2 [(0, .int x_0), (1, .int u2_1)] [] := by
  intro n
  induction n with
  | zero =>
    intro u2_1 x h
    exact nomatch (show (none : Option _) = some x from h)
  | succ n ih =>
    intro u2_1 x h hX hE
    rw [b_X0_lowest_2] at h
    refine y_iload_n C dX0_lowest_2 rfl ?_
    refine y_bipush C dX0_lowest_3 kb_12 ?_
    refine y_icmp_ge C dX0_lowest_5 (tgt := 25) rfl (fun c1 => ?_) (fun c1 => ?_)
    · have h := itT c1 h
      have e0 := Option.some.inj h
      subst e0
      exact y_sel [] rfl (hX _ rfl)
    · have h := itF c1 h
      refine y_iload_n C dX0_lowest_8 rfl ?_
      refine y_iload_n C dX0_lowest_9 rfl ?_
      refine y_ishr C dX0_lowest_10 ?_
      refine y_iconst C dX0_lowest_11 kc_1 ?_
      refine y_iand C dX0_lowest_12 ?_
      refine y_iconst C dX0_lowest_13 kc_1 ?_
      refine y_icmp_ne C dX0_lowest_14 (tgt := 19) rfl (fun c2 => ?_) (fun c2 => ?_)
      · have h := itF c2 h
        obtain ⟨v3, ev3, h⟩ := ob h
        have ev3 := Option.some.inj ev3
        refine y_iinc C dX0_lowest_19 (by decide) rfl (v := v3) (by subst ev3; rfl) (L' := [(1, .int v3), (0, .int x_0)]) rfl ?_
        refine y_goto C dX0_lowest_22 (tgt := 2) rfl ?_
        exact y_sel [0, 1] rfl (ih _ _  h hX hE)
      · have h := itT c2 h
        refine y_iload_n C dX0_lowest_17 rfl ?_
        have e0 := Option.some.inj h
        subst e0
        have E := hE _ rfl
        exact y_iret C E (Nat.zero_le _) (Nat.zero_le _) dX0_lowest_18
set_option maxRecDepth 100000 in
def b_X0_lowest (K : yK) (M : yM) (x1 : Int32) : Option Int32 := (Option.bind (b_X0_lowest_2 K M x1 1000 ((0 : Int32))) fun x9 => Sum.elim (fun j1 => (some (-1 : Int32))) (fun r9 => (some r9)) x9)
set_option maxHeartbeats 4000000 in
set_option maxRecDepth 100000 in
theorem m_X0_lowest (K : yK) (M : yM) (x1 : Int32) : yMet yX0_lowest cX0_lowest 2 (Option.some Jvm.ClassFile.FieldType.int) rm_X0_lowest K M [.int x1] (b_X0_lowest K M x1) (yFi K M) := by
  refine yM_intro (by decide) (Nat.le_of_ble_eq_true rfl) (fun X r h C E => ?_)
  replace C : yCx X cX0_lowest RX0 "lowest" rm_X0_lowest 2 := C
  show Y X K M 0 0 0 [(0, .int x1)] []
  unfold b_X0_lowest at h
  refine y_iconst C dX0_lowest_0 kc_0 ?_
  refine y_istore_n C dX0_lowest_1 (by decide) (L' := [(1, .int (0)), (0, .int x1)]) rfl ?_
  obtain ⟨x9, hx9, h⟩ := ob h
  refine y_sel [0, 1] rfl (l_X0_lowest_2 (K0 := K) (M0 := M) C 1000 _ _ hx9 (fun j1 e9 => ?_) (fun r9 e9 => ?_))
  · subst e9
    dsimp only [Sum.elim_inl] at h
    refine y_iconst C dX0_lowest_25 kc_m1 ?_
    have e0 := Option.some.inj h
    subst e0
    exact y_iret C E (Nat.zero_le _) (Nat.zero_le _) dX0_lowest_26
  · subst e9
    dsimp only [Sum.elim_inr] at h
    have e0 := Option.some.inj h
    subst e0
    exact E
set_option maxRecDepth 100000 in
def b_X0_pages (K : yK) (M : yM) (t : Nat) : Option Int32 := (if gO K t 0 = true then (Option.bind (b_X0_firstOf K M t ((M t 8))) fun r2 => (some r2)) else none)
set_option maxHeartbeats 4000000 in
set_option maxRecDepth 100000 in
theorem m_X0_pages (K : yK) (M : yM) (t : Nat) : yMet yX0_pages cX0_pages 1 (Option.some Jvm.ClassFile.FieldType.int) rm_X0_pages K M [.ref t] (b_X0_pages K M t) (yFi K M) := by
  refine yM_intro (by decide) (Nat.le_of_ble_eq_true rfl) (fun X r h C E => ?_)
  replace C : yCx X cX0_pages RX0 "pages" rm_X0_pages 1 := C
  show Y X K M 0 0 0 [(0, .ref t)] []
  unfold b_X0_pages at h
  refine y_aload_n C dX0_pages_0 rfl ?_
  refine y_aload_n C dX0_pages_1 rfl ?_
  obtain ⟨g1, h⟩ := gd h
  refine y_geti C fl_X0_54 g1 dX0_pages_2 ?_
  obtain ⟨r2, hr2, h⟩ := ob h
  refine y_cV C [.int (M t 8)] (m_X0_firstOf K M t ((M t 8))) hr2 g1 cw_X0_75 rfl (by decide) ⟨rfl, rfl⟩ ⟨Nat.zero_le _, Nat.zero_le _⟩ (Nat.le_of_ble_eq_true rfl) rfl rfl rfl dX0_pages_5 ?_
  have e0 := Option.some.inj h
  subst e0
  exact y_iret C E (Nat.zero_le _) (Nat.zero_le _) dX0_pages_8
def b_X0_readPages_3 (K : yK) (t : Nat) (x_1 : Int32) (x_2 : Int32) (x_3 : Int32) : Nat → yM → Int32 → Option yM
  | 0, _, _ => none
  | n + 1, M, u3_4 => (if gO K t 0 = true then (if (M t 8) ≤ u3_4 then (some M) else (Option.bind (if x_2 ≤ 0 then (some false) else (Option.bind (b_X0_liesIn K M t u3_4 x_1 ((x_1 + x_2))) fun r5 => (if r5 = true then (some true) else (Option.bind (b_X0_liesIn K M t u3_4 ((x_1 - x_3)) (((x_1 + x_2) - x_3))) fun r7 => (if r7 = true then (some true) else (some false)))))) fun j4 => (Option.bind (if j4 = true then (if (((M t 13) >>> (u3_4 &&& 31)) &&& (1 : Int32)) = 0 then (Option.bind (some (yS M t 14 ((M t 14) ||| ((1 : Int32) <<< (u3_4 &&& 31))))) fun M12 => (Option.bind (K.2.2 t 4) fun q13 => (if gA K q13 u3_4 = true then (Option.bind (some (yS M12 q13 (u3_4).toNatClampNeg (M12 t 11))) fun M15 => (some M15)) else none))) else (some M)) else (some M)) fun j10 => (Option.bind (some (u3_4 + (1 : Int32))) fun v16 => (b_X0_readPages_3 K t x_1 x_2 x_3 n j10 v16))))) else none)
set_option maxHeartbeats 4000000 in
set_option maxRecDepth 100000 in
theorem l_X0_readPages_3 {X : yX} {K : yK} {t : Nat} {x_1 : Int32} {x_2 : Int32} {x_3 : Int32} (C : yCx X cX0_readPages RX0 "readPages" rm_X0_readPages 6) : ∀ (n : Nat) (M : yM) (u3_4 : Int32) (x : yM), b_X0_readPages_3 K t x_1 x_2 x_3 n M u3_4 = some x → ∀ (hX : Y X K x 0 0 100 [] []), Y X K M 0 0 3 [(0, .ref t), (1, .int x_1), (2, .int x_2), (3, .int x_3), (4, .int u3_4)] [] := by
  intro n
  induction n with
  | zero =>
    intro M u3_4 x h
    exact nomatch (show (none : Option _) = some x from h)
  | succ n ih =>
    intro M u3_4 x h hX
    rw [b_X0_readPages_3] at h
    refine y_iload C dX0_readPages_3 rfl ?_
    refine y_aload_n C dX0_readPages_5 rfl ?_
    obtain ⟨g1, h⟩ := gd h
    refine y_geti C fl_X0_54 g1 dX0_readPages_6 ?_
    refine y_icmp_ge C dX0_readPages_9 (tgt := 100) rfl (fun c2 => ?_) (fun c2 => ?_)
    · have h := itT c2 h
      have e0 := Option.some.inj h
      subst e0
      exact y_sel [] rfl hX
    · have h := itF c2 h
      refine y_iload_n C dX0_readPages_12 rfl ?_
      obtain ⟨j4, hj4, h⟩ := ob h
      have hJj4 : Y X K M 0 0 51 [(0, .ref t), (1, .int x_1), (2, .int x_2), (3, .int x_3), (4, .int u3_4)] [.int (bI j4)] := by
        refine y_istore C dX0_readPages_51 (by decide) (L' := [(5, .int (bI j4)), (0, .ref t), (1, .int x_1), (2, .int x_2), (3, .int x_3), (4, .int u3_4)]) rfl ?_
        refine y_iload C dX0_readPages_53 rfl ?_
        obtain ⟨j10, hj10, h⟩ := ob h
        have hJj10 : Y X K j10 0 0 94 [(0, .ref t), (1, .int x_1), (2, .int x_2), (3, .int x_3), (4, .int u3_4)] [] := by
          obtain ⟨v16, ev16, h⟩ := ob h
          have ev16 := Option.some.inj ev16
          refine y_iinc C dX0_readPages_94 (by decide) rfl (v := v16) (by subst ev16; rfl) (L' := [(4, .int v16), (0, .ref t), (1, .int x_1), (2, .int x_2), (3, .int x_3)]) rfl ?_
          refine y_goto C dX0_readPages_97 (tgt := 3) rfl ?_
          exact y_sel [0, 1, 2, 3, 4] rfl (ih _ _ _  h hX)
        replace h := hj10
        refine y_ifeqB C dX0_readPages_55 (tgt := 94) rfl (fun c9 => ?_) (fun c9 => ?_)
        · have h := itFb c9 h
          have e0 := Option.some.inj h
          subst e0
          exact y_sel [0, 1, 2, 3, 4] rfl hJj10
        · have h := itT c9 h
          refine y_aload_n C dX0_readPages_58 rfl ?_
          refine y_geti C fl_X0_66 g1 dX0_readPages_59 ?_
          refine y_iload C dX0_readPages_62 rfl ?_
          refine y_ishr C dX0_readPages_64 ?_
          refine y_iconst C dX0_readPages_65 kc_1 ?_
          refine y_iand C dX0_readPages_66 ?_
          refine y_if_ne C dX0_readPages_67 (tgt := 94) rfl (fun c11 => ?_) (fun c11 => ?_)
          · have h := itF c11 h
            have e0 := Option.some.inj h
            subst e0
            exact y_sel [0, 1, 2, 3, 4] rfl hJj10
          · have h := itT c11 h
            refine y_aload_n C dX0_readPages_70 rfl ?_
            refine y_dup C dX0_readPages_71 rfl ?_
            refine y_geti C fl_X0_69 g1 dX0_readPages_72 ?_
            refine y_iconst C dX0_readPages_75 kc_1 ?_
            refine y_iload C dX0_readPages_76 rfl ?_
            refine y_ishl C dX0_readPages_78 ?_
            refine y_ior C dX0_readPages_79 ?_
            obtain ⟨M12, eM12, h⟩ := ob h
            have eM12 := Option.some.inj eM12
            refine y_puti C fl_X0_69 rfl g1 rfl rfl dX0_readPages_80 eM12 ?_
            refine y_aload_n C dX0_readPages_83 rfl ?_
            obtain ⟨q13, hq13, h⟩ := ob h
            refine y_getr C fl_X0_24 g1 hq13 dX0_readPages_84 ?_
            refine y_iload C dX0_readPages_87 rfl ?_
            refine y_aload_n C dX0_readPages_89 rfl ?_
            refine y_geti C fl_X0_63 g1 dX0_readPages_90 ?_
            obtain ⟨g14, h⟩ := gd h
            obtain ⟨M15, eM15, h⟩ := ob h
            have eM15 := Option.some.inj eM15
            refine y_iast C g14 dX0_readPages_93 eM15 ?_
            have e0 := Option.some.inj h
            subst e0
            exact y_sel [0, 1, 2, 3, 4] rfl hJj10
      replace h := hj4
      refine y_if_le C dX0_readPages_13 (tgt := 50) rfl (fun c3 => ?_) (fun c3 => ?_)
      · have h := itT c3 h
        refine y_iconst C dX0_readPages_50 kc_0 ?_
        have e0 := Option.some.inj h
        subst e0
        exact y_sel [0, 1, 2, 3, 4] rfl hJj4
      · have h := itF c3 h
        refine y_aload_n C dX0_readPages_16 rfl ?_
        refine y_iload C dX0_readPages_17 rfl ?_
        refine y_iload_n C dX0_readPages_19 rfl ?_
        refine y_iload_n C dX0_readPages_20 rfl ?_
        refine y_iload_n C dX0_readPages_21 rfl ?_
        refine y_iadd C dX0_readPages_22 ?_
        obtain ⟨r5, hr5, h⟩ := ob h
        refine y_cV C [.int u3_4, .int x_1, .int (x_1 + x_2)] (m_X0_liesIn K M t u3_4 x_1 ((x_1 + x_2))) hr5 g1 cw_X0_125 rfl (by decide) ⟨rfl, rfl⟩ ⟨Nat.zero_le _, Nat.zero_le _⟩ (Nat.le_of_ble_eq_true rfl) rfl rfl rfl dX0_readPages_23 ?_
        refine y_ifneB C dX0_readPages_26 (tgt := 46) rfl (fun c6 => ?_) (fun c6 => ?_)
        · have h := itT c6 h
          refine y_iconst C dX0_readPages_46 kc_1 ?_
          refine y_goto C dX0_readPages_47 (tgt := 51) rfl ?_
          have e0 := Option.some.inj h
          subst e0
          exact y_sel [0, 1, 2, 3, 4] rfl hJj4
        · have h := itFb c6 h
          refine y_aload_n C dX0_readPages_29 rfl ?_
          refine y_iload C dX0_readPages_30 rfl ?_
          refine y_iload_n C dX0_readPages_32 rfl ?_
          refine y_iload_n C dX0_readPages_33 rfl ?_
          refine y_isub C dX0_readPages_34 ?_
          refine y_iload_n C dX0_readPages_35 rfl ?_
          refine y_iload_n C dX0_readPages_36 rfl ?_
          refine y_iadd C dX0_readPages_37 ?_
          refine y_iload_n C dX0_readPages_38 rfl ?_
          refine y_isub C dX0_readPages_39 ?_
          obtain ⟨r7, hr7, h⟩ := ob h
          refine y_cV C [.int u3_4, .int (x_1 - x_3), .int ((x_1 + x_2) - x_3)] (m_X0_liesIn K M t u3_4 ((x_1 - x_3)) (((x_1 + x_2) - x_3))) hr7 g1 cw_X0_125 rfl (by decide) ⟨rfl, rfl⟩ ⟨Nat.zero_le _, Nat.zero_le _⟩ (Nat.le_of_ble_eq_true rfl) rfl rfl rfl dX0_readPages_40 ?_
          refine y_ifeqB C dX0_readPages_43 (tgt := 50) rfl (fun c8 => ?_) (fun c8 => ?_)
          · have h := itFb c8 h
            refine y_iconst C dX0_readPages_50 kc_0 ?_
            have e0 := Option.some.inj h
            subst e0
            exact y_sel [0, 1, 2, 3, 4] rfl hJj4
          · have h := itT c8 h
            refine y_iconst C dX0_readPages_46 kc_1 ?_
            refine y_goto C dX0_readPages_47 (tgt := 51) rfl ?_
            have e0 := Option.some.inj h
            subst e0
            exact y_sel [0, 1, 2, 3, 4] rfl hJj4
set_option maxRecDepth 100000 in
def b_X0_readPages (K : yK) (M : yM) (t : Nat) (x1 : Int32) (x2 : Int32) (x3 : Int32) : Option yM := (Option.bind (b_X0_readPages_3 K t x1 x2 x3 1000 M ((0 : Int32))) fun j1 => (some j1))
set_option maxHeartbeats 4000000 in
set_option maxRecDepth 100000 in
theorem m_X0_readPages (K : yK) (M : yM) (t : Nat) (x1 : Int32) (x2 : Int32) (x3 : Int32) : yMet yX0_readPages cX0_readPages 6 none rm_X0_readPages K M [.ref t, .int x1, .int x2, .int x3] (b_X0_readPages K M t x1 x2 x3) (yGv K) := by
  refine yM_intro (by decide) (Nat.le_of_ble_eq_true rfl) (fun X r h C E => ?_)
  replace C : yCx X cX0_readPages RX0 "readPages" rm_X0_readPages 6 := C
  show Y X K M 0 0 0 [(0, .ref t), (1, .int x1), (2, .int x2), (3, .int x3)] []
  unfold b_X0_readPages at h
  refine y_iconst C dX0_readPages_0 kc_0 ?_
  refine y_istore C dX0_readPages_1 (by decide) (L' := [(4, .int (0)), (0, .ref t), (1, .int x1), (2, .int x2), (3, .int x3)]) rfl ?_
  obtain ⟨j1, hj1, h⟩ := ob h
  refine y_sel [0, 1, 2, 3, 4] rfl (l_X0_readPages_3 C 1000 _ _ _ hj1 ?_)
  have e0 := Option.some.inj h
  subst e0
  exact y_vret C E (Nat.zero_le _) (Nat.zero_le _) dX0_readPages_100
set_option maxRecDepth 100000 in
def b_X0_passDay (K : yK) (M : yM) (t : Nat) : Option yM := (if gO K t 0 = true then (Option.bind (some (yS M t 11 ((M t 11) + (1 : Int32)))) fun M2 => (Option.bind (some (yS M2 t 14 (0 : Int32))) fun M3 => (Option.bind (some (yS M3 t 16 (M3 t 10))) fun M4 => (Option.bind (b_X0_pages K M4 t) fun r5 => (if r5 ≤ 0 then (some M4) else (Option.bind (b_X0_has K M4 t ((M4 t 12))) fun r7 => (Option.bind (if r7 = true then (Option.bind (K.2.2 t 5) fun q11 => (if gA K q11 (M4 t 12) = true then (some (M4 q11 ((M4 t 12)).toNatClampNeg)) else none)) else (if ¬ r5 = 0 then (some ((M4 t 10) - (M4 t 10) / r5 * r5)) else none)) fun j9 => (Option.bind (some (yS M4 t 16 j9)) fun M13 => (Option.bind (some (yS M13 t 12 (-1 : Int32))) fun M14 => (Option.bind (b_X0_entryOn K M14 t ((M14 t 16))) fun r15 => (Option.bind (b_X0_says K M14 t ((0 : Int32)) r15 ((0 : Int32)) ((0 : Int32))) fun r16 => (Option.bind (some (if r5 < r16.1 then r5 else r16.1)) fun v17 => (Option.bind (b_X0_readPages K r16.2 t ((r16.2 t 16)) v17 r5) fun r18 => (if ¬ r5 = 0 then (Option.bind (some (yS r18 t 10 (((r18 t 16) + v17) - ((r18 t 16) + v17) / r5 * r5))) fun M20 => (some M20)) else none)))))))))))))) else none)
set_option maxHeartbeats 4000000 in
set_option maxRecDepth 100000 in
theorem m_X0_passDay (K : yK) (M : yM) (t : Nat) : yMet yX0_passDay cX0_passDay 3 none rm_X0_passDay K M [.ref t] (b_X0_passDay K M t) (yGv K) := by
  refine yM_intro (by decide) (Nat.le_of_ble_eq_true rfl) (fun X r h C E => ?_)
  replace C : yCx X cX0_passDay RX0 "passDay" rm_X0_passDay 3 := C
  show Y X K M 0 0 0 [(0, .ref t)] []
  unfold b_X0_passDay at h
  refine y_aload_n C dX0_passDay_0 rfl ?_
  refine y_dup C dX0_passDay_1 rfl ?_
  obtain ⟨g1, h⟩ := gd h
  refine y_geti C fl_X0_63 g1 dX0_passDay_2 ?_
  refine y_iconst C dX0_passDay_5 kc_1 ?_
  refine y_iadd C dX0_passDay_6 ?_
  obtain ⟨M2, eM2, h⟩ := ob h
  have eM2 := Option.some.inj eM2
  refine y_puti C fl_X0_63 rfl g1 rfl rfl dX0_passDay_7 eM2 ?_
  refine y_aload_n C dX0_passDay_10 rfl ?_
  refine y_iconst C dX0_passDay_11 kc_0 ?_
  obtain ⟨M3, eM3, h⟩ := ob h
  have eM3 := Option.some.inj eM3
  refine y_puti C fl_X0_69 rfl g1 rfl rfl dX0_passDay_12 eM3 ?_
  refine y_aload_n C dX0_passDay_15 rfl ?_
  refine y_aload_n C dX0_passDay_16 rfl ?_
  refine y_geti C fl_X0_60 g1 dX0_passDay_17 ?_
  obtain ⟨M4, eM4, h⟩ := ob h
  have eM4 := Option.some.inj eM4
  refine y_puti C fl_X0_101 rfl g1 rfl rfl dX0_passDay_20 eM4 ?_
  refine y_aload_n C dX0_passDay_23 rfl ?_
  obtain ⟨r5, hr5, h⟩ := ob h
  refine y_cV C [] (m_X0_pages K M4 t) hr5 g1 cw_X0_104 rfl (by decide) ⟨rfl, rfl⟩ ⟨Nat.zero_le _, Nat.zero_le _⟩ (Nat.le_of_ble_eq_true rfl) rfl rfl rfl dX0_passDay_24 ?_
  refine y_istore_n C dX0_passDay_27 (by decide) (L' := [(1, .int r5), (0, .ref t)]) rfl ?_
  refine y_iload_n C dX0_passDay_28 rfl ?_
  refine y_if_le C dX0_passDay_29 (tgt := 112) rfl (fun c6 => ?_) (fun c6 => ?_)
  · have h := itT c6 h
    have e0 := Option.some.inj h
    subst e0
    exact y_vret C E (Nat.zero_le _) (Nat.zero_le _) dX0_passDay_112
  · have h := itF c6 h
    refine y_aload_n C dX0_passDay_32 rfl ?_
    refine y_aload_n C dX0_passDay_33 rfl ?_
    refine y_aload_n C dX0_passDay_34 rfl ?_
    refine y_geti C fl_X0_36 g1 dX0_passDay_35 ?_
    obtain ⟨r7, hr7, h⟩ := ob h
    refine y_cV C [.int (M4 t 12)] (m_X0_has K M4 t ((M4 t 12))) hr7 g1 cw_X0_79 rfl (by decide) ⟨rfl, rfl⟩ ⟨Nat.zero_le _, Nat.zero_le _⟩ (Nat.le_of_ble_eq_true rfl) rfl rfl rfl dX0_passDay_38 ?_
    obtain ⟨j9, hj9, h⟩ := ob h
    have hJj9 : Y X K M4 0 0 62 [(1, .int r5), (0, .ref t)] [.int j9, .ref t] := by
      obtain ⟨M13, eM13, h⟩ := ob h
      have eM13 := Option.some.inj eM13
      refine y_puti C fl_X0_101 rfl g1 rfl rfl dX0_passDay_62 eM13 ?_
      refine y_aload_n C dX0_passDay_65 rfl ?_
      refine y_iconst C dX0_passDay_66 kc_m1 ?_
      obtain ⟨M14, eM14, h⟩ := ob h
      have eM14 := Option.some.inj eM14
      refine y_puti C fl_X0_36 rfl g1 rfl rfl dX0_passDay_67 eM14 ?_
      refine y_aload_n C dX0_passDay_70 rfl ?_
      refine y_iconst C dX0_passDay_71 kc_0 ?_
      refine y_aload_n C dX0_passDay_72 rfl ?_
      refine y_aload_n C dX0_passDay_73 rfl ?_
      refine y_geti C fl_X0_101 g1 dX0_passDay_74 ?_
      obtain ⟨r15, hr15, h⟩ := ob h
      refine y_cV C [.int (M14 t 16)] (m_X0_entryOn K M14 t ((M14 t 16))) hr15 g1 cw_X0_108 rfl (by decide) ⟨rfl, rfl⟩ ⟨Nat.zero_le _, Nat.zero_le _⟩ (Nat.le_of_ble_eq_true rfl) rfl rfl rfl dX0_passDay_77 ?_
      refine y_iconst C dX0_passDay_80 kc_0 ?_
      refine y_iconst C dX0_passDay_81 kc_0 ?_
      obtain ⟨r16, hr16, h⟩ := ob h
      refine y_cV C [.int (0 : Int32), .int r15, .int (0 : Int32), .int (0 : Int32)] (m_X0_says K M14 t ((0 : Int32)) r15 ((0 : Int32)) ((0 : Int32))) hr16 g1 cw_X0_111 rfl (by decide) ⟨rfl, rfl⟩ ⟨Nat.zero_le _, Nat.zero_le _⟩ (Nat.le_of_ble_eq_true rfl) rfl rfl rfl dX0_passDay_82 ?_
      refine y_iload_n C dX0_passDay_85 rfl ?_
      refine y_min C jm_X0_115 ⟨by decide, Nat.le_of_ble_eq_true rfl, Nat.le_of_ble_eq_true rfl, Nat.le_of_ble_eq_true rfl⟩ dX0_passDay_86 ?_
      obtain ⟨v17, ev17, h⟩ := ob h
      have ev17 := Option.some.inj ev17
      refine y_istore_n C dX0_passDay_89 (by decide) (L' := [(2, .int v17), (1, .int r5), (0, .ref t)]) (by subst ev17; rfl) ?_
      refine y_aload_n C dX0_passDay_90 rfl ?_
      refine y_aload_n C dX0_passDay_91 rfl ?_
      refine y_geti C fl_X0_101 g1 dX0_passDay_92 ?_
      refine y_iload_n C dX0_passDay_95 rfl ?_
      refine y_iload_n C dX0_passDay_96 rfl ?_
      obtain ⟨r18, hr18, h⟩ := ob h
      refine y_cV C [.int (r16.2 t 16), .int v17, .int r5] (m_X0_readPages K r16.2 t ((r16.2 t 16)) v17 r5) hr18 g1 cw_X0_121 rfl (by decide) ⟨rfl, rfl⟩ ⟨Nat.zero_le _, Nat.zero_le _⟩ (Nat.le_of_ble_eq_true rfl) rfl rfl rfl dX0_passDay_97 ?_
      refine y_aload_n C dX0_passDay_100 rfl ?_
      refine y_aload_n C dX0_passDay_101 rfl ?_
      refine y_geti C fl_X0_101 g1 dX0_passDay_102 ?_
      refine y_iload_n C dX0_passDay_105 rfl ?_
      refine y_iadd C dX0_passDay_106 ?_
      refine y_iload_n C dX0_passDay_107 rfl ?_
      obtain ⟨g19, h⟩ := gp h
      refine y_irem C dX0_passDay_108 g19 ?_
      obtain ⟨M20, eM20, h⟩ := ob h
      have eM20 := Option.some.inj eM20
      refine y_puti C fl_X0_60 rfl g1 rfl rfl dX0_passDay_109 eM20 ?_
      have e0 := Option.some.inj h
      subst e0
      exact y_vret C E (Nat.zero_le _) (Nat.zero_le _) dX0_passDay_112
    replace h := hj9
    refine y_ifeqB C dX0_passDay_41 (tgt := 56) rfl (fun c8 => ?_) (fun c8 => ?_)
    · have h := itFb c8 h
      refine y_aload_n C dX0_passDay_56 rfl ?_
      refine y_geti C fl_X0_60 g1 dX0_passDay_57 ?_
      refine y_iload_n C dX0_passDay_60 rfl ?_
      obtain ⟨g10, h⟩ := gp h
      refine y_irem C dX0_passDay_61 g10 ?_
      have e0 := Option.some.inj h
      subst e0
      exact y_sel [1, 0] rfl hJj9
    · have h := itT c8 h
      refine y_aload_n C dX0_passDay_44 rfl ?_
      obtain ⟨q11, hq11, h⟩ := ob h
      refine y_getr C fl_X0_27 g1 hq11 dX0_passDay_45 ?_
      refine y_aload_n C dX0_passDay_48 rfl ?_
      refine y_geti C fl_X0_36 g1 dX0_passDay_49 ?_
      obtain ⟨g12, h⟩ := gd h
      refine y_iald C g12 dX0_passDay_52 ?_
      refine y_goto C dX0_passDay_53 (tgt := 62) rfl ?_
      have e0 := Option.some.inj h
      subst e0
      exact y_sel [1, 0] rfl hJj9
def b_X0_sendsToItself_4 (K : yK) (M : yM) (t : Nat) (x_1 : Int32) : Nat → Int32 → Int32 → Option (Unit ⊕ Bool)
  | 0, _, _ => none
  | n + 1, u4_2, u4_3 => (if (12 : Int32) ≤ u4_3 then (some (.inl ())) else (if gO K t 0 = true then (Option.bind (b_X0_has K M t u4_2) fun r3 => (if r3 = true then (Option.bind (K.2.2 t 3) fun q5 => (if gA K q5 u4_2 = true then (Option.bind (some (M q5 (u4_2).toNatClampNeg)) fun v7 => (if v7 = x_1 then (some (.inr true)) else (Option.bind (some (u4_3 + (1 : Int32))) fun v9 => (b_X0_sendsToItself_4 K M t x_1 n v7 v9)))) else none)) else (some (.inl ())))) else none))
set_option maxHeartbeats 4000000 in
set_option maxRecDepth 100000 in
theorem l_X0_sendsToItself_4 {X : yX} {K : yK} {M : yM} {K0 : yK} {M0 : yM} {t : Nat} {x_1 : Int32} (C : yCx X cX0_sendsToItself RX0 "sendsToItself" rm_X0_sendsToItself 4) : ∀ (n : Nat) (u4_2 : Int32) (u4_3 : Int32) (x : (Unit ⊕ Bool)), b_X0_sendsToItself_4 K M t x_1 n u4_2 u4_3 = some x → ∀ (hX : ∀ x8, x = .inl x8 → Y X K M 0 0 38 [] []), ∀ (hE : ∀ x9, x = .inr x9 → yRt X (Option.some Jvm.ClassFile.FieldType.boolean) K0 M0 ((yFb K M) x9).1 ((yFb K M) x9).2.1 ((yFb K M) x9).2.2 0 0), Y X K M 0 0 4 [(0, .ref t), (1, .int x_1), (2, .int u4_2), (3, .int u4_3)] [] := by
  intro n
  induction n with
  | zero =>
    intro u4_2 u4_3 x h
    exact nomatch (show (none : Option _) = some x from h)
  | succ n ih =>
    intro u4_2 u4_3 x h hX hE
    rw [b_X0_sendsToItself_4] at h
    refine y_iload_n C dX0_sendsToItself_4 rfl ?_
    refine y_bipush C dX0_sendsToItself_5 kb_12 ?_
    refine y_icmp_ge C dX0_sendsToItself_7 (tgt := 38) rfl (fun c1 => ?_) (fun c1 => ?_)
    · have h := itT c1 h
      have e0 := Option.some.inj h
      subst e0
      exact y_sel [] rfl (hX _ rfl)
    · have h := itF c1 h
      refine y_aload_n C dX0_sendsToItself_10 rfl ?_
      refine y_iload_n C dX0_sendsToItself_11 rfl ?_
      obtain ⟨g2, h⟩ := gd h
      obtain ⟨r3, hr3, h⟩ := ob h
      refine y_cV C [.int u4_2] (m_X0_has K M t u4_2) hr3 g2 cw_X0_79 rfl (by decide) ⟨rfl, rfl⟩ ⟨Nat.zero_le _, Nat.zero_le _⟩ (Nat.le_of_ble_eq_true rfl) rfl rfl rfl dX0_sendsToItself_12 ?_
      refine y_ifeqB C dX0_sendsToItself_15 (tgt := 38) rfl (fun c4 => ?_) (fun c4 => ?_)
      · have h := itFb c4 h
        have e0 := Option.some.inj h
        subst e0
        exact y_sel [] rfl (hX _ rfl)
      · have h := itT c4 h
        refine y_aload_n C dX0_sendsToItself_18 rfl ?_
        obtain ⟨q5, hq5, h⟩ := ob h
        refine y_getr C fl_X0_21 g2 hq5 dX0_sendsToItself_19 ?_
        refine y_iload_n C dX0_sendsToItself_22 rfl ?_
        obtain ⟨g6, h⟩ := gd h
        refine y_iald C g6 dX0_sendsToItself_23 ?_
        obtain ⟨v7, ev7, h⟩ := ob h
        have ev7 := Option.some.inj ev7
        refine y_istore_n C dX0_sendsToItself_24 (by decide) (L' := [(2, .int v7), (0, .ref t), (1, .int x_1), (3, .int u4_3)]) (by subst ev7; rfl) ?_
        refine y_iload_n C dX0_sendsToItself_25 rfl ?_
        refine y_iload_n C dX0_sendsToItself_26 rfl ?_
        refine y_icmp_ne C dX0_sendsToItself_27 (tgt := 32) rfl (fun c8 => ?_) (fun c8 => ?_)
        · have h := itF c8 h
          obtain ⟨v9, ev9, h⟩ := ob h
          have ev9 := Option.some.inj ev9
          refine y_iinc C dX0_sendsToItself_32 (by decide) rfl (v := v9) (by subst ev9; rfl) (L' := [(3, .int v9), (2, .int v7), (0, .ref t), (1, .int x_1)]) rfl ?_
          refine y_goto C dX0_sendsToItself_35 (tgt := 4) rfl ?_
          exact y_sel [0, 1, 2, 3] rfl (ih _ _ _  h hX hE)
        · have h := itT c8 h
          refine y_iconst C dX0_sendsToItself_30 kc_1 ?_
          have e0 := Option.some.inj h
          subst e0
          have E := hE _ rfl
          exact y_bret (b := true) C E (Nat.zero_le _) (Nat.zero_le _) dX0_sendsToItself_31
set_option maxRecDepth 100000 in
def b_X0_sendsToItself (K : yK) (M : yM) (t : Nat) (x1 : Int32) : Option Bool := (Option.bind (b_X0_sendsToItself_4 K M t x1 1000 x1 ((0 : Int32))) fun x9 => Sum.elim (fun j1 => (some false)) (fun r9 => (some r9)) x9)
set_option maxHeartbeats 4000000 in
set_option maxRecDepth 100000 in
theorem m_X0_sendsToItself (K : yK) (M : yM) (t : Nat) (x1 : Int32) : yMet yX0_sendsToItself cX0_sendsToItself 4 (Option.some Jvm.ClassFile.FieldType.boolean) rm_X0_sendsToItself K M [.ref t, .int x1] (b_X0_sendsToItself K M t x1) (yFb K M) := by
  refine yM_intro (by decide) (Nat.le_of_ble_eq_true rfl) (fun X r h C E => ?_)
  replace C : yCx X cX0_sendsToItself RX0 "sendsToItself" rm_X0_sendsToItself 4 := C
  show Y X K M 0 0 0 [(0, .ref t), (1, .int x1)] []
  unfold b_X0_sendsToItself at h
  refine y_iload_n C dX0_sendsToItself_0 rfl ?_
  refine y_istore_n C dX0_sendsToItself_1 (by decide) (L' := [(2, .int x1), (0, .ref t), (1, .int x1)]) rfl ?_
  refine y_iconst C dX0_sendsToItself_2 kc_0 ?_
  refine y_istore_n C dX0_sendsToItself_3 (by decide) (L' := [(3, .int (0)), (2, .int x1), (0, .ref t), (1, .int x1)]) rfl ?_
  obtain ⟨x9, hx9, h⟩ := ob h
  refine y_sel [0, 1, 2, 3] rfl (l_X0_sendsToItself_4 (K0 := K) (M0 := M) C 1000 _ _ _ hx9 (fun j1 e9 => ?_) (fun r9 e9 => ?_))
  · subst e9
    dsimp only [Sum.elim_inl] at h
    refine y_iconst C dX0_sendsToItself_38 kc_0 ?_
    have e0 := Option.some.inj h
    subst e0
    exact y_bret (b := false) C E (Nat.zero_le _) (Nat.zero_le _) dX0_sendsToItself_39
  · subst e9
    dsimp only [Sum.elim_inr] at h
    have e0 := Option.some.inj h
    subst e0
    exact E
set_option maxRecDepth 100000 in
def b_X0_takeFrom (K : yK) (M : yM) (t : Nat) (a1 : Nat) : Option yM := (if gO K a1 0 = true then (Option.bind (K.2.2 a1 0) fun q2 => (if gO K t 0 = true then (Option.bind (K.2.2 t 0) fun q4 => (if gC K q2 (0 : Int32) q4 (0 : Int32) (12 : Int32) = true then (Option.bind (some (yCp M q2 (0 : Int32) q4 (0 : Int32) (12 : Int32))) fun M6 => (Option.bind (K.2.2 a1 1) fun q7 => (Option.bind (K.2.2 t 1) fun q8 => (if gC K q7 (0 : Int32) q8 (0 : Int32) (12 : Int32) = true then (Option.bind (some (yCp M6 q7 (0 : Int32) q8 (0 : Int32) (12 : Int32))) fun M10 => (Option.bind (K.2.2 a1 2) fun q11 => (Option.bind (K.2.2 t 2) fun q12 => (if gC K q11 (0 : Int32) q12 (0 : Int32) (12 : Int32) = true then (Option.bind (some (yCp M10 q11 (0 : Int32) q12 (0 : Int32) (12 : Int32))) fun M14 => (Option.bind (K.2.2 a1 3) fun q15 => (Option.bind (K.2.2 t 3) fun q16 => (if gC K q15 (0 : Int32) q16 (0 : Int32) (12 : Int32) = true then (Option.bind (some (yCp M14 q15 (0 : Int32) q16 (0 : Int32) (12 : Int32))) fun M18 => (Option.bind (K.2.2 a1 4) fun q19 => (Option.bind (K.2.2 t 4) fun q20 => (if gC K q19 (0 : Int32) q20 (0 : Int32) (12 : Int32) = true then (Option.bind (some (yCp M18 q19 (0 : Int32) q20 (0 : Int32) (12 : Int32))) fun M22 => (Option.bind (K.2.2 a1 5) fun q23 => (Option.bind (K.2.2 t 5) fun q24 => (if gC K q23 (0 : Int32) q24 (0 : Int32) (13 : Int32) = true then (Option.bind (some (yCp M22 q23 (0 : Int32) q24 (0 : Int32) (13 : Int32))) fun M26 => (Option.bind (K.2.2 a1 6) fun q27 => (Option.bind (K.2.2 t 6) fun q28 => (if gC K q27 (0 : Int32) q28 (0 : Int32) (12 : Int32) = true then (Option.bind (some (yCp M26 q27 (0 : Int32) q28 (0 : Int32) (12 : Int32))) fun M30 => (Option.bind (K.2.2 a1 7) fun q31 => (Option.bind (K.2.2 t 7) fun q32 => (if gC K q31 (0 : Int32) q32 (0 : Int32) (6 : Int32) = true then (Option.bind (some (yCp M30 q31 (0 : Int32) q32 (0 : Int32) (6 : Int32))) fun M34 => (Option.bind (some (yS M34 t 8 (M34 a1 8))) fun M35 => (Option.bind (some (yS M35 t 9 (M35 a1 9))) fun M36 => (Option.bind (some (yS M36 t 10 (M36 a1 10))) fun M37 => (Option.bind (some (yS M37 t 11 (M37 a1 11))) fun M38 => (Option.bind (some (yS M38 t 12 (M38 a1 12))) fun M39 => (Option.bind (some (yS M39 t 13 (M39 a1 13))) fun M40 => (Option.bind (some (yS M40 t 14 (M40 a1 14))) fun M41 => (Option.bind (some (yS M41 t 15 (M41 a1 15))) fun M42 => (some M42)))))))))) else none)))) else none)))) else none)))) else none)))) else none)))) else none)))) else none)))) else none)) else none)) else none)
set_option maxHeartbeats 4000000 in
set_option maxRecDepth 100000 in
theorem m_X0_takeFrom (K : yK) (M : yM) (t : Nat) (a1 : Nat) : yMet yX0_takeFrom cX0_takeFrom 2 none rm_X0_takeFrom K M [.ref t, .ref a1] (b_X0_takeFrom K M t a1) (yGv K) := by
  refine yM_intro (by decide) (Nat.le_of_ble_eq_true rfl) (fun X r h C E => ?_)
  replace C : yCx X cX0_takeFrom RX0 "takeFrom" rm_X0_takeFrom 2 := C
  show Y X K M 0 0 0 [(0, .ref t), (1, .ref a1)] []
  unfold b_X0_takeFrom at h
  refine y_aload_n C dX0_takeFrom_0 rfl ?_
  obtain ⟨g1, h⟩ := gd h
  obtain ⟨q2, hq2, h⟩ := ob h
  refine y_getr C fl_X0_9 g1 hq2 dX0_takeFrom_1 ?_
  refine y_iconst C dX0_takeFrom_4 kc_0 ?_
  refine y_aload_n C dX0_takeFrom_5 rfl ?_
  obtain ⟨g3, h⟩ := gd h
  obtain ⟨q4, hq4, h⟩ := ob h
  refine y_getr C fl_X0_9 g3 hq4 dX0_takeFrom_6 ?_
  refine y_iconst C dX0_takeFrom_9 kc_0 ?_
  refine y_bipush C dX0_takeFrom_10 kb_12 ?_
  obtain ⟨g5, h⟩ := gd h
  obtain ⟨M6, eM6, h⟩ := ob h
  have eM6 := Option.some.inj eM6
  refine y_copy C jm_X0_48 ⟨by decide, Nat.le_of_ble_eq_true rfl⟩ g5 dX0_takeFrom_12 eM6 ?_
  refine y_aload_n C dX0_takeFrom_15 rfl ?_
  obtain ⟨q7, hq7, h⟩ := ob h
  refine y_getr C fl_X0_15 g1 hq7 dX0_takeFrom_16 ?_
  refine y_iconst C dX0_takeFrom_19 kc_0 ?_
  refine y_aload_n C dX0_takeFrom_20 rfl ?_
  obtain ⟨q8, hq8, h⟩ := ob h
  refine y_getr C fl_X0_15 g3 hq8 dX0_takeFrom_21 ?_
  refine y_iconst C dX0_takeFrom_24 kc_0 ?_
  refine y_bipush C dX0_takeFrom_25 kb_12 ?_
  obtain ⟨g9, h⟩ := gd h
  obtain ⟨M10, eM10, h⟩ := ob h
  have eM10 := Option.some.inj eM10
  refine y_copy C jm_X0_48 ⟨by decide, Nat.le_of_ble_eq_true rfl⟩ g9 dX0_takeFrom_27 eM10 ?_
  refine y_aload_n C dX0_takeFrom_30 rfl ?_
  obtain ⟨q11, hq11, h⟩ := ob h
  refine y_getr C fl_X0_18 g1 hq11 dX0_takeFrom_31 ?_
  refine y_iconst C dX0_takeFrom_34 kc_0 ?_
  refine y_aload_n C dX0_takeFrom_35 rfl ?_
  obtain ⟨q12, hq12, h⟩ := ob h
  refine y_getr C fl_X0_18 g3 hq12 dX0_takeFrom_36 ?_
  refine y_iconst C dX0_takeFrom_39 kc_0 ?_
  refine y_bipush C dX0_takeFrom_40 kb_12 ?_
  obtain ⟨g13, h⟩ := gd h
  obtain ⟨M14, eM14, h⟩ := ob h
  have eM14 := Option.some.inj eM14
  refine y_copy C jm_X0_48 ⟨by decide, Nat.le_of_ble_eq_true rfl⟩ g13 dX0_takeFrom_42 eM14 ?_
  refine y_aload_n C dX0_takeFrom_45 rfl ?_
  obtain ⟨q15, hq15, h⟩ := ob h
  refine y_getr C fl_X0_21 g1 hq15 dX0_takeFrom_46 ?_
  refine y_iconst C dX0_takeFrom_49 kc_0 ?_
  refine y_aload_n C dX0_takeFrom_50 rfl ?_
  obtain ⟨q16, hq16, h⟩ := ob h
  refine y_getr C fl_X0_21 g3 hq16 dX0_takeFrom_51 ?_
  refine y_iconst C dX0_takeFrom_54 kc_0 ?_
  refine y_bipush C dX0_takeFrom_55 kb_12 ?_
  obtain ⟨g17, h⟩ := gd h
  obtain ⟨M18, eM18, h⟩ := ob h
  have eM18 := Option.some.inj eM18
  refine y_copy C jm_X0_48 ⟨by decide, Nat.le_of_ble_eq_true rfl⟩ g17 dX0_takeFrom_57 eM18 ?_
  refine y_aload_n C dX0_takeFrom_60 rfl ?_
  obtain ⟨q19, hq19, h⟩ := ob h
  refine y_getr C fl_X0_24 g1 hq19 dX0_takeFrom_61 ?_
  refine y_iconst C dX0_takeFrom_64 kc_0 ?_
  refine y_aload_n C dX0_takeFrom_65 rfl ?_
  obtain ⟨q20, hq20, h⟩ := ob h
  refine y_getr C fl_X0_24 g3 hq20 dX0_takeFrom_66 ?_
  refine y_iconst C dX0_takeFrom_69 kc_0 ?_
  refine y_bipush C dX0_takeFrom_70 kb_12 ?_
  obtain ⟨g21, h⟩ := gd h
  obtain ⟨M22, eM22, h⟩ := ob h
  have eM22 := Option.some.inj eM22
  refine y_copy C jm_X0_48 ⟨by decide, Nat.le_of_ble_eq_true rfl⟩ g21 dX0_takeFrom_72 eM22 ?_
  refine y_aload_n C dX0_takeFrom_75 rfl ?_
  obtain ⟨q23, hq23, h⟩ := ob h
  refine y_getr C fl_X0_27 g1 hq23 dX0_takeFrom_76 ?_
  refine y_iconst C dX0_takeFrom_79 kc_0 ?_
  refine y_aload_n C dX0_takeFrom_80 rfl ?_
  obtain ⟨q24, hq24, h⟩ := ob h
  refine y_getr C fl_X0_27 g3 hq24 dX0_takeFrom_81 ?_
  refine y_iconst C dX0_takeFrom_84 kc_0 ?_
  refine y_bipush C dX0_takeFrom_85 kb_13 ?_
  obtain ⟨g25, h⟩ := gd h
  obtain ⟨M26, eM26, h⟩ := ob h
  have eM26 := Option.some.inj eM26
  refine y_copy C jm_X0_48 ⟨by decide, Nat.le_of_ble_eq_true rfl⟩ g25 dX0_takeFrom_87 eM26 ?_
  refine y_aload_n C dX0_takeFrom_90 rfl ?_
  obtain ⟨q27, hq27, h⟩ := ob h
  refine y_getr C fl_X0_30 g1 hq27 dX0_takeFrom_91 ?_
  refine y_iconst C dX0_takeFrom_94 kc_0 ?_
  refine y_aload_n C dX0_takeFrom_95 rfl ?_
  obtain ⟨q28, hq28, h⟩ := ob h
  refine y_getr C fl_X0_30 g3 hq28 dX0_takeFrom_96 ?_
  refine y_iconst C dX0_takeFrom_99 kc_0 ?_
  refine y_bipush C dX0_takeFrom_100 kb_12 ?_
  obtain ⟨g29, h⟩ := gd h
  obtain ⟨M30, eM30, h⟩ := ob h
  have eM30 := Option.some.inj eM30
  refine y_copy C jm_X0_48 ⟨by decide, Nat.le_of_ble_eq_true rfl⟩ g29 dX0_takeFrom_102 eM30 ?_
  refine y_aload_n C dX0_takeFrom_105 rfl ?_
  obtain ⟨q31, hq31, h⟩ := ob h
  refine y_getr C fl_X0_33 g1 hq31 dX0_takeFrom_106 ?_
  refine y_iconst C dX0_takeFrom_109 kc_0 ?_
  refine y_aload_n C dX0_takeFrom_110 rfl ?_
  obtain ⟨q32, hq32, h⟩ := ob h
  refine y_getr C fl_X0_33 g3 hq32 dX0_takeFrom_111 ?_
  refine y_iconst C dX0_takeFrom_114 kc_0 ?_
  refine y_bipush C dX0_takeFrom_115 kb_6 ?_
  obtain ⟨g33, h⟩ := gd h
  obtain ⟨M34, eM34, h⟩ := ob h
  have eM34 := Option.some.inj eM34
  refine y_copy C jm_X0_48 ⟨by decide, Nat.le_of_ble_eq_true rfl⟩ g33 dX0_takeFrom_117 eM34 ?_
  refine y_aload_n C dX0_takeFrom_120 rfl ?_
  refine y_aload_n C dX0_takeFrom_121 rfl ?_
  refine y_geti C fl_X0_54 g1 dX0_takeFrom_122 ?_
  obtain ⟨M35, eM35, h⟩ := ob h
  have eM35 := Option.some.inj eM35
  refine y_puti C fl_X0_54 rfl g3 rfl rfl dX0_takeFrom_125 eM35 ?_
  refine y_aload_n C dX0_takeFrom_128 rfl ?_
  refine y_aload_n C dX0_takeFrom_129 rfl ?_
  refine y_geti C fl_X0_57 g1 dX0_takeFrom_130 ?_
  obtain ⟨M36, eM36, h⟩ := ob h
  have eM36 := Option.some.inj eM36
  refine y_puti C fl_X0_57 rfl g3 rfl rfl dX0_takeFrom_133 eM36 ?_
  refine y_aload_n C dX0_takeFrom_136 rfl ?_
  refine y_aload_n C dX0_takeFrom_137 rfl ?_
  refine y_geti C fl_X0_60 g1 dX0_takeFrom_138 ?_
  obtain ⟨M37, eM37, h⟩ := ob h
  have eM37 := Option.some.inj eM37
  refine y_puti C fl_X0_60 rfl g3 rfl rfl dX0_takeFrom_141 eM37 ?_
  refine y_aload_n C dX0_takeFrom_144 rfl ?_
  refine y_aload_n C dX0_takeFrom_145 rfl ?_
  refine y_geti C fl_X0_63 g1 dX0_takeFrom_146 ?_
  obtain ⟨M38, eM38, h⟩ := ob h
  have eM38 := Option.some.inj eM38
  refine y_puti C fl_X0_63 rfl g3 rfl rfl dX0_takeFrom_149 eM38 ?_
  refine y_aload_n C dX0_takeFrom_152 rfl ?_
  refine y_aload_n C dX0_takeFrom_153 rfl ?_
  refine y_geti C fl_X0_36 g1 dX0_takeFrom_154 ?_
  obtain ⟨M39, eM39, h⟩ := ob h
  have eM39 := Option.some.inj eM39
  refine y_puti C fl_X0_36 rfl g3 rfl rfl dX0_takeFrom_157 eM39 ?_
  refine y_aload_n C dX0_takeFrom_160 rfl ?_
  refine y_aload_n C dX0_takeFrom_161 rfl ?_
  refine y_geti C fl_X0_66 g1 dX0_takeFrom_162 ?_
  obtain ⟨M40, eM40, h⟩ := ob h
  have eM40 := Option.some.inj eM40
  refine y_puti C fl_X0_66 rfl g3 rfl rfl dX0_takeFrom_165 eM40 ?_
  refine y_aload_n C dX0_takeFrom_168 rfl ?_
  refine y_aload_n C dX0_takeFrom_169 rfl ?_
  refine y_geti C fl_X0_69 g1 dX0_takeFrom_170 ?_
  obtain ⟨M41, eM41, h⟩ := ob h
  have eM41 := Option.some.inj eM41
  refine y_puti C fl_X0_69 rfl g3 rfl rfl dX0_takeFrom_173 eM41 ?_
  refine y_aload_n C dX0_takeFrom_176 rfl ?_
  refine y_aload_n C dX0_takeFrom_177 rfl ?_
  refine y_geti C fl_X0_72 g1 dX0_takeFrom_178 ?_
  obtain ⟨M42, eM42, h⟩ := ob h
  have eM42 := Option.some.inj eM42
  refine y_puti C fl_X0_72 rfl g3 rfl rfl dX0_takeFrom_181 eM42 ?_
  have e0 := Option.some.inj h
  subst e0
  exact y_vret C E (Nat.zero_le _) (Nat.zero_le _) dX0_takeFrom_184
def b_X0_worthOf_4 (K : yK) (t : Nat) (x_1 : Int32) : Nat → yM → Int32 → Int32 → Option (Int32 × yM)
  | 0, _, _, _ => none
  | n + 1, M, u4_2, u4_3 => (if gO K t 0 = true then (if (M t 9) ≤ u4_3 then (some (u4_2, M)) else (Option.bind (if ((x_1 >>> (u4_3 &&& 31)) &&& (1 : Int32)) = (1 : Int32) then (Option.bind (K.2.2 t 7) fun q5 => (if gA K q5 u4_3 = true then (Option.bind (b_X0_lowest K M ((M q5 (u4_3).toNatClampNeg))) fun r7 => (Option.bind (b_J6_bitCount_0f7a4 K M ((M q5 (u4_3).toNatClampNeg))) fun r8 => (Option.bind (b_X0_says K M t ((2 : Int32)) r7 r8 ((0 : Int32))) fun r9 => (Option.bind (some (u4_2 + r9.1)) fun v10 => (some (v10, r9.2)))))) else none)) else (some (u4_2, M))) fun j4 => (Option.bind (some (u4_3 + (1 : Int32))) fun v11 => (b_X0_worthOf_4 K t x_1 n j4.2 j4.1 v11)))) else none)
set_option maxHeartbeats 4000000 in
set_option maxRecDepth 100000 in
theorem l_X0_worthOf_4 {X : yX} {K : yK} {t : Nat} {x_1 : Int32} (C : yCx X cX0_worthOf RX0 "worthOf" rm_X0_worthOf 4) : ∀ (n : Nat) (M : yM) (u4_2 : Int32) (u4_3 : Int32) (x : (Int32 × yM)), b_X0_worthOf_4 K t x_1 n M u4_2 u4_3 = some x → ∀ (hX : Y X K x.2 0 0 54 [(2, .int x.1)] []), Y X K M 0 0 4 [(0, .ref t), (1, .int x_1), (2, .int u4_2), (3, .int u4_3)] [] := by
  intro n
  induction n with
  | zero =>
    intro M u4_2 u4_3 x h
    exact nomatch (show (none : Option _) = some x from h)
  | succ n ih =>
    intro M u4_2 u4_3 x h hX
    rw [b_X0_worthOf_4] at h
    refine y_iload_n C dX0_worthOf_4 rfl ?_
    refine y_aload_n C dX0_worthOf_5 rfl ?_
    obtain ⟨g1, h⟩ := gd h
    refine y_geti C fl_X0_57 g1 dX0_worthOf_6 ?_
    refine y_icmp_ge C dX0_worthOf_9 (tgt := 54) rfl (fun c2 => ?_) (fun c2 => ?_)
    · have h := itT c2 h
      have e0 := Option.some.inj h
      subst e0
      exact y_sel [2] rfl hX
    · have h := itF c2 h
      refine y_iload_n C dX0_worthOf_12 rfl ?_
      refine y_iload_n C dX0_worthOf_13 rfl ?_
      refine y_ishr C dX0_worthOf_14 ?_
      refine y_iconst C dX0_worthOf_15 kc_1 ?_
      refine y_iand C dX0_worthOf_16 ?_
      refine y_iconst C dX0_worthOf_17 kc_1 ?_
      obtain ⟨j4, hj4, h⟩ := ob h
      have hJj4 : Y X K j4.2 0 0 48 [(0, .ref t), (1, .int x_1), (2, .int j4.1), (3, .int u4_3)] [] := by
        obtain ⟨v11, ev11, h⟩ := ob h
        have ev11 := Option.some.inj ev11
        refine y_iinc C dX0_worthOf_48 (by decide) rfl (v := v11) (by subst ev11; rfl) (L' := [(3, .int v11), (0, .ref t), (1, .int x_1), (2, .int j4.1)]) rfl ?_
        refine y_goto C dX0_worthOf_51 (tgt := 4) rfl ?_
        exact y_sel [0, 1, 2, 3] rfl (ih _ _ _ _  h hX)
      replace h := hj4
      refine y_icmp_ne C dX0_worthOf_18 (tgt := 48) rfl (fun c3 => ?_) (fun c3 => ?_)
      · have h := itF c3 h
        have e0 := Option.some.inj h
        subst e0
        exact y_sel [0, 1, 2, 3] rfl hJj4
      · have h := itT c3 h
        refine y_iload_n C dX0_worthOf_21 rfl ?_
        refine y_aload_n C dX0_worthOf_22 rfl ?_
        refine y_iconst C dX0_worthOf_23 kc_2 ?_
        refine y_aload_n C dX0_worthOf_24 rfl ?_
        obtain ⟨q5, hq5, h⟩ := ob h
        refine y_getr C fl_X0_33 g1 hq5 dX0_worthOf_25 ?_
        refine y_iload_n C dX0_worthOf_28 rfl ?_
        obtain ⟨g6, h⟩ := gd h
        refine y_iald C g6 dX0_worthOf_29 ?_
        obtain ⟨r7, hr7, h⟩ := ob h
        refine y_cS C [.int (M q5 (u4_3).toNatClampNeg)] (m_X0_lowest K M ((M q5 (u4_3).toNatClampNeg))) hr7 cw_X0_154 rfl (by decide) ⟨rfl, rfl⟩ ⟨Nat.zero_le _, Nat.zero_le _⟩ (Nat.le_of_ble_eq_true rfl) rfl rfl rfl dX0_worthOf_30 ?_
        refine y_aload_n C dX0_worthOf_33 rfl ?_
        refine y_getr C fl_X0_33 g1 hq5 dX0_worthOf_34 ?_
        refine y_iload_n C dX0_worthOf_37 rfl ?_
        refine y_iald C g6 dX0_worthOf_38 ?_
        obtain ⟨r8, hr8, h⟩ := ob h
        refine y_cS C [.int (M q5 (u4_3).toNatClampNeg)] (m_J6_bitCount_0f7a4 K M ((M q5 (u4_3).toNatClampNeg))) hr8 cw_X0_142 rfl (by decide) ⟨rfl, rfl⟩ ⟨Nat.zero_le _, Nat.zero_le _⟩ (Nat.le_of_ble_eq_true rfl) rfl rfl rfl dX0_worthOf_39 ?_
        refine y_iconst C dX0_worthOf_42 kc_0 ?_
        obtain ⟨r9, hr9, h⟩ := ob h
        refine y_cV C [.int (2 : Int32), .int r7, .int r8, .int (0 : Int32)] (m_X0_says K M t ((2 : Int32)) r7 r8 ((0 : Int32))) hr9 g1 cw_X0_111 rfl (by decide) ⟨rfl, rfl⟩ ⟨Nat.zero_le _, Nat.zero_le _⟩ (Nat.le_of_ble_eq_true rfl) rfl rfl rfl dX0_worthOf_43 ?_
        refine y_iadd C dX0_worthOf_46 ?_
        obtain ⟨v10, ev10, h⟩ := ob h
        have ev10 := Option.some.inj ev10
        refine y_istore_n C dX0_worthOf_47 (by decide) (L' := [(2, .int v10), (0, .ref t), (1, .int x_1), (3, .int u4_3)]) (by subst ev10; rfl) ?_
        have e0 := Option.some.inj h
        subst e0
        exact y_sel [0, 1, 2, 3] rfl hJj4
set_option maxRecDepth 100000 in
def b_X0_worthOf (K : yK) (M : yM) (t : Nat) (x1 : Int32) : Option (Int32 × yM) := (Option.bind (b_X0_worthOf_4 K t x1 1000 M ((0 : Int32)) ((0 : Int32))) fun j1 => (some (j1.1, j1.2)))
set_option maxHeartbeats 4000000 in
set_option maxRecDepth 100000 in
theorem m_X0_worthOf (K : yK) (M : yM) (t : Nat) (x1 : Int32) : yMet yX0_worthOf cX0_worthOf 4 (Option.some Jvm.ClassFile.FieldType.int) rm_X0_worthOf K M [.ref t, .int x1] (b_X0_worthOf K M t x1) (yGi K) := by
  refine yM_intro (by decide) (Nat.le_of_ble_eq_true rfl) (fun X r h C E => ?_)
  replace C : yCx X cX0_worthOf RX0 "worthOf" rm_X0_worthOf 4 := C
  show Y X K M 0 0 0 [(0, .ref t), (1, .int x1)] []
  unfold b_X0_worthOf at h
  refine y_iconst C dX0_worthOf_0 kc_0 ?_
  refine y_istore_n C dX0_worthOf_1 (by decide) (L' := [(2, .int (0)), (0, .ref t), (1, .int x1)]) rfl ?_
  refine y_iconst C dX0_worthOf_2 kc_0 ?_
  refine y_istore_n C dX0_worthOf_3 (by decide) (L' := [(3, .int (0)), (2, .int (0)), (0, .ref t), (1, .int x1)]) rfl ?_
  obtain ⟨j1, hj1, h⟩ := ob h
  refine y_sel [0, 1, 2, 3] rfl (l_X0_worthOf_4 C 1000 _ _ _ _ hj1 ?_)
  refine y_iload_n C dX0_worthOf_54 rfl ?_
  have e0 := Option.some.inj h
  subst e0
  exact y_iret C E (Nat.zero_le _) (Nat.zero_le _) dX0_worthOf_55
