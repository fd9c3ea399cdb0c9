set_option maxRecDepth 100000 in
def b_J6_bitCount_0f7a4 (K : yK) (M : yM) (x1 : Int32) : Option Int32 := (Option.bind (some (x1 - ((x1.toUInt32 >>> ((1 : Int32).toUInt32 &&& Int32.toUInt32 31)).toInt32 &&& (1431655765 : Int32)))) fun v1 => (Option.bind (some ((v1 &&& (858993459 : Int32)) + ((v1.toUInt32 >>> ((2 : Int32).toUInt32 &&& Int32.toUInt32 31)).toInt32 &&& (858993459 : Int32)))) fun v2 => (Option.bind (some ((v2 + (v2.toUInt32 >>> ((4 : Int32).toUInt32 &&& Int32.toUInt32 31)).toInt32) &&& (252645135 : Int32))) fun v3 => (Option.bind (some (v3 + (v3.toUInt32 >>> ((8 : Int32).toUInt32 &&& Int32.toUInt32 31)).toInt32)) fun v4 => (Option.bind (some (v4 + (v4.toUInt32 >>> ((16 : Int32).toUInt32 &&& Int32.toUInt32 31)).toInt32)) fun v5 => (some (v5 &&& (63 : Int32))))))))
set_option maxHeartbeats 4000000 in
set_option maxRecDepth 100000 in
theorem m_J6_bitCount_0f7a4 (K : yK) (M : yM) (x1 : Int32) : yMet yJ6_bitCount_0f7a4 cJ6_bitCount_0f7a4 1 (Option.some Jvm.ClassFile.FieldType.int) rm_J6_bitCount_0f7a4 K M [.int x1] (b_J6_bitCount_0f7a4 K M x1) (yFi K M) := by
  refine yM_intro (by decide) (Nat.le_of_ble_eq_true rfl) (fun X r h C E => ?_)
  replace C : yCx X cJ6_bitCount_0f7a4 RJ6 "bitCount" rm_J6_bitCount_0f7a4 1 := C
  show Y X K M 0 0 0 [(0, .int x1)] []
  unfold b_J6_bitCount_0f7a4 at h
  refine y_iload_n C dJ6_bitCount_0f7a4_0 rfl ?_
  refine y_iload_n C dJ6_bitCount_0f7a4_1 rfl ?_
  refine y_iconst C dJ6_bitCount_0f7a4_2 kc_1 ?_
  refine y_iushr C dJ6_bitCount_0f7a4_3 rfl ?_
  refine y_ldcw C wd_585 dJ6_bitCount_0f7a4_4 ?_
  refine y_iand C dJ6_bitCount_0f7a4_7 ?_
  refine y_isub C dJ6_bitCount_0f7a4_8 ?_
  obtain ⟨v1, ev1, h⟩ := ob h
  have ev1 := Option.some.inj ev1
  refine y_istore_n C dJ6_bitCount_0f7a4_9 (by decide) (L' := [(0, .int v1)]) (by subst ev1; rfl) ?_
  refine y_iload_n C dJ6_bitCount_0f7a4_10 rfl ?_
  refine y_ldcw C wd_586 dJ6_bitCount_0f7a4_11 ?_
  refine y_iand C dJ6_bitCount_0f7a4_14 ?_
  refine y_iload_n C dJ6_bitCount_0f7a4_15 rfl ?_
  refine y_iconst C dJ6_bitCount_0f7a4_16 kc_2 ?_
  refine y_iushr C dJ6_bitCount_0f7a4_17 rfl ?_
  refine y_ldcw C wd_586 dJ6_bitCount_0f7a4_18 ?_
  refine y_iand C dJ6_bitCount_0f7a4_21 ?_
  refine y_iadd C dJ6_bitCount_0f7a4_22 ?_
  obtain ⟨v2, ev2, h⟩ := ob h
  have ev2 := Option.some.inj ev2
  refine y_istore_n C dJ6_bitCount_0f7a4_23 (by decide) (L' := [(0, .int v2)]) (by subst ev2; rfl) ?_
  refine y_iload_n C dJ6_bitCount_0f7a4_24 rfl ?_
  refine y_iload_n C dJ6_bitCount_0f7a4_25 rfl ?_
  refine y_iconst C dJ6_bitCount_0f7a4_26 kc_4 ?_
  refine y_iushr C dJ6_bitCount_0f7a4_27 rfl ?_
  refine y_iadd C dJ6_bitCount_0f7a4_28 ?_
  refine y_ldcw C wd_587 dJ6_bitCount_0f7a4_29 ?_
  refine y_iand C dJ6_bitCount_0f7a4_32 ?_
  obtain ⟨v3, ev3, h⟩ := ob h
  have ev3 := Option.some.inj ev3
  refine y_istore_n C dJ6_bitCount_0f7a4_33 (by decide) (L' := [(0, .int v3)]) (by subst ev3; rfl) ?_
  refine y_iload_n C dJ6_bitCount_0f7a4_34 rfl ?_
  refine y_iload_n C dJ6_bitCount_0f7a4_35 rfl ?_
  refine y_bipush C dJ6_bitCount_0f7a4_36 kb_8 ?_
  refine y_iushr C dJ6_bitCount_0f7a4_38 rfl ?_
  refine y_iadd C dJ6_bitCount_0f7a4_39 ?_
  obtain ⟨v4, ev4, h⟩ := ob h
  have ev4 := Option.some.inj ev4
  refine y_istore_n C dJ6_bitCount_0f7a4_40 (by decide) (L' := [(0, .int v4)]) (by subst ev4; rfl) ?_
  refine y_iload_n C dJ6_bitCount_0f7a4_41 rfl ?_
  refine y_iload_n C dJ6_bitCount_0f7a4_42 rfl ?_
  refine y_bipush C dJ6_bitCount_0f7a4_43 kb_16 ?_
  refine y_iushr C dJ6_bitCount_0f7a4_45 rfl ?_
  refine y_iadd C dJ6_bitCount_0f7a4_46 ?_
  obtain ⟨v5, ev5, h⟩ := ob h
  have ev5 := Option.some.inj ev5
  refine y_istore_n C dJ6_bitCount_0f7a4_47 (by decide) (L' := [(0, .int v5)]) (by subst ev5; rfl) ?_
  refine y_iload_n C dJ6_bitCount_0f7a4_48 rfl ?_
  refine y_bipush C dJ6_bitCount_0f7a4_49 kb_63 ?_
  refine y_iand C dJ6_bitCount_0f7a4_51 ?_
  have e0 := Option.some.inj h
  subst e0
  exact y_iret C E (Nat.zero_le _) (Nat.zero_le _) dJ6_bitCount_0f7a4_52
def b_J7_fill_53178_5 (K : yK) (t_0 : Nat) (x_1 : Int32) (x_3 : Int32) : Nat → yM → Int32 → Option yM
  | 0, _, _ => none
  | n + 1, M, u5_2 => (if x_3 ≤ u5_2 then (some M) else (if gA K t_0 u5_2 = true then (Option.bind (some (yS M t_0 (u5_2).toNatClampNeg x_1)) fun M3 => (Option.bind (some (u5_2 + (1 : Int32))) fun v4 => (b_J7_fill_53178_5 K t_0 x_1 x_3 n M3 v4))) else none))
set_option maxHeartbeats 4000000 in
set_option maxRecDepth 100000 in
theorem l_J7_fill_53178_5 {X : yX} {K : yK} {t_0 : Nat} {x_1 : Int32} {x_3 : Int32} (C : yCx X cJ7_fill_53178 RJ7 "fill" rm_J7_fill_53178 4) : ∀ (n : Nat) (M : yM) (u5_2 : Int32) (x : yM), b_J7_fill_53178_5 K t_0 x_1 x_3 n M u5_2 = some x → ∀ (hX : Y X K x 0 0 20 [] []), Y X K M 0 0 5 [(0, .ref t_0), (1, .int x_1), (2, .int u5_2), (3, .int x_3)] [] := by
  intro n
  induction n with
  | zero =>
    intro M u5_2 x h
    exact nomatch (show (none : Option _) = some x from h)
  | succ n ih =>
    intro M u5_2 x h hX
    rw [b_J7_fill_53178_5] at h
    refine y_iload_n C dJ7_fill_53178_5 rfl ?_
    refine y_iload_n C dJ7_fill_53178_6 rfl ?_
    refine y_icmp_ge C dJ7_fill_53178_7 (tgt := 20) rfl (fun c1 => ?_) (fun c1 => ?_)
    · have h := itT c1 h
      have e0 := Option.some.inj h
      subst e0
      exact y_sel [] rfl hX
    · have h := itF c1 h
      refine y_aload_n C dJ7_fill_53178_10 rfl ?_
      refine y_iload_n C dJ7_fill_53178_11 rfl ?_
      refine y_iload_n C dJ7_fill_53178_12 rfl ?_
      obtain ⟨g2, h⟩ := gd h
      obtain ⟨M3, eM3, h⟩ := ob h
      have eM3 := Option.some.inj eM3
      refine y_iast C g2 dJ7_fill_53178_13 eM3 ?_
      obtain ⟨v4, ev4, h⟩ := ob h
      have ev4 := Option.some.inj ev4
      refine y_iinc C dJ7_fill_53178_14 (by decide) rfl (v := v4) (by subst ev4; rfl) (L' := [(2, .int v4), (0, .ref t_0), (1, .int x_1), (3, .int x_3)]) rfl ?_
      refine y_goto C dJ7_fill_53178_17 (tgt := 5) rfl ?_
      exact y_sel [0, 1, 2, 3] rfl (ih _ _ _  h hX)
set_option maxRecDepth 100000 in
def b_J7_fill_53178 (K : yK) (M : yM) (a1 : Nat) (x2 : Int32) : Option yM := (if gI K a1 = true then (Option.bind (some (Int32.ofNat (K.2.1 a1).2)) fun v2 => (Option.bind (b_J7_fill_53178_5 K a1 x2 v2 1000 M ((0 : Int32))) fun j3 => (some j3))) else none)
set_option maxHeartbeats 4000000 in
set_option maxRecDepth 100000 in
theorem m_J7_fill_53178 (K : yK) (M : yM) (a1 : Nat) (x2 : Int32) : yMet yJ7_fill_53178 cJ7_fill_53178 4 none rm_J7_fill_53178 K M [.ref a1, .int x2] (b_J7_fill_53178 K M a1 x2) (yGv K) := by
  refine yM_intro (by decide) (Nat.le_of_ble_eq_true rfl) (fun X r h C E => ?_)
  replace C : yCx X cJ7_fill_53178 RJ7 "fill" rm_J7_fill_53178 4 := C
  show Y X K M 0 0 0 [(0, .ref a1), (1, .int x2)] []
  unfold b_J7_fill_53178 at h
  refine y_iconst C dJ7_fill_53178_0 kc_0 ?_
  refine y_istore_n C dJ7_fill_53178_1 (by decide) (L' := [(2, .int (0)), (0, .ref a1), (1, .int x2)]) rfl ?_
  refine y_aload_n C dJ7_fill_53178_2 rfl ?_
  obtain ⟨g1, h⟩ := gd h
  refine y_alen C g1 dJ7_fill_53178_3 ?_
  obtain ⟨v2, ev2, h⟩ := ob h
  have ev2 := Option.some.inj ev2
  refine y_istore_n C dJ7_fill_53178_4 (by decide) (L' := [(3, .int v2), (2, .int (0)), (0, .ref a1), (1, .int x2)]) (by subst ev2; rfl) ?_
  obtain ⟨j3, hj3, h⟩ := ob h
  refine y_sel [0, 1, 2, 3] rfl (l_J7_fill_53178_5 C 1000 _ _ _ hj3 ?_)
  have e0 := Option.some.inj h
  subst e0
  exact y_vret C E (Nat.zero_le _) (Nat.zero_le _) dJ7_fill_53178_20
def b_X2_isA_4 (K : yK) (M : yM) (x_1 : Int32) : Nat → Int32 → Int32 → Option (Unit ⊕ Bool)
  | 0, _, _ => none
  | n + 1, u4_2, u4_3 => (if (6 : Int32) ≤ u4_3 then (some (.inl ())) else (if u4_2 < 0 then (some (.inl ())) else (if (6 : Int32) ≤ u4_2 then (some (.inl ())) else (if u4_2 = x_1 then (some (.inr true)) else (if (0 ≤ u4_2 ∧ u4_2 < 6) then (Option.bind (some (yAb.getD (u4_2).toNatClampNeg 0)) fun v6 => (Option.bind (some (u4_3 + (1 : Int32))) fun v7 => (b_X2_isA_4 K M x_1 n v6 v7))) else none)))))
set_option maxHeartbeats 4000000 in
set_option maxRecDepth 100000 in
theorem l_X2_isA_4 {X : yX} {K : yK} {M : yM} {K0 : yK} {M0 : yM} {x_1 : Int32} (C : yCx X cX2_isA RX2 "isA" rm_X2_isA 4) : ∀ (n : Nat) (u4_2 : Int32) (u4_3 : Int32) (x : (Unit ⊕ Bool)), b_X2_isA_4 K M x_1 n u4_2 u4_3 = some x → ∀ (hX : ∀ x8, x = .inl x8 → Y X K M 0 0 39 [] []), ∀ (hE : ∀ x9, x = .inr x9 → yRt X (Option.some Jvm.ClassFile.FieldType.boolean) K0 M0 ((yFb K M) x9).1 ((yFb K M) x9).2.1 ((yFb K M) x9).2.2 0 0), Y X K M 0 0 4 [(1, .int x_1), (2, .int u4_2), (3, .int u4_3)] [] := by
  intro n
  induction n with
  | zero =>
    intro u4_2 u4_3 x h
    exact nomatch (show (none : Option _) = some x from h)
  | succ n ih =>
    intro u4_2 u4_3 x h hX hE
    rw [b_X2_isA_4] at h
    refine y_iload_n C dX2_isA_4 rfl ?_
    refine y_bipush C dX2_isA_5 kb_6 ?_
    refine y_icmp_ge C dX2_isA_7 (tgt := 39) rfl (fun c1 => ?_) (fun c1 => ?_)
    · have h := itT c1 h
      have e0 := Option.some.inj h
      subst e0
      exact y_sel [] rfl (hX _ rfl)
    · have h := itF c1 h
      refine y_iload_n C dX2_isA_10 rfl ?_
      refine y_if_lt C dX2_isA_11 (tgt := 39) rfl (fun c2 => ?_) (fun c2 => ?_)
      · have h := itT c2 h
        have e0 := Option.some.inj h
        subst e0
        exact y_sel [] rfl (hX _ rfl)
      · have h := itF c2 h
        refine y_iload_n C dX2_isA_14 rfl ?_
        refine y_bipush C dX2_isA_15 kb_6 ?_
        refine y_icmp_ge C dX2_isA_17 (tgt := 39) rfl (fun c3 => ?_) (fun c3 => ?_)
        · have h := itT c3 h
          have e0 := Option.some.inj h
          subst e0
          exact y_sel [] rfl (hX _ rfl)
        · have h := itF c3 h
          refine y_iload_n C dX2_isA_20 rfl ?_
          refine y_iload_n C dX2_isA_21 rfl ?_
          refine y_icmp_ne C dX2_isA_22 (tgt := 27) rfl (fun c4 => ?_) (fun c4 => ?_)
          · have h := itF c4 h
            refine y_getAbove C wd_531 dX2_isA_27 ?_
            refine y_iload_n C dX2_isA_30 rfl ?_
            obtain ⟨g5, h⟩ := gp h
            refine y_above C g5 dX2_isA_31 ?_
            obtain ⟨v6, ev6, h⟩ := ob h
            have ev6 := Option.some.inj ev6
            refine y_istore_n C dX2_isA_32 (by decide) (L' := [(2, .int v6), (1, .int x_1), (3, .int u4_3)]) (by subst ev6; rfl) ?_
            obtain ⟨v7, ev7, h⟩ := ob h
            have ev7 := Option.some.inj ev7
            refine y_iinc C dX2_isA_33 (by decide) rfl (v := v7) (by subst ev7; rfl) (L' := [(3, .int v7), (2, .int v6), (1, .int x_1)]) rfl ?_
            refine y_goto C dX2_isA_36 (tgt := 4) rfl ?_
            exact y_sel [1, 2, 3] rfl (ih _ _ _  h hX hE)
          · have h := itT c4 h
            refine y_iconst C dX2_isA_25 kc_1 ?_
            have e0 := Option.some.inj h
            subst e0
            have E := hE _ rfl
            exact y_bret (b := true) C E (Nat.zero_le _) (Nat.zero_le _) dX2_isA_26
set_option maxRecDepth 100000 in
def b_X2_isA (K : yK) (M : yM) (x1 : Int32) (x2 : Int32) : Option Bool := (Option.bind (b_X2_isA_4 K M x2 1000 x1 ((0 : Int32))) fun x9 => Sum.elim (fun j1 => (some false)) (fun r9 => (some r9)) x9)
set_option maxHeartbeats 4000000 in
set_option maxRecDepth 100000 in
theorem m_X2_isA (K : yK) (M : yM) (x1 : Int32) (x2 : Int32) : yMet yX2_isA cX2_isA 4 (Option.some Jvm.ClassFile.FieldType.boolean) rm_X2_isA K M [.int x1, .int x2] (b_X2_isA K M x1 x2) (yFb K M) := by
  refine yM_intro (by decide) (Nat.le_of_ble_eq_true rfl) (fun X r h C E => ?_)
  replace C : yCx X cX2_isA RX2 "isA" rm_X2_isA 4 := C
  show Y X K M 0 0 0 [(0, .int x1), (1, .int x2)] []
  unfold b_X2_isA at h
  refine y_iload_n C dX2_isA_0 rfl ?_
  refine y_istore_n C dX2_isA_1 (by decide) (L' := [(2, .int x1), (0, .int x1), (1, .int x2)]) rfl ?_
  refine y_iconst C dX2_isA_2 kc_0 ?_
  refine y_istore_n C dX2_isA_3 (by decide) (L' := [(3, .int (0)), (2, .int x1), (0, .int x1), (1, .int x2)]) rfl ?_
  obtain ⟨x9, hx9, h⟩ := ob h
  refine y_sel [1, 2, 3] rfl (l_X2_isA_4 (K0 := K) (M0 := M) C 1000 _ _ _ hx9 (fun j1 e9 => ?_) (fun r9 e9 => ?_))
  · subst e9
    dsimp only [Sum.elim_inl] at h
    refine y_iconst C dX2_isA_39 kc_0 ?_
    have e0 := Option.some.inj h
    subst e0
    exact y_bret (b := false) C E (Nat.zero_le _) (Nat.zero_le _) dX2_isA_40
  · subst e9
    dsimp only [Sum.elim_inr] at h
    have e0 := Option.some.inj h
    subst e0
    exact E
set_option maxRecDepth 100000 in
def b_X2_needsNext (K : yK) (M : yM) (x1 : Int32) : Option Bool := (Option.bind (b_X2_isA K M x1 ((2 : Int32))) fun r1 => (if r1 = true then (some false) else (some true)))
set_option maxHeartbeats 4000000 in
set_option maxRecDepth 100000 in
theorem m_X2_needsNext (K : yK) (M : yM) (x1 : Int32) : yMet yX2_needsNext cX2_needsNext 1 (Option.some Jvm.ClassFile.FieldType.boolean) rm_X2_needsNext K M [.int x1] (b_X2_needsNext K M x1) (yFb K M) := by
  refine yM_intro (by decide) (Nat.le_of_ble_eq_true rfl) (fun X r h C E => ?_)
  replace C : yCx X cX2_needsNext RX2 "needsNext" rm_X2_needsNext 1 := C
  show Y X K M 0 0 0 [(0, .int x1)] []
  unfold b_X2_needsNext at h
  refine y_iload_n C dX2_needsNext_0 rfl ?_
  refine y_iconst C dX2_needsNext_1 kc_2 ?_
  obtain ⟨r1, hr1, h⟩ := ob h
  refine y_cS C [.int x1, .int (2 : Int32)] (m_X2_isA K M x1 ((2 : Int32))) hr1 cw_X2_15 rfl (by decide) ⟨rfl, rfl⟩ ⟨Nat.zero_le _, Nat.zero_le _⟩ (Nat.le_of_ble_eq_true rfl) rfl rfl rfl dX2_needsNext_2 ?_
  refine y_ifneB C dX2_needsNext_5 (tgt := 12) rfl (fun c2 => ?_) (fun c2 => ?_)
  · have h := itT c2 h
    refine y_iconst C dX2_needsNext_12 kc_0 ?_
    have e0 := Option.some.inj h
    subst e0
    exact y_bret (b := false) C E (Nat.zero_le _) (Nat.zero_le _) dX2_needsNext_13
  · have h := itFb c2 h
    refine y_iconst C dX2_needsNext_8 kc_1 ?_
    refine y_goto C dX2_needsNext_9 (tgt := 13) rfl ?_
    have e0 := Option.some.inj h
    subst e0
    exact y_bret (b := true) C E (Nat.zero_le _) (Nat.zero_le _) dX2_needsNext_13
set_option maxRecDepth 100000 in
def b_X2_takes (K : yK) (M : yM) (x1 : Int32) (x2 : Int32) (x3 : Int32) : Option Int32 := (Option.bind (b_X2_isA K M x1 ((2 : Int32))) fun r1 => (if r1 = true then (some (x3 + (x2 / (3 : Int32)))) else (if x1 = (5 : Int32) then (some (if (1 : Int32) < (x3 / (2 : Int32)) then (x3 / (2 : Int32)) else (1 : Int32))) else (some x3))))
set_option maxHeartbeats 4000000 in
set_option maxRecDepth 100000 in
theorem m_X2_takes (K : yK) (M : yM) (x1 : Int32) (x2 : Int32) (x3 : Int32) : yMet yX2_takes cX2_takes 3 (Option.some Jvm.ClassFile.FieldType.int) rm_X2_takes K M [.int x1, .int x2, .int x3] (b_X2_takes K M x1 x2 x3) (yFi K M) := by
  refine yM_intro (by decide) (Nat.le_of_ble_eq_true rfl) (fun X r h C E => ?_)
  replace C : yCx X cX2_takes RX2 "takes" rm_X2_takes 3 := C
  show Y X K M 0 0 0 [(0, .int x1), (1, .int x2), (2, .int x3)] []
  unfold b_X2_takes at h
  refine y_iload_n C dX2_takes_0 rfl ?_
  refine y_iconst C dX2_takes_1 kc_2 ?_
  obtain ⟨r1, hr1, h⟩ := ob h
  refine y_cS C [.int x1, .int (2 : Int32)] (m_X2_isA K M x1 ((2 : Int32))) hr1 cw_X2_15 rfl (by decide) ⟨rfl, rfl⟩ ⟨Nat.zero_le _, Nat.zero_le _⟩ (Nat.le_of_ble_eq_true rfl) rfl rfl rfl dX2_takes_2 ?_
  refine y_ifeqB C dX2_takes_5 (tgt := 14) rfl (fun c2 => ?_) (fun c2 => ?_)
  · have h := itFb c2 h
    refine y_iload_n C dX2_takes_14 rfl ?_
    refine y_iconst C dX2_takes_15 kc_5 ?_
    refine y_icmp_ne C dX2_takes_16 (tgt := 29) rfl (fun c3 => ?_) (fun c3 => ?_)
    · have h := itF c3 h
      refine y_iload_n C dX2_takes_29 rfl ?_
      have e0 := Option.some.inj h
      subst e0
      exact y_iret C E (Nat.zero_le _) (Nat.zero_le _) dX2_takes_30
    · have h := itT c3 h
      refine y_iconst C dX2_takes_19 kc_1 ?_
      refine y_iload_n C dX2_takes_20 rfl ?_
      refine y_iconst C dX2_takes_21 kc_2 ?_
      refine y_idiv C dX2_takes_22 (by decide) ?_
      refine y_max C jm_X2_19 ⟨by decide, Nat.le_of_ble_eq_true rfl, Nat.le_of_ble_eq_true rfl, Nat.le_of_ble_eq_true rfl⟩ dX2_takes_23 ?_
      refine y_goto C dX2_takes_26 (tgt := 30) rfl ?_
      have e0 := Option.some.inj h
      subst e0
      exact y_iret C E (Nat.zero_le _) (Nat.zero_le _) dX2_takes_30
  · have h := itT c2 h
    refine y_iload_n C dX2_takes_8 rfl ?_
    refine y_iload_n C dX2_takes_9 rfl ?_
    refine y_iconst C dX2_takes_10 kc_3 ?_
    refine y_idiv C dX2_takes_11 (by decide) ?_
    refine y_iadd C dX2_takes_12 ?_
    have e0 := Option.some.inj h
    subst e0
    exact y_iret C E (Nat.zero_le _) (Nat.zero_le _) dX2_takes_13
set_option maxRecDepth 100000 in
def b_X4_about (K : yK) (M : yM) (t : Nat) (x1 : Int32) (x2 : Int32) (x3 : Int32) (x4 : Int32) (x5 : Int32) (x6 : Int32) : Option yM := (if gO K t 3 = true then (Option.bind (K.2.2 t 1) fun q2 => (if gA K q2 (0 : Int32) = true then (Option.bind (some (yS M q2 ((0 : Int32)).toNatClampNeg x1)) fun M4 => (if gA K q2 (1 : Int32) = true then (Option.bind (some (yS M4 q2 ((1 : Int32)).toNatClampNeg x2)) fun M6 => (if gA K q2 (2 : Int32) = true then (Option.bind (some (yS M6 q2 ((2 : Int32)).toNatClampNeg x3)) fun M8 => (if gA K q2 (3 : Int32) = true then (Option.bind (some (yS M8 q2 ((3 : Int32)).toNatClampNeg x4)) fun M10 => (if gA K q2 (4 : Int32) = true then (Option.bind (some (yS M10 q2 ((4 : Int32)).toNatClampNeg x5)) fun M12 => (if gA K q2 (5 : Int32) = true then (Option.bind (some (yS M12 q2 ((5 : Int32)).toNatClampNeg x6)) fun M14 => (some M14)) else none)) else none)) else none)) else none)) else none)) else none)) else none)
set_option maxHeartbeats 4000000 in
set_option maxRecDepth 100000 in
theorem m_X4_about (K : yK) (M : yM) (t : Nat) (x1 : Int32) (x2 : Int32) (x3 : Int32) (x4 : Int32) (x5 : Int32) (x6 : Int32) : yMet yX4_about cX4_about 7 none rm_X4_about K M [.ref t, .int x1, .int x2, .int x3, .int x4, .int x5, .int x6] (b_X4_about K M t x1 x2 x3 x4 x5 x6) (yGv K) := by
  refine yM_intro (by decide) (Nat.le_of_ble_eq_true rfl) (fun X r h C E => ?_)
  replace C : yCx X cX4_about RX4 "about" rm_X4_about 7 := C
  show Y X K M 0 0 0 [(0, .ref t), (1, .int x1), (2, .int x2), (3, .int x3), (4, .int x4), (5, .int x5), (6, .int x6)] []
  unfold b_X4_about at h
  refine y_aload_n C dX4_about_0 rfl ?_
  obtain ⟨g1, h⟩ := gd h
  obtain ⟨q2, hq2, h⟩ := ob h
  refine y_getr C fl_X4_15 g1 hq2 dX4_about_1 ?_
  refine y_iconst C dX4_about_4 kc_0 ?_
  refine y_iload_n C dX4_about_5 rfl ?_
  obtain ⟨g3, h⟩ := gd h
  obtain ⟨M4, eM4, h⟩ := ob h
  have eM4 := Option.some.inj eM4
  refine y_iast C g3 dX4_about_6 eM4 ?_
  refine y_aload_n C dX4_about_7 rfl ?_
  refine y_getr C fl_X4_15 g1 hq2 dX4_about_8 ?_
  refine y_iconst C dX4_about_11 kc_1 ?_
  refine y_iload_n C dX4_about_12 rfl ?_
  obtain ⟨g5, h⟩ := gd h
  obtain ⟨M6, eM6, h⟩ := ob h
  have eM6 := Option.some.inj eM6
  refine y_iast C g5 dX4_about_13 eM6 ?_
  refine y_aload_n C dX4_about_14 rfl ?_
  refine y_getr C fl_X4_15 g1 hq2 dX4_about_15 ?_
  refine y_iconst C dX4_about_18 kc_2 ?_
  refine y_iload_n C dX4_about_19 rfl ?_
  obtain ⟨g7, h⟩ := gd h
  obtain ⟨M8, eM8, h⟩ := ob h
  have eM8 := Option.some.inj eM8
  refine y_iast C g7 dX4_about_20 eM8 ?_
  refine y_aload_n C dX4_about_21 rfl ?_
  refine y_getr C fl_X4_15 g1 hq2 dX4_about_22 ?_
  refine y_iconst C dX4_about_25 kc_3 ?_
  refine y_iload C dX4_about_26 rfl ?_
  obtain ⟨g9, h⟩ := gd h
  obtain ⟨M10, eM10, h⟩ := ob h
  have eM10 := Option.some.inj eM10
  refine y_iast C g9 dX4_about_28 eM10 ?_
  refine y_aload_n C dX4_about_29 rfl ?_
  refine y_getr C fl_X4_15 g1 hq2 dX4_about_30 ?_
  refine y_iconst C dX4_about_33 kc_4 ?_
  refine y_iload C dX4_about_34 rfl ?_
  obtain ⟨g11, h⟩ := gd h
  obtain ⟨M12, eM12, h⟩ := ob h
  have eM12 := Option.some.inj eM12
  refine y_iast C g11 dX4_about_36 eM12 ?_
  refine y_aload_n C dX4_about_37 rfl ?_
  refine y_getr C fl_X4_15 g1 hq2 dX4_about_38 ?_
  refine y_iconst C dX4_about_41 kc_5 ?_
  refine y_iload C dX4_about_42 rfl ?_
  obtain ⟨g13, h⟩ := gd h
  obtain ⟨M14, eM14, h⟩ := ob h
  have eM14 := Option.some.inj eM14
  refine y_iast C g13 dX4_about_44 eM14 ?_
  have e0 := Option.some.inj h
  subst e0
  exact y_vret C E (Nat.zero_le _) (Nat.zero_le _) dX4_about_45
set_option maxRecDepth 100000 in
def b_X3_codeAt (K : yK) (M : yM) (t : Nat) (x1 : Int32) : Option Int32 := (if x1 < 0 then (some (0 : Int32)) else (if gO K t 2 = true then (Option.bind (K.2.2 t 0) fun q3 => (if gI K q3 = true then (if (Int32.ofNat (K.2.1 q3).2) ≤ x1 then (some (0 : Int32)) else (if gA K q3 x1 = true then (some (M q3 (x1).toNatClampNeg)) else none)) else none)) else none))
set_option maxHeartbeats 4000000 in
set_option maxRecDepth 100000 in
theorem m_X3_codeAt (K : yK) (M : yM) (t : Nat) (x1 : Int32) : yMet yX3_codeAt cX3_codeAt 2 (Option.some Jvm.ClassFile.FieldType.int) rm_X3_codeAt K M [.ref t, .int x1] (b_X3_codeAt K M t x1) (yFi K M) := by
  refine yM_intro (by decide) (Nat.le_of_ble_eq_true rfl) (fun X r h C E => ?_)
  replace C : yCx X cX3_codeAt RX3 "codeAt" rm_X3_codeAt 2 := C
  show Y X K M 0 0 0 [(0, .ref t), (1, .int x1)] []
  unfold b_X3_codeAt at h
  refine y_iload_n C dX3_codeAt_0 rfl ?_
  refine y_if_lt C dX3_codeAt_1 (tgt := 22) rfl (fun c1 => ?_) (fun c1 => ?_)
  · have h := itT c1 h
    refine y_iconst C dX3_codeAt_22 kc_0 ?_
    have e0 := Option.some.inj h
    subst e0
    exact y_iret C E (Nat.zero_le _) (Nat.zero_le _) dX3_codeAt_23
  · have h := itF c1 h
    refine y_iload_n C dX3_codeAt_4 rfl ?_
    refine y_aload_n C dX3_codeAt_5 rfl ?_
    obtain ⟨g2, h⟩ := gd h
    obtain ⟨q3, hq3, h⟩ := ob h
    refine y_getr C fl_X3_9 g2 hq3 dX3_codeAt_6 ?_
    obtain ⟨g4, h⟩ := gd h
    refine y_alen C g4 dX3_codeAt_9 ?_
    refine y_icmp_ge C dX3_codeAt_10 (tgt := 22) rfl (fun c5 => ?_) (fun c5 => ?_)
    · have h := itT c5 h
      refine y_iconst C dX3_codeAt_22 kc_0 ?_
      have e0 := Option.some.inj h
      subst e0
      exact y_iret C E (Nat.zero_le _) (Nat.zero_le _) dX3_codeAt_23
    · have h := itF c5 h
      refine y_aload_n C dX3_codeAt_13 rfl ?_
      refine y_getr C fl_X3_9 g2 hq3 dX3_codeAt_14 ?_
      refine y_iload_n C dX3_codeAt_17 rfl ?_
      obtain ⟨g6, h⟩ := gd h
      refine y_iald C g6 dX3_codeAt_18 ?_
      refine y_goto C dX3_codeAt_19 (tgt := 23) rfl ?_
      have e0 := Option.some.inj h
      subst e0
      exact y_iret C E (Nat.zero_le _) (Nat.zero_le _) dX3_codeAt_23
set_option maxRecDepth 100000 in
def b_X3_endOf (K : yK) (M : yM) (t : Nat) (x1 : Int32) : Option Int32 := (if x1 = 0 then (if gO K t 2 = true then (some (M t 1)) else none) else (if x1 = (1 : Int32) then (if gO K t 2 = true then (some (M t 2)) else none) else (if gO K t 2 = true then (Option.bind (K.2.2 t 0) fun q4 => (if gI K q4 = true then (some (Int32.ofNat (K.2.1 q4).2)) else none)) else none)))
set_option maxHeartbeats 4000000 in
set_option maxRecDepth 100000 in
theorem m_X3_endOf (K : yK) (M : yM) (t : Nat) (x1 : Int32) : yMet yX3_endOf cX3_endOf 2 (Option.some Jvm.ClassFile.FieldType.int) rm_X3_endOf K M [.ref t, .int x1] (b_X3_endOf K M t x1) (yFi K M) := by
  refine yM_intro (by decide) (Nat.le_of_ble_eq_true rfl) (fun X r h C E => ?_)
  replace C : yCx X cX3_endOf RX3 "endOf" rm_X3_endOf 2 := C
  show Y X K M 0 0 0 [(0, .ref t), (1, .int x1)] []
  unfold b_X3_endOf at h
  refine y_iload_n C dX3_endOf_0 rfl ?_
  refine y_if_ne C dX3_endOf_1 (tgt := 9) rfl (fun c1 => ?_) (fun c1 => ?_)
  · have h := itF c1 h
    refine y_iload_n C dX3_endOf_9 rfl ?_
    refine y_iconst C dX3_endOf_10 kc_1 ?_
    refine y_icmp_ne C dX3_endOf_11 (tgt := 21) rfl (fun c2 => ?_) (fun c2 => ?_)
    · have h := itF c2 h
      refine y_aload_n C dX3_endOf_21 rfl ?_
      obtain ⟨g3, h⟩ := gd h
      obtain ⟨q4, hq4, h⟩ := ob h
      refine y_getr C fl_X3_9 g3 hq4 dX3_endOf_22 ?_
      obtain ⟨g5, h⟩ := gd h
      refine y_alen C g5 dX3_endOf_25 ?_
      have e0 := Option.some.inj h
      subst e0
      exact y_iret C E (Nat.zero_le _) (Nat.zero_le _) dX3_endOf_26
    · have h := itT c2 h
      refine y_aload_n C dX3_endOf_14 rfl ?_
      obtain ⟨g6, h⟩ := gd h
      refine y_geti C fl_X3_19 g6 dX3_endOf_15 ?_
      refine y_goto C dX3_endOf_18 (tgt := 26) rfl ?_
      have e0 := Option.some.inj h
      subst e0
      exact y_iret C E (Nat.zero_le _) (Nat.zero_le _) dX3_endOf_26
  · have h := itT c1 h
    refine y_aload_n C dX3_endOf_4 rfl ?_
    obtain ⟨g7, h⟩ := gd h
    refine y_geti C fl_X3_15 g7 dX3_endOf_5 ?_
    have e0 := Option.some.inj h
    subst e0
    exact y_iret C E (Nat.zero_le _) (Nat.zero_le _) dX3_endOf_8
set_option maxRecDepth 100000 in
def b_X3_startOf (K : yK) (M : yM) (t : Nat) (x1 : Int32) : Option Int32 := (if x1 = 0 then (some (0 : Int32)) else (if x1 = (1 : Int32) then (if gO K t 2 = true then (some (M t 1)) else none) else (if gO K t 2 = true then (some (M t 2)) else none)))
set_option maxHeartbeats 4000000 in
set_option maxRecDepth 100000 in
theorem m_X3_startOf (K : yK) (M : yM) (t : Nat) (x1 : Int32) : yMet yX3_startOf cX3_startOf 2 (Option.some Jvm.ClassFile.FieldType.int) rm_X3_startOf K M [.ref t, .int x1] (b_X3_startOf K M t x1) (yFi K M) := by
  refine yM_intro (by decide) (Nat.le_of_ble_eq_true rfl) (fun X r h C E => ?_)
  replace C : yCx X cX3_startOf RX3 "startOf" rm_X3_startOf 2 := C
  show Y X K M 0 0 0 [(0, .ref t), (1, .int x1)] []
  unfold b_X3_startOf at h
  refine y_iload_n C dX3_startOf_0 rfl ?_
  refine y_if_ne C dX3_startOf_1 (tgt := 6) rfl (fun c1 => ?_) (fun c1 => ?_)
  · have h := itF c1 h
    refine y_iload_n C dX3_startOf_6 rfl ?_
    refine y_iconst C dX3_startOf_7 kc_1 ?_
    refine y_icmp_ne C dX3_startOf_8 (tgt := 18) rfl (fun c2 => ?_) (fun c2 => ?_)
    · have h := itF c2 h
      refine y_aload_n C dX3_startOf_18 rfl ?_
      obtain ⟨g3, h⟩ := gd h
      refine y_geti C fl_X3_19 g3 dX3_startOf_19 ?_
      have e0 := Option.some.inj h
      subst e0
      exact y_iret C E (Nat.zero_le _) (Nat.zero_le _) dX3_startOf_22
    · have h := itT c2 h
      refine y_aload_n C dX3_startOf_11 rfl ?_
      obtain ⟨g4, h⟩ := gd h
      refine y_geti C fl_X3_15 g4 dX3_startOf_12 ?_
      refine y_goto C dX3_startOf_15 (tgt := 22) rfl ?_
      have e0 := Option.some.inj h
      subst e0
      exact y_iret C E (Nat.zero_le _) (Nat.zero_le _) dX3_startOf_22
  · have h := itT c1 h
    refine y_iconst C dX3_startOf_4 kc_0 ?_
    have e0 := Option.some.inj h
    subst e0
    exact y_iret C E (Nat.zero_le _) (Nat.zero_le _) dX3_startOf_5
set_option maxRecDepth 100000 in
def b_X4_act (K : yK) (M : yM) (t : Nat) (x1 : Int32) (x2 : Int32) : Option (Int32 × yM) := (Option.bind (if x1 = (2 : Int32) then (some (1 : Int32)) else (if x1 = (261 : Int32) then (some (1 : Int32)) else (some (2 : Int32)))) fun j2 => (if x2 < j2 then (some (x2, M)) else (if gO K t 3 = true then (Option.bind (K.2.2 t 0) fun q6 => (if gI K q6 = true then (if x2 ≤ (Int32.ofNat (K.2.1 q6).2) then (if gA K q6 (x2 - j2) = true then (Option.bind (some (M q6 ((x2 - j2)).toNatClampNeg)) fun v10 => (if gA K q6 (x2 - (1 : Int32)) = true then (Option.bind (some (M q6 ((x2 - (1 : Int32))).toNatClampNeg)) fun v12 => (Option.bind (if x1 = (2 : Int32) then (Option.bind (some (-v12)) fun v22 => (some v22)) else (if x1 = (42 : Int32) then (Option.bind (some (v10 * v12)) fun v23 => (some v23)) else (if x1 = (43 : Int32) then (Option.bind (some (v10 + v12)) fun v24 => (some v24)) else (if x1 = (45 : Int32) then (Option.bind (some (v10 - v12)) fun v25 => (some v25)) else (if x1 = (60 : Int32) then (Option.bind (if v12 ≤ v10 then (some false) else (some true)) fun j27 => (some (bI j27))) else (if x1 = (61 : Int32) then (Option.bind (if v10 = v12 then (some true) else (some false)) fun j29 => (some (bI j29))) else (if x1 = (260 : Int32) then (Option.bind (if v10 = 0 then (some false) else (if v12 = 0 then (some false) else (some true))) fun j31 => (some (bI j31))) else (if x1 = (261 : Int32) then (Option.bind (if v12 = 0 then (some true) else (some false)) fun j34 => (some (bI j34))) else (Option.bind (if v10 = 0 then (if v12 = 0 then (some false) else (some true)) else (some true)) fun j36 => (some (bI j36))))))))))) fun j21 => (Option.bind (some (yS M q6 ((x2 - j2)).toNatClampNeg j21)) fun M38 => (some (((x2 - j2) + (1 : Int32)), M38))))) else none)) else none) else (some (x2, M))) else none)) else none)))
set_option maxHeartbeats 4000000 in
set_option maxRecDepth 100000 in
theorem m_X4_act (K : yK) (M : yM) (t : Nat) (x1 : Int32) (x2 : Int32) : yMet yX4_act cX4_act 7 (Option.some Jvm.ClassFile.FieldType.int) rm_X4_act K M [.ref t, .int x1, .int x2] (b_X4_act K M t x1 x2) (yGi K) := by
  refine yM_intro (by decide) (Nat.le_of_ble_eq_true rfl) (fun X r h C E => ?_)
  replace C : yCx X cX4_act RX4 "act" rm_X4_act 7 := C
  show Y X K M 0 0 0 [(0, .ref t), (1, .int x1), (2, .int x2)] []
  unfold b_X4_act at h
  refine y_iload_n C dX4_act_0 rfl ?_
  refine y_iconst C dX4_act_1 kc_2 ?_
  obtain ⟨j2, hj2, h⟩ := ob h
  have hJj2 : Y X K M 0 0 17 [(0, .ref t), (1, .int x1), (2, .int x2)] [.int j2] := by
    refine y_istore_n C dX4_act_17 (by decide) (L' := [(3, .int j2), (0, .ref t), (1, .int x1), (2, .int x2)]) rfl ?_
    refine y_iload_n C dX4_act_18 rfl ?_
    refine y_iload_n C dX4_act_19 rfl ?_
    refine y_icmp_lt C dX4_act_20 (tgt := 32) rfl (fun c4 => ?_) (fun c4 => ?_)
    · have h := itT c4 h
      refine y_iload_n C dX4_act_32 rfl ?_
      have e0 := Option.some.inj h
      subst e0
      exact y_iret C E (Nat.zero_le _) (Nat.zero_le _) dX4_act_33
    · have h := itF c4 h
      refine y_iload_n C dX4_act_23 rfl ?_
      refine y_aload_n C dX4_act_24 rfl ?_
      obtain ⟨g5, h⟩ := gd h
      obtain ⟨q6, hq6, h⟩ := ob h
      refine y_getr C fl_X4_9 g5 hq6 dX4_act_25 ?_
      obtain ⟨g7, h⟩ := gd h
      refine y_alen C g7 dX4_act_28 ?_
      refine y_icmp_le C dX4_act_29 (tgt := 34) rfl (fun c8 => ?_) (fun c8 => ?_)
      · have h := itT c8 h
        refine y_aload_n C dX4_act_34 rfl ?_
        refine y_getr C fl_X4_9 g5 hq6 dX4_act_35 ?_
        refine y_iload_n C dX4_act_38 rfl ?_
        refine y_iload_n C dX4_act_39 rfl ?_
        refine y_isub C dX4_act_40 ?_
        obtain ⟨g9, h⟩ := gd h
        refine y_iald C g9 dX4_act_41 ?_
        obtain ⟨v10, ev10, h⟩ := ob h
        have ev10 := Option.some.inj ev10
        refine y_istore C dX4_act_42 (by decide) (L' := [(4, .int v10), (3, .int j2), (0, .ref t), (1, .int x1), (2, .int x2)]) (by subst ev10; rfl) ?_
        refine y_aload_n C dX4_act_44 rfl ?_
        refine y_getr C fl_X4_9 g5 hq6 dX4_act_45 ?_
        refine y_iload_n C dX4_act_48 rfl ?_
        refine y_iconst C dX4_act_49 kc_1 ?_
        refine y_isub C dX4_act_50 ?_
        obtain ⟨g11, h⟩ := gd h
        refine y_iald C g11 dX4_act_51 ?_
        obtain ⟨v12, ev12, h⟩ := ob h
        have ev12 := Option.some.inj ev12
        refine y_istore C dX4_act_52 (by decide) (L' := [(5, .int v12), (4, .int v10), (3, .int j2), (0, .ref t), (1, .int x1), (2, .int x2)]) (by subst ev12; rfl) ?_
        refine y_iload_n C dX4_act_54 rfl ?_
        obtain ⟨j21, hj21, h⟩ := ob h
        have hJj21 : Y X K M 0 0 252 [(6, .int j21), (3, .int j2), (0, .ref t), (2, .int x2)] [] := by
          refine y_aload_n C dX4_act_252 rfl ?_
          refine y_getr C fl_X4_9 g5 hq6 dX4_act_253 ?_
          refine y_iload_n C dX4_act_256 rfl ?_
          refine y_iload_n C dX4_act_257 rfl ?_
          refine y_isub C dX4_act_258 ?_
          refine y_iload C dX4_act_259 rfl ?_
          obtain ⟨M38, eM38, h⟩ := ob h
          have eM38 := Option.some.inj eM38
          refine y_iast C g9 dX4_act_261 eM38 ?_
          refine y_iload_n C dX4_act_262 rfl ?_
          refine y_iload_n C dX4_act_263 rfl ?_
          refine y_isub C dX4_act_264 ?_
          refine y_iconst C dX4_act_265 kc_1 ?_
          refine y_iadd C dX4_act_266 ?_
          have e0 := Option.some.inj h
          subst e0
          exact y_iret C E (Nat.zero_le _) (Nat.zero_le _) dX4_act_267
        replace h := hj21
        rcases Classical.em (x1 = (2 : Int32)) with c13 | c13
        · have h := itT c13 h
          refine y_lookup C dX4_act_55 (off := 73) (tgt := 128) (by decide) (by rw [c13]; rfl) rfl ?_
          refine y_iload C dX4_act_128 rfl ?_
          refine y_ineg C dX4_act_130 ?_
          obtain ⟨v22, ev22, h⟩ := ob h
          have ev22 := Option.some.inj ev22
          refine y_istore C dX4_act_131 (by decide) (L' := [(6, .int v22), (5, .int v12), (4, .int v10), (3, .int j2), (0, .ref t), (1, .int x1), (2, .int x2)]) (by subst ev22; rfl) ?_
          refine y_goto C dX4_act_133 (tgt := 252) rfl ?_
          have e0 := Option.some.inj h
          subst e0
          exact y_sel [6, 3, 0, 2] rfl hJj21
        replace h := itF c13 h
        rcases Classical.em (x1 = (42 : Int32)) with c14 | c14
        · have h := itT c14 h
          refine y_lookup C dX4_act_55 (off := 116) (tgt := 171) (by decide) (by rw [c14]; rfl) rfl ?_
          refine y_iload C dX4_act_171 rfl ?_
          refine y_iload C dX4_act_173 rfl ?_
          refine y_imul C dX4_act_175 ?_
          obtain ⟨v23, ev23, h⟩ := ob h
          have ev23 := Option.some.inj ev23
          refine y_istore C dX4_act_176 (by decide) (L' := [(6, .int v23), (5, .int v12), (4, .int v10), (3, .int j2), (0, .ref t), (1, .int x1), (2, .int x2)]) (by subst ev23; rfl) ?_
          refine y_goto C dX4_act_178 (tgt := 252) rfl ?_
          have e0 := Option.some.inj h
          subst e0
          exact y_sel [6, 3, 0, 2] rfl hJj21
        replace h := itF c14 h
        rcases Classical.em (x1 = (43 : Int32)) with c15 | c15
        · have h := itT c15 h
          refine y_lookup C dX4_act_55 (off := 96) (tgt := 151) (by decide) (by rw [c15]; rfl) rfl ?_
          refine y_iload C dX4_act_151 rfl ?_
          refine y_iload C dX4_act_153 rfl ?_
          refine y_iadd C dX4_act_155 ?_
          obtain ⟨v24, ev24, h⟩ := ob h
          have ev24 := Option.some.inj ev24
          refine y_istore C dX4_act_156 (by decide) (L' := [(6, .int v24), (5, .int v12), (4, .int v10), (3, .int j2), (0, .ref t), (1, .int x1), (2, .int x2)]) (by subst ev24; rfl) ?_
          refine y_goto C dX4_act_158 (tgt := 252) rfl ?_
          have e0 := Option.some.inj h
          subst e0
          exact y_sel [6, 3, 0, 2] rfl hJj21
        replace h := itF c15 h
        rcases Classical.em (x1 = (45 : Int32)) with c16 | c16
        · have h := itT c16 h
          refine y_lookup C dX4_act_55 (off := 106) (tgt := 161) (by decide) (by rw [c16]; rfl) rfl ?_
          refine y_iload C dX4_act_161 rfl ?_
          refine y_iload C dX4_act_163 rfl ?_
          refine y_isub C dX4_act_165 ?_
          obtain ⟨v25, ev25, h⟩ := ob h
          have ev25 := Option.some.inj ev25
          refine y_istore C dX4_act_166 (by decide) (L' := [(6, .int v25), (5, .int v12), (4, .int v10), (3, .int j2), (0, .ref t), (1, .int x1), (2, .int x2)]) (by subst ev25; rfl) ?_
          refine y_goto C dX4_act_168 (tgt := 252) rfl ?_
          have e0 := Option.some.inj h
          subst e0
          exact y_sel [6, 3, 0, 2] rfl hJj21
        replace h := itF c16 h
        rcases Classical.em (x1 = (60 : Int32)) with c17 | c17
        · have h := itT c17 h
          refine y_lookup C dX4_act_55 (off := 126) (tgt := 181) (by decide) (by rw [c17]; rfl) rfl ?_
          refine y_iload C dX4_act_181 rfl ?_
          refine y_iload C dX4_act_183 rfl ?_
          obtain ⟨j27, hj27, h⟩ := ob h
          have hJj27 : Y X K M 0 0 193 [(3, .int j2), (0, .ref t), (2, .int x2)] [.int (bI j27)] := by
            refine y_istore C dX4_act_193 (by decide) (L' := [(6, .int (bI j27)), (3, .int j2), (0, .ref t), (2, .int x2)]) rfl ?_
            refine y_goto C dX4_act_195 (tgt := 252) rfl ?_
            have e0 := Option.some.inj h
            subst e0
            exact y_sel [6, 3, 0, 2] rfl hJj21
          replace h := hj27
          refine y_icmp_ge C dX4_act_185 (tgt := 192) rfl (fun c26 => ?_) (fun c26 => ?_)
          · have h := itT c26 h
            refine y_iconst C dX4_act_192 kc_0 ?_
            have e0 := Option.some.inj h
            subst e0
            exact y_sel [3, 0, 2] rfl hJj27
          · have h := itF c26 h
            refine y_iconst C dX4_act_188 kc_1 ?_
            refine y_goto C dX4_act_189 (tgt := 193) rfl ?_
            have e0 := Option.some.inj h
            subst e0
            exact y_sel [3, 0, 2] rfl hJj27
        replace h := itF c17 h
        rcases Classical.em (x1 = (61 : Int32)) with c18 | c18
        · have h := itT c18 h
          refine y_lookup C dX4_act_55 (off := 143) (tgt := 198) (by decide) (by rw [c18]; rfl) rfl ?_
          refine y_iload C dX4_act_198 rfl ?_
          refine y_iload C dX4_act_200 rfl ?_
          obtain ⟨j29, hj29, h⟩ := ob h
          have hJj29 : Y X K M 0 0 210 [(3, .int j2), (0, .ref t), (2, .int x2)] [.int (bI j29)] := by
            refine y_istore C dX4_act_210 (by decide) (L' := [(6, .int (bI j29)), (3, .int j2), (0, .ref t), (2, .int x2)]) rfl ?_
            refine y_goto C dX4_act_212 (tgt := 252) rfl ?_
            have e0 := Option.some.inj h
            subst e0
            exact y_sel [6, 3, 0, 2] rfl hJj21
          replace h := hj29
          refine y_icmp_ne C dX4_act_202 (tgt := 209) rfl (fun c28 => ?_) (fun c28 => ?_)
          · have h := itF c28 h
            refine y_iconst C dX4_act_209 kc_0 ?_
            have e0 := Option.some.inj h
            subst e0
            exact y_sel [3, 0, 2] rfl hJj29
          · have h := itT c28 h
            refine y_iconst C dX4_act_205 kc_1 ?_
            refine y_goto C dX4_act_206 (tgt := 210) rfl ?_
            have e0 := Option.some.inj h
            subst e0
            exact y_sel [3, 0, 2] rfl hJj29
        replace h := itF c18 h
        rcases Classical.em (x1 = (260 : Int32)) with c19 | c19
        · have h := itT c19 h
          refine y_lookup C dX4_act_55 (off := 160) (tgt := 215) (by decide) (by rw [c19]; rfl) rfl ?_
          refine y_iload C dX4_act_215 rfl ?_
          obtain ⟨j31, hj31, h⟩ := ob h
          have hJj31 : Y X K M 0 0 230 [(3, .int j2), (0, .ref t), (2, .int x2)] [.int (bI j31)] := by
            refine y_istore C dX4_act_230 (by decide) (L' := [(6, .int (bI j31)), (3, .int j2), (0, .ref t), (2, .int x2)]) rfl ?_
            refine y_goto C dX4_act_232 (tgt := 252) rfl ?_
            have e0 := Option.some.inj h
            subst e0
            exact y_sel [6, 3, 0, 2] rfl hJj21
          replace h := hj31
          refine y_if_eq C dX4_act_217 (tgt := 229) rfl (fun c30 => ?_) (fun c30 => ?_)
          · have h := itT c30 h
            refine y_iconst C dX4_act_229 kc_0 ?_
            have e0 := Option.some.inj h
            subst e0
            exact y_sel [3, 0, 2] rfl hJj31
          · have h := itF c30 h
            refine y_iload C dX4_act_220 rfl ?_
            refine y_if_eq C dX4_act_222 (tgt := 229) rfl (fun c32 => ?_) (fun c32 => ?_)
            · have h := itT c32 h
              refine y_iconst C dX4_act_229 kc_0 ?_
              have e0 := Option.some.inj h
              subst e0
              exact y_sel [3, 0, 2] rfl hJj31
            · have h := itF c32 h
              refine y_iconst C dX4_act_225 kc_1 ?_
              refine y_goto C dX4_act_226 (tgt := 230) rfl ?_
              have e0 := Option.some.inj h
              subst e0
              exact y_sel [3, 0, 2] rfl hJj31
        replace h := itF c19 h
        rcases Classical.em (x1 = (261 : Int32)) with c20 | c20
        · have h := itT c20 h
          refine y_lookup C dX4_act_55 (off := 81) (tgt := 136) (by decide) (by rw [c20]; rfl) rfl ?_
          refine y_iload C dX4_act_136 rfl ?_
          obtain ⟨j34, hj34, h⟩ := ob h
          have hJj34 : Y X K M 0 0 146 [(3, .int j2), (0, .ref t), (2, .int x2)] [.int (bI j34)] := by
            refine y_istore C dX4_act_146 (by decide) (L' := [(6, .int (bI j34)), (3, .int j2), (0, .ref t), (2, .int x2)]) rfl ?_
            refine y_goto C dX4_act_148 (tgt := 252) rfl ?_
            have e0 := Option.some.inj h
            subst e0
            exact y_sel [6, 3, 0, 2] rfl hJj21
          replace h := hj34
          refine y_if_ne C dX4_act_138 (tgt := 145) rfl (fun c33 => ?_) (fun c33 => ?_)
          · have h := itF c33 h
            refine y_iconst C dX4_act_145 kc_0 ?_
            have e0 := Option.some.inj h
            subst e0
            exact y_sel [3, 0, 2] rfl hJj34
          · have h := itT c33 h
            refine y_iconst C dX4_act_141 kc_1 ?_
            refine y_goto C dX4_act_142 (tgt := 146) rfl ?_
            have e0 := Option.some.inj h
            subst e0
            exact y_sel [3, 0, 2] rfl hJj34
        replace h := itF c20 h
        refine y_lookup C dX4_act_55 (off := 180) (tgt := 235) (by decide) (by have q0 : (x1).toInt ≠ 2 := yNe c13; have q1 : (x1).toInt ≠ 42 := yNe c14; have q2 : (x1).toInt ≠ 43 := yNe c15; have q3 : (x1).toInt ≠ 45 := yNe c16; have q4 : (x1).toInt ≠ 60 := yNe c17; have q5 : (x1).toInt ≠ 61 := yNe c18; have q6 : (x1).toInt ≠ 260 := yNe c19; have q7 : (x1).toInt ≠ 261 := yNe c20; simp [Op.lookupswitch.offset, q0.symm, q1.symm, q2.symm, q3.symm, q4.symm, q5.symm, q6.symm, q7.symm]) rfl ?_
        refine y_iload C dX4_act_235 rfl ?_
        obtain ⟨j36, hj36, h⟩ := ob h
        have hJj36 : Y X K M 0 0 250 [(3, .int j2), (0, .ref t), (2, .int x2)] [.int (bI j36)] := by
          refine y_istore C dX4_act_250 (by decide) (L' := [(6, .int (bI j36)), (3, .int j2), (0, .ref t), (2, .int x2)]) rfl ?_
          have e0 := Option.some.inj h
          subst e0
          exact y_sel [6, 3, 0, 2] rfl hJj21
        replace h := hj36
        refine y_if_ne C dX4_act_237 (tgt := 245) rfl (fun c35 => ?_) (fun c35 => ?_)
        · have h := itF c35 h
          refine y_iconst C dX4_act_245 kc_1 ?_
          refine y_goto C dX4_act_246 (tgt := 250) rfl ?_
          have e0 := Option.some.inj h
          subst e0
          exact y_sel [3, 0, 2] rfl hJj36
        · have h := itT c35 h
          refine y_iload C dX4_act_240 rfl ?_
          refine y_if_eq C dX4_act_242 (tgt := 249) rfl (fun c37 => ?_) (fun c37 => ?_)
          · have h := itT c37 h
            refine y_iconst C dX4_act_249 kc_0 ?_
            have e0 := Option.some.inj h
            subst e0
            exact y_sel [3, 0, 2] rfl hJj36
          · have h := itF c37 h
            refine y_iconst C dX4_act_245 kc_1 ?_
            refine y_goto C dX4_act_246 (tgt := 250) rfl ?_
            have e0 := Option.some.inj h
            subst e0
            exact y_sel [3, 0, 2] rfl hJj36
      · have h := itF c8 h
        refine y_iload_n C dX4_act_32 rfl ?_
        have e0 := Option.some.inj h
        subst e0
        exact y_iret C E (Nat.zero_le _) (Nat.zero_le _) dX4_act_33
  replace h := hj2
  refine y_icmp_eq C dX4_act_2 (tgt := 12) rfl (fun c1 => ?_) (fun c1 => ?_)
  · have h := itT c1 h
    refine y_iconst C dX4_act_12 kc_1 ?_
    refine y_goto C dX4_act_13 (tgt := 17) rfl ?_
    have e0 := Option.some.inj h
    subst e0
    exact y_sel [0, 1, 2] rfl hJj2
  · have h := itF c1 h
    refine y_iload_n C dX4_act_5 rfl ?_
    refine y_sipush C dX4_act_6 ks_261 ?_
    refine y_icmp_ne C dX4_act_9 (tgt := 16) rfl (fun c3 => ?_) (fun c3 => ?_)
    · have h := itF c3 h
      refine y_iconst C dX4_act_16 kc_2 ?_
      have e0 := Option.some.inj h
      subst e0
      exact y_sel [0, 1, 2] rfl hJj2
    · have h := itT c3 h
      refine y_iconst C dX4_act_12 kc_1 ?_
      refine y_goto C dX4_act_13 (tgt := 17) rfl ?_
      have e0 := Option.some.inj h
      subst e0
      exact y_sel [0, 1, 2] rfl hJj2
def b_X4_value_22 (K : yK) (t : Nat) (t_1 : Nat) (x_4 : Int32) : Nat → yM → Int32 → Int32 → Option (Int32 × yM)
  | 0, _, _, _ => none
  | n + 1, M, u22_3, u22_5 => (if x_4 ≤ u22_5 then (some (u22_3, M)) else (if gO K t_1 2 = true then (Option.bind (b_X3_codeAt K M t_1 u22_5) fun r3 => (Option.bind (some ((-r3) - (262 : Int32))) fun v4 => (Option.bind (if v4 < 0 then (some false) else (if gO K t 3 = true then (Option.bind (K.2.2 t 1) fun q8 => (if gI K q8 = true then (if (Int32.ofNat (K.2.1 q8).2) ≤ v4 then (some false) else (some true)) else none)) else none)) fun j6 => (if 0 ≤ r3 then (if gO K t 3 = true then (Option.bind (K.2.2 t 0) fun q13 => (if gI K q13 = true then (Option.bind (if (Int32.ofNat (K.2.1 q13).2) ≤ u22_3 then (some (u22_3, M)) else (Option.bind (if j6 = true then (Option.bind (K.2.2 t 1) fun q19 => (if gA K q19 v4 = true then (some (M q19 (v4).toNatClampNeg)) else none)) else (some r3)) fun j18 => (if gA K q13 u22_3 = true then (Option.bind (some (yS M q13 (u22_3).toNatClampNeg j18)) fun M22 => (Option.bind (some (u22_3 + (1 : Int32))) fun v23 => (some (v23, M22)))) else none))) fun j16 => (Option.bind (some (u22_5 + (1 : Int32))) fun v24 => (b_X4_value_22 K t t_1 x_4 n j16.2 j16.1 v24))) else none)) else none) else (Option.bind (if j6 = true then (if gO K t 3 = true then (Option.bind (K.2.2 t 0) fun q28 => (if gI K q28 = true then (if (Int32.ofNat (K.2.1 q28).2) ≤ u22_3 then (some (u22_3, M)) else (Option.bind (if j6 = true then (Option.bind (K.2.2 t 1) fun q33 => (if gA K q33 v4 = true then (some (M q33 (v4).toNatClampNeg)) else none)) else (some r3)) fun j32 => (if gA K q28 u22_3 = true then (Option.bind (some (yS M q28 (u22_3).toNatClampNeg j32)) fun M36 => (Option.bind (some (u22_3 + (1 : Int32))) fun v37 => (some (v37, M36)))) else none))) else none)) else none) else (if gO K t 3 = true then (Option.bind (b_X4_act K M t (-r3) u22_3) fun r39 => (some (r39.1, r39.2))) else none)) fun j26 => (Option.bind (some (u22_5 + (1 : Int32))) fun v40 => (b_X4_value_22 K t t_1 x_4 n j26.2 j26.1 v40))))))) else none))
set_option maxHeartbeats 4000000 in
set_option maxRecDepth 100000 in
theorem l_X4_value_22 {X : yX} {K : yK} {t : Nat} {t_1 : Nat} {x_4 : Int32} (C : yCx X cX4_value RX4 "value" rm_X4_value 9) : ∀ (n : Nat) (M : yM) (u22_3 : Int32) (u22_5 : Int32) (x : (Int32 × yM)), b_X4_value_22 K t t_1 x_4 n M u22_3 u22_5 = some x → ∀ (hX : Y X K x.2 0 0 131 [(0, .ref t), (3, .int x.1)] []), Y X K M 0 0 22 [(0, .ref t), (1, .ref t_1), (3, .int u22_3), (4, .int x_4), (5, .int u22_5)] [] := by
  intro n
  induction n with
  | zero =>
    intro M u22_3 u22_5 x h
    exact nomatch (show (none : Option _) = some x from h)
  | succ n ih =>
    intro M u22_3 u22_5 x h hX
    rw [b_X4_value_22] at h
    refine y_iload C dX4_value_22 rfl ?_
    refine y_iload C dX4_value_24 rfl ?_
    refine y_icmp_ge C dX4_value_26 (tgt := 131) rfl (fun c1 => ?_) (fun c1 => ?_)
    · have h := itT c1 h
      have e0 := Option.some.inj h
      subst e0
      exact y_sel [0, 3] rfl hX
    · have h := itF c1 h
      refine y_aload_n C dX4_value_29 rfl ?_
      refine y_iload C dX4_value_30 rfl ?_
      obtain ⟨g2, h⟩ := gd h
      obtain ⟨r3, hr3, h⟩ := ob h
      refine y_cV C [.int u22_5] (m_X3_codeAt K M t_1 u22_5) hr3 g2 cw_X4_27 rfl (by decide) ⟨rfl, rfl⟩ ⟨Nat.zero_le _, Nat.zero_le _⟩ (Nat.le_of_ble_eq_true rfl) rfl rfl rfl dX4_value_32 ?_
      refine y_istore C dX4_value_35 (by decide) (L' := [(6, .int r3), (0, .ref t), (1, .ref t_1), (3, .int u22_3), (4, .int x_4), (5, .int u22_5)]) rfl ?_
      refine y_iload C dX4_value_37 rfl ?_
      refine y_ineg C dX4_value_39 ?_
      refine y_sipush C dX4_value_40 ks_262 ?_
      refine y_isub C dX4_value_43 ?_
      obtain ⟨v4, ev4, h⟩ := ob h
      have ev4 := Option.some.inj ev4
      refine y_istore C dX4_value_44 (by decide) (L' := [(7, .int v4), (6, .int r3), (0, .ref t), (1, .ref t_1), (3, .int u22_3), (4, .int x_4), (5, .int u22_5)]) (by subst ev4; rfl) ?_
      refine y_iload C dX4_value_46 rfl ?_
      obtain ⟨j6, hj6, h⟩ := ob h
      have hJj6 : Y X K M 0 0 66 [(7, .int v4), (6, .int r3), (0, .ref t), (1, .ref t_1), (3, .int u22_3), (4, .int x_4), (5, .int u22_5)] [.int (bI j6)] := by
        refine y_istore C dX4_value_66 (by decide) (L' := [(8, .int (bI j6)), (7, .int v4), (6, .int r3), (0, .ref t), (1, .ref t_1), (3, .int u22_3), (4, .int x_4), (5, .int u22_5)]) rfl ?_
        refine y_iload C dX4_value_68 rfl ?_
        refine y_if_ge C dX4_value_70 (tgt := 90) rfl (fun c11 => ?_) (fun c11 => ?_)
        · have h := itT c11 h
          refine y_iload_n C dX4_value_90 rfl ?_
          refine y_aload_n C dX4_value_91 rfl ?_
          obtain ⟨g12, h⟩ := gd h
          obtain ⟨q13, hq13, h⟩ := ob h
          refine y_getr C fl_X4_9 g12 hq13 dX4_value_92 ?_
          obtain ⟨g14, h⟩ := gd h
          refine y_alen C g14 dX4_value_95 ?_
          obtain ⟨j16, hj16, h⟩ := ob h
          have hJj16 : Y X K j16.2 0 0 125 [(0, .ref t), (1, .ref t_1), (3, .int j16.1), (4, .int x_4), (5, .int u22_5)] [] := by
            obtain ⟨v24, ev24, h⟩ := ob h
            have ev24 := Option.some.inj ev24
            refine y_iinc C dX4_value_125 (by decide) rfl (v := v24) (by subst ev24; rfl) (L' := [(5, .int v24), (0, .ref t), (1, .ref t_1), (3, .int j16.1), (4, .int x_4)]) rfl ?_
            refine y_goto C dX4_value_128 (tgt := 22) rfl ?_
            exact y_sel [0, 1, 3, 4, 5] rfl (ih _ _ _ _  h hX)
          replace h := hj16
          refine y_icmp_ge C dX4_value_96 (tgt := 125) rfl (fun c15 => ?_) (fun c15 => ?_)
          · have h := itT c15 h
            have e0 := Option.some.inj h
            subst e0
            exact y_sel [0, 1, 3, 4, 5] rfl hJj16
          · have h := itF c15 h
            refine y_aload_n C dX4_value_99 rfl ?_
            refine y_getr C fl_X4_9 g12 hq13 dX4_value_100 ?_
            refine y_iload_n C dX4_value_103 rfl ?_
            refine y_iload C dX4_value_104 rfl ?_
            obtain ⟨j18, hj18, h⟩ := ob h
            have hJj18 : Y X K M 0 0 121 [(0, .ref t), (1, .ref t_1), (3, .int u22_3), (4, .int x_4), (5, .int u22_5)] [.int j18, .int u22_3, .ref q13] := by
              obtain ⟨g21, h⟩ := gd h
              obtain ⟨M22, eM22, h⟩ := ob h
              have eM22 := Option.some.inj eM22
              refine y_iast C g21 dX4_value_121 eM22 ?_
              obtain ⟨v23, ev23, h⟩ := ob h
              have ev23 := Option.some.inj ev23
              refine y_iinc C dX4_value_122 (by decide) rfl (v := v23) (by subst ev23; rfl) (L' := [(3, .int v23), (0, .ref t), (1, .ref t_1), (4, .int x_4), (5, .int u22_5)]) rfl ?_
              have e0 := Option.some.inj h
              subst e0
              exact y_sel [0, 1, 3, 4, 5] rfl hJj16
            replace h := hj18
            refine y_ifeqB C dX4_value_106 (tgt := 119) rfl (fun c17 => ?_) (fun c17 => ?_)
            · have h := itFb c17 h
              refine y_iload C dX4_value_119 rfl ?_
              have e0 := Option.some.inj h
              subst e0
              exact y_sel [0, 1, 3, 4, 5] rfl hJj18
            · have h := itT c17 h
              refine y_aload_n C dX4_value_109 rfl ?_
              obtain ⟨q19, hq19, h⟩ := ob h
              refine y_getr C fl_X4_15 g12 hq19 dX4_value_110 ?_
              refine y_iload C dX4_value_113 rfl ?_
              obtain ⟨g20, h⟩ := gd h
              refine y_iald C g20 dX4_value_115 ?_
              refine y_goto C dX4_value_116 (tgt := 121) rfl ?_
              have e0 := Option.some.inj h
              subst e0
              exact y_sel [0, 1, 3, 4, 5] rfl hJj18
        · have h := itF c11 h
          refine y_iload C dX4_value_73 rfl ?_
          obtain ⟨j26, hj26, h⟩ := ob h
          have hJj26 : Y X K j26.2 0 0 125 [(0, .ref t), (1, .ref t_1), (3, .int j26.1), (4, .int x_4), (5, .int u22_5)] [] := by
            obtain ⟨v40, ev40, h⟩ := ob h
            have ev40 := Option.some.inj ev40
            refine y_iinc C dX4_value_125 (by decide) rfl (v := v40) (by subst ev40; rfl) (L' := [(5, .int v40), (0, .ref t), (1, .ref t_1), (3, .int j26.1), (4, .int x_4)]) rfl ?_
            refine y_goto C dX4_value_128 (tgt := 22) rfl ?_
            exact y_sel [0, 1, 3, 4, 5] rfl (ih _ _ _ _  h hX)
          replace h := hj26
          refine y_ifneB C dX4_value_75 (tgt := 90) rfl (fun c25 => ?_) (fun c25 => ?_)
          · have h := itT c25 h
            refine y_iload_n C dX4_value_90 rfl ?_
            refine y_aload_n C dX4_value_91 rfl ?_
            obtain ⟨g27, h⟩ := gd h
            obtain ⟨q28, hq28, h⟩ := ob h
            refine y_getr C fl_X4_9 g27 hq28 dX4_value_92 ?_
            obtain ⟨g29, h⟩ := gd h
            refine y_alen C g29 dX4_value_95 ?_
            refine y_icmp_ge C dX4_value_96 (tgt := 125) rfl (fun c30 => ?_) (fun c30 => ?_)
            · have h := itT c30 h
              have e0 := Option.some.inj h
              subst e0
              exact y_sel [0, 1, 3, 4, 5] rfl hJj26
            · have h := itF c30 h
              refine y_aload_n C dX4_value_99 rfl ?_
              refine y_getr C fl_X4_9 g27 hq28 dX4_value_100 ?_
              refine y_iload_n C dX4_value_103 rfl ?_
              refine y_iload C dX4_value_104 rfl ?_
              obtain ⟨j32, hj32, h⟩ := ob h
              have hJj32 : Y X K M 0 0 121 [(0, .ref t), (1, .ref t_1), (3, .int u22_3), (4, .int x_4), (5, .int u22_5)] [.int j32, .int u22_3, .ref q28] := by
                obtain ⟨g35, h⟩ := gd h
                obtain ⟨M36, eM36, h⟩ := ob h
                have eM36 := Option.some.inj eM36
                refine y_iast C g35 dX4_value_121 eM36 ?_
                obtain ⟨v37, ev37, h⟩ := ob h
                have ev37 := Option.some.inj ev37
                refine y_iinc C dX4_value_122 (by decide) rfl (v := v37) (by subst ev37; rfl) (L' := [(3, .int v37), (0, .ref t), (1, .ref t_1), (4, .int x_4), (5, .int u22_5)]) rfl ?_
                have e0 := Option.some.inj h
                subst e0
                exact y_sel [0, 1, 3, 4, 5] rfl hJj26
              replace h := hj32
              refine y_ifeqB C dX4_value_106 (tgt := 119) rfl (fun c31 => ?_) (fun c31 => ?_)
              · have h := itFb c31 h
                refine y_iload C dX4_value_119 rfl ?_
                have e0 := Option.some.inj h
                subst e0
                exact y_sel [0, 1, 3, 4, 5] rfl hJj32
              · have h := itT c31 h
                refine y_aload_n C dX4_value_109 rfl ?_
                obtain ⟨q33, hq33, h⟩ := ob h
                refine y_getr C fl_X4_15 g27 hq33 dX4_value_110 ?_
                refine y_iload C dX4_value_113 rfl ?_
                obtain ⟨g34, h⟩ := gd h
                refine y_iald C g34 dX4_value_115 ?_
                refine y_goto C dX4_value_116 (tgt := 121) rfl ?_
                have e0 := Option.some.inj h
                subst e0
                exact y_sel [0, 1, 3, 4, 5] rfl hJj32
          · have h := itFb c25 h
            refine y_aload_n C dX4_value_78 rfl ?_
            refine y_iload C dX4_value_79 rfl ?_
            refine y_ineg C dX4_value_81 ?_
            refine y_iload_n C dX4_value_82 rfl ?_
            obtain ⟨g38, h⟩ := gd h
            obtain ⟨r39, hr39, h⟩ := ob h
            refine y_cV C [.int (-r3), .int u22_3] (m_X4_act K M t (-r3) u22_3) hr39 g38 cw_X4_30 rfl (by decide) ⟨rfl, rfl⟩ ⟨Nat.zero_le _, Nat.zero_le _⟩ (Nat.le_of_ble_eq_true rfl) rfl rfl rfl dX4_value_83 ?_
            refine y_istore_n C dX4_value_86 (by decide) (L' := [(3, .int r39.1), (8, .int (bI j6)), (7, .int v4), (6, .int r3), (0, .ref t), (1, .ref t_1), (4, .int x_4), (5, .int u22_5)]) rfl ?_
            refine y_goto C dX4_value_87 (tgt := 125) rfl ?_
            have e0 := Option.some.inj h
            subst e0
            exact y_sel [0, 1, 3, 4, 5] rfl hJj26
      replace h := hj6
      refine y_if_lt C dX4_value_48 (tgt := 65) rfl (fun c5 => ?_) (fun c5 => ?_)
      · have h := itT c5 h
        refine y_iconst C dX4_value_65 kc_0 ?_
        have e0 := Option.some.inj h
        subst e0
        exact y_sel [7, 6, 0, 1, 3, 4, 5] rfl hJj6
      · have h := itF c5 h
        refine y_iload C dX4_value_51 rfl ?_
        refine y_aload_n C dX4_value_53 rfl ?_
        obtain ⟨g7, h⟩ := gd h
        obtain ⟨q8, hq8, h⟩ := ob h
        refine y_getr C fl_X4_15 g7 hq8 dX4_value_54 ?_
        obtain ⟨g9, h⟩ := gd h
        refine y_alen C g9 dX4_value_57 ?_
        refine y_icmp_ge C dX4_value_58 (tgt := 65) rfl (fun c10 => ?_) (fun c10 => ?_)
        · have h := itT c10 h
          refine y_iconst C dX4_value_65 kc_0 ?_
          have e0 := Option.some.inj h
          subst e0
          exact y_sel [7, 6, 0, 1, 3, 4, 5] rfl hJj6
        · have h := itF c10 h
          refine y_iconst C dX4_value_61 kc_1 ?_
          refine y_goto C dX4_value_62 (tgt := 66) rfl ?_
          have e0 := Option.some.inj h
          subst e0
          exact y_sel [7, 6, 0, 1, 3, 4, 5] rfl hJj6
set_option maxRecDepth 100000 in
def b_X4_value (K : yK) (M : yM) (t : Nat) (a1 : Nat) (x2 : Int32) : Option (Int32 × yM) := (if gO K a1 2 = true then (Option.bind (b_X3_endOf K M a1 x2) fun r3 => (Option.bind (b_X3_startOf K M a1 x2) fun r4 => (Option.bind (b_X4_value_22 K t a1 r3 1000 M ((0 : Int32)) r4) fun j5 => (if j5.1 ≤ 0 then (some ((0 : Int32), j5.2)) else (if gO K t 3 = true then (Option.bind (K.2.2 t 0) fun q8 => (if gA K q8 (0 : Int32) = true then (some ((j5.2 q8 ((0 : Int32)).toNatClampNeg), j5.2)) else none)) else none))))) else none)
set_option maxHeartbeats 4000000 in
set_option maxRecDepth 100000 in
theorem m_X4_value (K : yK) (M : yM) (t : Nat) (a1 : Nat) (x2 : Int32) : yMet yX4_value cX4_value 9 (Option.some Jvm.ClassFile.FieldType.int) rm_X4_value K M [.ref t, .ref a1, .int x2] (b_X4_value K M t a1 x2) (yGi K) := by
  refine yM_intro (by decide) (Nat.le_of_ble_eq_true rfl) (fun X r h C E => ?_)
  replace C : yCx X cX4_value RX4 "value" rm_X4_value 9 := C
  show Y X K M 0 0 0 [(0, .ref t), (1, .ref a1), (2, .int x2)] []
  unfold b_X4_value at h
  refine y_aload_n C dX4_value_0 rfl ?_
  refine y_ifnonnull C dX4_value_1 (tgt := 6) rfl ?_
  refine y_iconst C dX4_value_6 kc_0 ?_
  refine y_istore_n C dX4_value_7 (by decide) (L' := [(3, .int (0)), (0, .ref t), (1, .ref a1), (2, .int x2)]) rfl ?_
  refine y_aload_n C dX4_value_8 rfl ?_
  refine y_iload_n C dX4_value_9 rfl ?_
  obtain ⟨g2, h⟩ := gd h
  obtain ⟨r3, hr3, h⟩ := ob h
  refine y_cV C [.int x2] (m_X3_endOf K M a1 x2) hr3 g2 cw_X4_18 rfl (by decide) ⟨rfl, rfl⟩ ⟨Nat.zero_le _, Nat.zero_le _⟩ (Nat.le_of_ble_eq_true rfl) rfl rfl rfl dX4_value_10 ?_
  refine y_istore C dX4_value_13 (by decide) (L' := [(4, .int r3), (3, .int (0)), (0, .ref t), (1, .ref a1), (2, .int x2)]) rfl ?_
  refine y_aload_n C dX4_value_15 rfl ?_
  refine y_iload_n C dX4_value_16 rfl ?_
  obtain ⟨r4, hr4, h⟩ := ob h
  refine y_cV C [.int x2] (m_X3_startOf K M a1 x2) hr4 g2 cw_X4_24 rfl (by decide) ⟨rfl, rfl⟩ ⟨Nat.zero_le _, Nat.zero_le _⟩ (Nat.le_of_ble_eq_true rfl) rfl rfl rfl dX4_value_17 ?_
  refine y_istore C dX4_value_20 (by decide) (L' := [(5, .int r4), (4, .int r3), (3, .int (0)), (0, .ref t), (1, .ref a1), (2, .int x2)]) rfl ?_
  obtain ⟨j5, hj5, h⟩ := ob h
  refine y_sel [0, 1, 3, 4, 5] rfl (l_X4_value_22 C 1000 _ _ _ _ hj5 ?_)
  refine y_iload_n C dX4_value_131 rfl ?_
  refine y_if_le C dX4_value_132 (tgt := 144) rfl (fun c6 => ?_) (fun c6 => ?_)
  · have h := itT c6 h
    refine y_iconst C dX4_value_144 kc_0 ?_
    have e0 := Option.some.inj h
    subst e0
    exact y_iret C E (Nat.zero_le _) (Nat.zero_le _) dX4_value_145
  · have h := itF c6 h
    refine y_aload_n C dX4_value_135 rfl ?_
    obtain ⟨g7, h⟩ := gd h
    obtain ⟨q8, hq8, h⟩ := ob h
    refine y_getr C fl_X4_9 g7 hq8 dX4_value_136 ?_
    refine y_iconst C dX4_value_139 kc_0 ?_
    obtain ⟨g9, h⟩ := gd h
    refine y_iald C g9 dX4_value_140 ?_
    refine y_goto C dX4_value_141 (tgt := 145) rfl ?_
    have e0 := Option.some.inj h
    subst e0
    exact y_iret C E (Nat.zero_le _) (Nat.zero_le _) dX4_value_145
set_option maxRecDepth 100000 in
def b_X2_asHabit (K : yK) (M : yM) (x1 : Int32) (z2 : Bool) (z3 : Bool) (x4 : Int32) : Option Bool := (if z2 = true then (some true) else (if z3 = true then (if x1 < x4 then (some false) else (some true)) else (some false)))
set_option maxHeartbeats 4000000 in
set_option maxRecDepth 100000 in
theorem m_X2_asHabit (K : yK) (M : yM) (x1 : Int32) (z2 : Bool) (z3 : Bool) (x4 : Int32) : yMet yX2_asHabit cX2_asHabit 4 (Option.some Jvm.ClassFile.FieldType.boolean) rm_X2_asHabit K M [.int x1, .int (bI z2), .int (bI z3), .int x4] (b_X2_asHabit K M x1 z2 z3 x4) (yFb K M) := by
  refine yM_intro (by decide) (Nat.le_of_ble_eq_true rfl) (fun X r h C E => ?_)
  replace C : yCx X cX2_asHabit RX2 "asHabit" rm_X2_asHabit 4 := C
  show Y X K M 0 0 0 [(0, .int x1), (1, .int (bI z2)), (2, .int (bI z3)), (3, .int x4)] []
  unfold b_X2_asHabit at h
  refine y_iload_n C dX2_asHabit_0 rfl ?_
  refine y_ifneB C dX2_asHabit_1 (tgt := 13) rfl (fun c1 => ?_) (fun c1 => ?_)
  · have h := itT c1 h
    refine y_iconst C dX2_asHabit_13 kc_1 ?_
    refine y_goto C dX2_asHabit_14 (tgt := 18) rfl ?_
    have e0 := Option.some.inj h
    subst e0
    exact y_bret (b := true) C E (Nat.zero_le _) (Nat.zero_le _) dX2_asHabit_18
  · have h := itFb c1 h
    refine y_iload_n C dX2_asHabit_4 rfl ?_
    refine y_ifeqB C dX2_asHabit_5 (tgt := 17) rfl (fun c2 => ?_) (fun c2 => ?_)
    · have h := itFb c2 h
      refine y_iconst C dX2_asHabit_17 kc_0 ?_
      have e0 := Option.some.inj h
      subst e0
      exact y_bret (b := false) C E (Nat.zero_le _) (Nat.zero_le _) dX2_asHabit_18
    · have h := itT c2 h
      refine y_iload_n C dX2_asHabit_8 rfl ?_
      refine y_iload_n C dX2_asHabit_9 rfl ?_
      refine y_icmp_gt C dX2_asHabit_10 (tgt := 17) rfl (fun c3 => ?_) (fun c3 => ?_)
      · have h := itT c3 h
        refine y_iconst C dX2_asHabit_17 kc_0 ?_
        have e0 := Option.some.inj h
        subst e0
        exact y_bret (b := false) C E (Nat.zero_le _) (Nat.zero_le _) dX2_asHabit_18
      · have h := itF c3 h
        refine y_iconst C dX2_asHabit_13 kc_1 ?_
        refine y_goto C dX2_asHabit_14 (tgt := 18) rfl ?_
        have e0 := Option.some.inj h
        subst e0
        exact y_bret (b := true) C E (Nat.zero_le _) (Nat.zero_le _) dX2_asHabit_18
set_option maxRecDepth 100000 in
def b_X2_holds (K : yK) (M : yM) (x1 : Int32) (x2 : Int32) (z3 : Bool) (z4 : Bool) (x5 : Int32) (x6 : Int32) : Option Bool := (Option.bind (if z3 = true then (if z4 = true then (some true) else (some false)) else (some false)) fun j2 => (if x1 = (1 : Int32) then (Option.bind (b_X2_asHabit K M x2 j2 z4 x5) fun r9 => (some r9)) else (if x1 = (2 : Int32) then (some j2) else (if x1 = (3 : Int32) then (if (x6 - x6 / (10 : Int32) * (10 : Int32)) = x2 then (some true) else (if (x6 - x6 / (10 : Int32) * (10 : Int32)) < (x2 / (2 : Int32)) then (some false) else (Option.bind (b_X2_asHabit K M x2 j2 z4 x5) fun r12 => (if r12 = true then (some true) else (some false))))) else (if x1 = (4 : Int32) then (if j2 = true then (some true) else (if x2 ≤ (4 : Int32) then (some false) else (some true))) else (if x1 = (5 : Int32) then (if j2 = true then (if (x5 - x5 / (2 : Int32) * (2 : Int32)) = (x2 - x2 / (2 : Int32) * (2 : Int32)) then (some true) else (some false)) else (some false)) else (some j2)))))))
set_option maxHeartbeats 4000000 in
set_option maxRecDepth 100000 in
theorem m_X2_holds (K : yK) (M : yM) (x1 : Int32) (x2 : Int32) (z3 : Bool) (z4 : Bool) (x5 : Int32) (x6 : Int32) : yMet yX2_holds cX2_holds 7 (Option.some Jvm.ClassFile.FieldType.boolean) rm_X2_holds K M [.int x1, .int x2, .int (bI z3), .int (bI z4), .int x5, .int x6] (b_X2_holds K M x1 x2 z3 z4 x5 x6) (yFb K M) := by
  refine yM_intro (by decide) (Nat.le_of_ble_eq_true rfl) (fun X r h C E => ?_)
  replace C : yCx X cX2_holds RX2 "holds" rm_X2_holds 7 := C
  show Y X K M 0 0 0 [(0, .int x1), (1, .int x2), (2, .int (bI z3)), (3, .int (bI z4)), (4, .int x5), (5, .int x6)] []
  unfold b_X2_holds at h
  refine y_iload_n C dX2_holds_0 rfl ?_
  obtain ⟨j2, hj2, h⟩ := ob h
  have hJj2 : Y X K M 0 0 13 [(0, .int x1), (1, .int x2), (3, .int (bI z4)), (4, .int x5), (5, .int x6)] [.int (bI j2)] := by
    refine y_istore C dX2_holds_13 (by decide) (L' := [(6, .int (bI j2)), (0, .int x1), (1, .int x2), (3, .int (bI z4)), (4, .int x5), (5, .int x6)]) rfl ?_
    refine y_iload_n C dX2_holds_15 rfl ?_
    rcases Classical.em (x1 = (1 : Int32)) with c4 | c4
    · have h := itT c4 h
      refine y_tabIn C dX2_holds_16 (off := 36) (tgt := 52) (by rw [c4]; decide) (by rw [c4]; decide) (by rw [c4]; rfl) rfl ?_
      refine y_iload_n C dX2_holds_52 rfl ?_
      refine y_iload C dX2_holds_53 rfl ?_
      refine y_iload_n C dX2_holds_55 rfl ?_
      refine y_iload C dX2_holds_56 rfl ?_
      obtain ⟨r9, hr9, h⟩ := ob h
      refine y_cS C [.int x2, .int (bI j2), .int (bI z4), .int x5] (m_X2_asHabit K M x2 j2 z4 x5) hr9 cw_X2_25 rfl (by decide) ⟨rfl, rfl⟩ ⟨Nat.zero_le _, Nat.zero_le _⟩ (Nat.le_of_ble_eq_true rfl) rfl rfl rfl dX2_holds_58 ?_
      have e0 := Option.some.inj h
      subst e0
      exact y_bret (b := r9) C E (Nat.zero_le _) (Nat.zero_le _) dX2_holds_61
    replace h := itF c4 h
    rcases Classical.em (x1 = (2 : Int32)) with c5 | c5
    · have h := itT c5 h
      refine y_tabIn C dX2_holds_16 (off := 121) (tgt := 137) (by rw [c5]; decide) (by rw [c5]; decide) (by rw [c5]; rfl) rfl ?_
      refine y_iload C dX2_holds_137 rfl ?_
      have e0 := Option.some.inj h
      subst e0
      exact y_bret (b := j2) C E (Nat.zero_le _) (Nat.zero_le _) dX2_holds_139
    replace h := itF c5 h
    rcases Classical.em (x1 = (3 : Int32)) with c6 | c6
    · have h := itT c6 h
      refine y_tabIn C dX2_holds_16 (off := 46) (tgt := 62) (by rw [c6]; decide) (by rw [c6]; decide) (by rw [c6]; rfl) rfl ?_
      refine y_iload C dX2_holds_62 rfl ?_
      refine y_bipush C dX2_holds_64 kb_10 ?_
      refine y_irem C dX2_holds_66 (by decide) ?_
      refine y_iload_n C dX2_holds_67 rfl ?_
      refine y_icmp_eq C dX2_holds_68 (tgt := 94) rfl (fun c10 => ?_) (fun c10 => ?_)
      · have h := itT c10 h
        refine y_iconst C dX2_holds_94 kc_1 ?_
        refine y_goto C dX2_holds_95 (tgt := 99) rfl ?_
        have e0 := Option.some.inj h
        subst e0
        exact y_bret (b := true) C E (Nat.zero_le _) (Nat.zero_le _) dX2_holds_99
      · have h := itF c10 h
        refine y_iload C dX2_holds_71 rfl ?_
        refine y_bipush C dX2_holds_73 kb_10 ?_
        refine y_irem C dX2_holds_75 (by decide) ?_
        refine y_iload_n C dX2_holds_76 rfl ?_
        refine y_iconst C dX2_holds_77 kc_2 ?_
        refine y_idiv C dX2_holds_78 (by decide) ?_
        refine y_icmp_lt C dX2_holds_79 (tgt := 98) rfl (fun c11 => ?_) (fun c11 => ?_)
        · have h := itT c11 h
          refine y_iconst C dX2_holds_98 kc_0 ?_
          have e0 := Option.some.inj h
          subst e0
          exact y_bret (b := false) C E (Nat.zero_le _) (Nat.zero_le _) dX2_holds_99
        · have h := itF c11 h
          refine y_iload_n C dX2_holds_82 rfl ?_
          refine y_iload C dX2_holds_83 rfl ?_
          refine y_iload_n C dX2_holds_85 rfl ?_
          refine y_iload C dX2_holds_86 rfl ?_
          obtain ⟨r12, hr12, h⟩ := ob h
          refine y_cS C [.int x2, .int (bI j2), .int (bI z4), .int x5] (m_X2_asHabit K M x2 j2 z4 x5) hr12 cw_X2_25 rfl (by decide) ⟨rfl, rfl⟩ ⟨Nat.zero_le _, Nat.zero_le _⟩ (Nat.le_of_ble_eq_true rfl) rfl rfl rfl dX2_holds_88 ?_
          refine y_ifeqB C dX2_holds_91 (tgt := 98) rfl (fun c13 => ?_) (fun c13 => ?_)
          · have h := itFb c13 h
            refine y_iconst C dX2_holds_98 kc_0 ?_
            have e0 := Option.some.inj h
            subst e0
            exact y_bret (b := false) C E (Nat.zero_le _) (Nat.zero_le _) dX2_holds_99
          · have h := itT c13 h
            refine y_iconst C dX2_holds_94 kc_1 ?_
            refine y_goto C dX2_holds_95 (tgt := 99) rfl ?_
            have e0 := Option.some.inj h
            subst e0
            exact y_bret (b := true) C E (Nat.zero_le _) (Nat.zero_le _) dX2_holds_99
    replace h := itF c6 h
    rcases Classical.em (x1 = (4 : Int32)) with c7 | c7
    · have h := itT c7 h
      refine y_tabIn C dX2_holds_16 (off := 84) (tgt := 100) (by rw [c7]; decide) (by rw [c7]; decide) (by rw [c7]; rfl) rfl ?_
      refine y_iload C dX2_holds_100 rfl ?_
      refine y_ifneB C dX2_holds_102 (tgt := 110) rfl (fun c14 => ?_) (fun c14 => ?_)
      · have h := itT c14 h
        refine y_iconst C dX2_holds_110 kc_1 ?_
        refine y_goto C dX2_holds_111 (tgt := 115) rfl ?_
        have e0 := Option.some.inj h
        subst e0
        exact y_bret (b := true) C E (Nat.zero_le _) (Nat.zero_le _) dX2_holds_115
      · have h := itFb c14 h
        refine y_iload_n C dX2_holds_105 rfl ?_
        refine y_iconst C dX2_holds_106 kc_4 ?_
        refine y_icmp_le C dX2_holds_107 (tgt := 114) rfl (fun c15 => ?_) (fun c15 => ?_)
        · have h := itT c15 h
          refine y_iconst C dX2_holds_114 kc_0 ?_
          have e0 := Option.some.inj h
          subst e0
          exact y_bret (b := false) C E (Nat.zero_le _) (Nat.zero_le _) dX2_holds_115
        · have h := itF c15 h
          refine y_iconst C dX2_holds_110 kc_1 ?_
          refine y_goto C dX2_holds_111 (tgt := 115) rfl ?_
          have e0 := Option.some.inj h
          subst e0
          exact y_bret (b := true) C E (Nat.zero_le _) (Nat.zero_le _) dX2_holds_115
    replace h := itF c7 h
    rcases Classical.em (x1 = (5 : Int32)) with c8 | c8
    · have h := itT c8 h
      refine y_tabIn C dX2_holds_16 (off := 100) (tgt := 116) (by rw [c8]; decide) (by rw [c8]; decide) (by rw [c8]; rfl) rfl ?_
      refine y_iload C dX2_holds_116 rfl ?_
      refine y_ifeqB C dX2_holds_118 (tgt := 135) rfl (fun c16 => ?_) (fun c16 => ?_)
      · have h := itFb c16 h
        refine y_iconst C dX2_holds_135 kc_0 ?_
        have e0 := Option.some.inj h
        subst e0
        exact y_bret (b := false) C E (Nat.zero_le _) (Nat.zero_le _) dX2_holds_136
      · have h := itT c16 h
        refine y_iload C dX2_holds_121 rfl ?_
        refine y_iconst C dX2_holds_123 kc_2 ?_
        refine y_irem C dX2_holds_124 (by decide) ?_
        refine y_iload_n C dX2_holds_125 rfl ?_
        refine y_iconst C dX2_holds_126 kc_2 ?_
        refine y_irem C dX2_holds_127 (by decide) ?_
        refine y_icmp_ne C dX2_holds_128 (tgt := 135) rfl (fun c17 => ?_) (fun c17 => ?_)
        · have h := itF c17 h
          refine y_iconst C dX2_holds_135 kc_0 ?_
          have e0 := Option.some.inj h
          subst e0
          exact y_bret (b := false) C E (Nat.zero_le _) (Nat.zero_le _) dX2_holds_136
        · have h := itT c17 h
          refine y_iconst C dX2_holds_131 kc_1 ?_
          refine y_goto C dX2_holds_132 (tgt := 136) rfl ?_
          have e0 := Option.some.inj h
          subst e0
          exact y_bret (b := true) C E (Nat.zero_le _) (Nat.zero_le _) dX2_holds_136
    replace h := itF c8 h
    refine y_tabOut C dX2_holds_16 (tgt := 137) (by have q0 : (x1).toInt ≠ 1 := yNe c4; have q1 : (x1).toInt ≠ 2 := yNe c5; have q2 : (x1).toInt ≠ 3 := yNe c6; have q3 : (x1).toInt ≠ 4 := yNe c7; have q4 : (x1).toInt ≠ 5 := yNe c8; omega) rfl ?_
    refine y_iload C dX2_holds_137 rfl ?_
    have e0 := Option.some.inj h
    subst e0
    exact y_bret (b := j2) C E (Nat.zero_le _) (Nat.zero_le _) dX2_holds_139
  replace h := hj2
  refine y_ifeqB C dX2_holds_1 (tgt := 12) rfl (fun c1 => ?_) (fun c1 => ?_)
  · have h := itFb c1 h
    refine y_iconst C dX2_holds_12 kc_0 ?_
    have e0 := Option.some.inj h
    subst e0
    exact y_sel [0, 1, 3, 4, 5] rfl hJj2
  · have h := itT c1 h
    refine y_iload_n C dX2_holds_4 rfl ?_
    refine y_ifeqB C dX2_holds_5 (tgt := 12) rfl (fun c3 => ?_) (fun c3 => ?_)
    · have h := itFb c3 h
      refine y_iconst C dX2_holds_12 kc_0 ?_
      have e0 := Option.some.inj h
      subst e0
      exact y_sel [0, 1, 3, 4, 5] rfl hJj2
    · have h := itT c3 h
      refine y_iconst C dX2_holds_8 kc_1 ?_
      refine y_goto C dX2_holds_9 (tgt := 13) rfl ?_
      have e0 := Option.some.inj h
      subst e0
      exact y_sel [0, 1, 3, 4, 5] rfl hJj2
set_option maxRecDepth 100000 in
def b_X5_become (K : yK) (M : yM) (t : Nat) (x1 : Int32) (x2 : Int32) : Option yM := (if gO K t 4 = true then (Option.bind (K.2.2 t 0) fun q2 => (Option.bind (b_J7_fill_53178 K M q2 ((0 : Int32))) fun r3 => (Option.bind (some (yS r3 t 1 x1)) fun M4 => (Option.bind (some (yS M4 t 2 (if (0 : Int32) < (if (40 : Int32) < x2 then (40 : Int32) else x2) then (if (40 : Int32) < x2 then (40 : Int32) else x2) else (0 : Int32)))) fun M5 => (some M5))))) else none)
set_option maxHeartbeats 4000000 in
set_option maxRecDepth 100000 in
theorem m_X5_become (K : yK) (M : yM) (t : Nat) (x1 : Int32) (x2 : Int32) : yMet yX5_become cX5_become 3 none rm_X5_become K M [.ref t, .int x1, .int x2] (b_X5_become K M t x1 x2) (yGv K) := by
  refine yM_intro (by decide) (Nat.le_of_ble_eq_true rfl) (fun X r h C E => ?_)
  replace C : yCx X cX5_become RX5 "become" rm_X5_become 3 := C
  show Y X K M 0 0 0 [(0, .ref t), (1, .int x1), (2, .int x2)] []
  unfold b_X5_become at h
  refine y_aload_n C dX5_become_0 rfl ?_
  obtain ⟨g1, h⟩ := gd h
  obtain ⟨q2, hq2, h⟩ := ob h
  refine y_getr C fl_X5_9 g1 hq2 dX5_become_1 ?_
  refine y_iconst C dX5_become_4 kc_0 ?_
  obtain ⟨r3, hr3, h⟩ := ob h
  refine y_cS C [.ref q2, .int (0 : Int32)] (m_J7_fill_53178 K M q2 ((0 : Int32))) hr3 cw_X5_19 rfl (by decide) ⟨rfl, rfl⟩ ⟨Nat.zero_le _, Nat.zero_le _⟩ (Nat.le_of_ble_eq_true rfl) rfl rfl rfl dX5_become_5 ?_
  refine y_aload_n C dX5_become_8 rfl ?_
  refine y_iload_n C dX5_become_9 rfl ?_
  obtain ⟨M4, eM4, h⟩ := ob h
  have eM4 := Option.some.inj eM4
  refine y_puti C fl_X5_15 rfl g1 rfl rfl dX5_become_10 eM4 ?_
  refine y_aload_n C dX5_become_13 rfl ?_
  refine y_iconst C dX5_become_14 kc_0 ?_
  refine y_iload_n C dX5_become_15 rfl ?_
  refine y_bipush C dX5_become_16 kb_40 ?_
  refine y_min C jm_X5_25 ⟨by decide, Nat.le_of_ble_eq_true rfl, Nat.le_of_ble_eq_true rfl, Nat.le_of_ble_eq_true rfl⟩ dX5_become_18 ?_
  refine y_max C jm_X5_31 ⟨by decide, Nat.le_of_ble_eq_true rfl, Nat.le_of_ble_eq_true rfl, Nat.le_of_ble_eq_true rfl⟩ dX5_become_21 ?_
  obtain ⟨M5, eM5, h⟩ := ob h
  have eM5 := Option.some.inj eM5
  refine y_puti C fl_X5_34 rfl g1 rfl rfl dX5_become_24 eM5 ?_
  have e0 := Option.some.inj h
  subst e0
  exact y_vret C E (Nat.zero_le _) (Nat.zero_le _) dX5_become_27
set_option maxRecDepth 100000 in
def b_X5_hasRow (K : yK) (M : yM) (t : Nat) (x1 : Int32) (x2 : Int32) : Option Bool := (if x2 < 0 then (some false) else (if x1 < 0 then (some false) else (if gO K t 4 = true then (if ((M t 2) - x2) < x1 then (some false) else (some true)) else none)))
set_option maxHeartbeats 4000000 in
set_option maxRecDepth 100000 in
theorem m_X5_hasRow (K : yK) (M : yM) (t : Nat) (x1 : Int32) (x2 : Int32) : yMet yX5_hasRow cX5_hasRow 3 (Option.some Jvm.ClassFile.FieldType.boolean) rm_X5_hasRow K M [.ref t, .int x1, .int x2] (b_X5_hasRow K M t x1 x2) (yFb K M) := by
  refine yM_intro (by decide) (Nat.le_of_ble_eq_true rfl) (fun X r h C E => ?_)
  replace C : yCx X cX5_hasRow RX5 "hasRow" rm_X5_hasRow 3 := C
  show Y X K M 0 0 0 [(0, .ref t), (1, .int x1), (2, .int x2)] []
  unfold b_X5_hasRow at h
  refine y_iload_n C dX5_hasRow_0 rfl ?_
  refine y_if_lt C dX5_hasRow_1 (tgt := 22) rfl (fun c1 => ?_) (fun c1 => ?_)
  · have h := itT c1 h
    refine y_iconst C dX5_hasRow_22 kc_0 ?_
    have e0 := Option.some.inj h
    subst e0
    exact y_bret (b := false) C E (Nat.zero_le _) (Nat.zero_le _) dX5_hasRow_23
  · have h := itF c1 h
    refine y_iload_n C dX5_hasRow_4 rfl ?_
    refine y_if_lt C dX5_hasRow_5 (tgt := 22) rfl (fun c2 => ?_) (fun c2 => ?_)
    · have h := itT c2 h
      refine y_iconst C dX5_hasRow_22 kc_0 ?_
      have e0 := Option.some.inj h
      subst e0
      exact y_bret (b := false) C E (Nat.zero_le _) (Nat.zero_le _) dX5_hasRow_23
    · have h := itF c2 h
      refine y_iload_n C dX5_hasRow_8 rfl ?_
      refine y_aload_n C dX5_hasRow_9 rfl ?_
      obtain ⟨g3, h⟩ := gd h
      refine y_geti C fl_X5_34 g3 dX5_hasRow_10 ?_
      refine y_iload_n C dX5_hasRow_13 rfl ?_
      refine y_isub C dX5_hasRow_14 ?_
      refine y_icmp_gt C dX5_hasRow_15 (tgt := 22) rfl (fun c4 => ?_) (fun c4 => ?_)
      · have h := itT c4 h
        refine y_iconst C dX5_hasRow_22 kc_0 ?_
        have e0 := Option.some.inj h
        subst e0
        exact y_bret (b := false) C E (Nat.zero_le _) (Nat.zero_le _) dX5_hasRow_23
      · have h := itF c4 h
        refine y_iconst C dX5_hasRow_18 kc_1 ?_
        refine y_goto C dX5_hasRow_19 (tgt := 23) rfl ?_
        have e0 := Option.some.inj h
        subst e0
        exact y_bret (b := true) C E (Nat.zero_le _) (Nat.zero_le _) dX5_hasRow_23
set_option maxRecDepth 100000 in
def b_X5_isMissing (K : yK) (M : yM) (t : Nat) : Option Bool := (if gO K t 4 = true then (if (M t 1) = (-1 : Int32) then (some true) else (some false)) else none)
set_option maxHeartbeats 4000000 in
set_option maxRecDepth 100000 in
theorem m_X5_isMissing (K : yK) (M : yM) (t : Nat) : yMet yX5_isMissing cX5_isMissing 1 (Option.some Jvm.ClassFile.FieldType.boolean) rm_X5_isMissing K M [.ref t] (b_X5_isMissing K M t) (yFb K M) := by
  refine yM_intro (by decide) (Nat.le_of_ble_eq_true rfl) (fun X r h C E => ?_)
  replace C : yCx X cX5_isMissing RX5 "isMissing" rm_X5_isMissing 1 := C
  show Y X K M 0 0 0 [(0, .ref t)] []
  unfold b_X5_isMissing at h
  refine y_aload_n C dX5_isMissing_0 rfl ?_
  obtain ⟨g1, h⟩ := gd h
  refine y_geti C fl_X5_15 g1 dX5_isMissing_1 ?_
  refine y_iconst C dX5_isMissing_4 kc_m1 ?_
  refine y_icmp_ne C dX5_isMissing_5 (tgt := 12) rfl (fun c2 => ?_) (fun c2 => ?_)
  · have h := itF c2 h
    refine y_iconst C dX5_isMissing_12 kc_0 ?_
    have e0 := Option.some.inj h
    subst e0
    exact y_bret (b := false) C E (Nat.zero_le _) (Nat.zero_le _) dX5_isMissing_13
  · have h := itT c2 h
    refine y_iconst C dX5_isMissing_8 kc_1 ?_
    refine y_goto C dX5_isMissing_9 (tgt := 13) rfl ?_
    have e0 := Option.some.inj h
    subst e0
    exact y_bret (b := true) C E (Nat.zero_le _) (Nat.zero_le _) dX5_isMissing_13
set_option maxRecDepth 100000 in
def b_X5_write (K : yK) (M : yM) (t : Nat) (x1 : Int32) (x2 : Int32) : Option yM := (if x1 < 0 then (some M) else (if gO K t 4 = true then (Option.bind (K.2.2 t 0) fun q3 => (if gI K q3 = true then (if (Int32.ofNat (K.2.1 q3).2) ≤ x1 then (some M) else (Option.bind (if (M t 1) = 0 then (some (x2).toInt8.toInt32) else (if (M t 1) = (1 : Int32) then (some (x2).toInt16.toInt32) else (some x2))) fun j7 => (if gA K q3 x1 = true then (Option.bind (some (yS M q3 (x1).toNatClampNeg j7)) fun M10 => (some M10)) else none))) else none)) else none))
set_option maxHeartbeats 4000000 in
set_option maxRecDepth 100000 in
theorem m_X5_write (K : yK) (M : yM) (t : Nat) (x1 : Int32) (x2 : Int32) : yMet yX5_write cX5_write 3 none rm_X5_write K M [.ref t, .int x1, .int x2] (b_X5_write K M t x1 x2) (yGv K) := by
  refine yM_intro (by decide) (Nat.le_of_ble_eq_true rfl) (fun X r h C E => ?_)
  replace C : yCx X cX5_write RX5 "write" rm_X5_write 3 := C
  show Y X K M 0 0 0 [(0, .ref t), (1, .int x1), (2, .int x2)] []
  unfold b_X5_write at h
  refine y_iload_n C dX5_write_0 rfl ?_
  refine y_if_lt C dX5_write_1 (tgt := 45) rfl (fun c1 => ?_) (fun c1 => ?_)
  · have h := itT c1 h
    have e0 := Option.some.inj h
    subst e0
    exact y_vret C E (Nat.zero_le _) (Nat.zero_le _) dX5_write_45
  · have h := itF c1 h
    refine y_iload_n C dX5_write_4 rfl ?_
    refine y_aload_n C dX5_write_5 rfl ?_
    obtain ⟨g2, h⟩ := gd h
    obtain ⟨q3, hq3, h⟩ := ob h
    refine y_getr C fl_X5_9 g2 hq3 dX5_write_6 ?_
    obtain ⟨g4, h⟩ := gd h
    refine y_alen C g4 dX5_write_9 ?_
    refine y_icmp_ge C dX5_write_10 (tgt := 45) rfl (fun c5 => ?_) (fun c5 => ?_)
    · have h := itT c5 h
      have e0 := Option.some.inj h
      subst e0
      exact y_vret C E (Nat.zero_le _) (Nat.zero_le _) dX5_write_45
    · have h := itF c5 h
      refine y_aload_n C dX5_write_13 rfl ?_
      refine y_getr C fl_X5_9 g2 hq3 dX5_write_14 ?_
      refine y_iload_n C dX5_write_17 rfl ?_
      refine y_aload_n C dX5_write_18 rfl ?_
      refine y_geti C fl_X5_15 g2 dX5_write_19 ?_
      obtain ⟨j7, hj7, h⟩ := ob h
      have hJj7 : Y X K M 0 0 44 [] [.int j7, .int x1, .ref q3] := by
        obtain ⟨g9, h⟩ := gd h
        obtain ⟨M10, eM10, h⟩ := ob h
        have eM10 := Option.some.inj eM10
        refine y_iast C g9 dX5_write_44 eM10 ?_
        have e0 := Option.some.inj h
        subst e0
        exact y_vret C E (Nat.zero_le _) (Nat.zero_le _) dX5_write_45
      replace h := hj7
      refine y_if_ne C dX5_write_22 (tgt := 30) rfl (fun c6 => ?_) (fun c6 => ?_)
      · have h := itF c6 h
        refine y_aload_n C dX5_write_30 rfl ?_
        refine y_geti C fl_X5_15 g2 dX5_write_31 ?_
        refine y_iconst C dX5_write_34 kc_1 ?_
        refine y_icmp_ne C dX5_write_35 (tgt := 43) rfl (fun c8 => ?_) (fun c8 => ?_)
        · have h := itF c8 h
          refine y_iload_n C dX5_write_43 rfl ?_
          have e0 := Option.some.inj h
          subst e0
          exact y_sel [] rfl hJj7
        · have h := itT c8 h
          refine y_iload_n C dX5_write_38 rfl ?_
          refine y_i2s C dX5_write_39 rfl ?_
          refine y_goto C dX5_write_40 (tgt := 44) rfl ?_
          have e0 := Option.some.inj h
          subst e0
          exact y_sel [] rfl hJj7
      · have h := itT c6 h
        refine y_iload_n C dX5_write_25 rfl ?_
        refine y_i2b C dX5_write_26 rfl ?_
        refine y_goto C dX5_write_27 (tgt := 44) rfl ?_
        have e0 := Option.some.inj h
        subst e0
        exact y_sel [] rfl hJj7
