set_option maxRecDepth 100000 in
def b_X1_readPart (K : yK) (M : yM) (t : Nat) (x1 : Int32) : Option yM := (if gO K t 1 = true then (Option.bind (b_X1_expect K M t (((256 : Int32) + x1))) fun r2 => (Option.bind (b_X1_readOr K r2 t) fun r3 => (Option.bind (b_X1_expect K r3 t ((59 : Int32))) fun r4 => (some r4)))) else none)
set_option maxHeartbeats 4000000 in
set_option maxRecDepth 100000 in
theorem m_X1_readPart (K : yK) (M : yM) (t : Nat) (x1 : Int32) : yMet yX1_readPart cX1_readPart 2 none rm_X1_readPart K M [.ref t, .int x1] (b_X1_readPart K M t x1) (yGv K) := by
  refine yM_intro (by decide) (Nat.le_of_ble_eq_true rfl) (fun X r h C E => ?_)
  replace C : yCx X cX1_readPart RX1 "readPart" rm_X1_readPart 2 := C
  show Y X K M 0 0 0 [(0, .ref t), (1, .int x1)] []
  unfold b_X1_readPart at h
  refine y_aload_n C dX1_readPart_0 rfl ?_
  refine y_sipush C dX1_readPart_1 ks_256 ?_
  refine y_iload_n C dX1_readPart_4 rfl ?_
  refine y_iadd C dX1_readPart_5 ?_
  obtain ⟨g1, h⟩ := gd h
  obtain ⟨r2, hr2, h⟩ := ob h
  refine y_cV C [.int ((256 : Int32) + x1)] (m_X1_expect K M t (((256 : Int32) + x1))) hr2 g1 cw_X1_70 rfl (by decide) ⟨rfl, rfl⟩ ⟨Nat.zero_le _, Nat.zero_le _⟩ (Nat.le_of_ble_eq_true rfl) rfl rfl rfl dX1_readPart_6 ?_
  refine y_aload_n C dX1_readPart_9 rfl ?_
  obtain ⟨r3, hr3, h⟩ := ob h
  refine y_cV C [] (m_X1_readOr K r2 t) hr3 g1 cw_X1_73 rfl (by decide) ⟨rfl, rfl⟩ ⟨Nat.zero_le _, Nat.zero_le _⟩ (Nat.le_of_ble_eq_true rfl) rfl rfl rfl dX1_readPart_10 ?_
  refine y_aload_n C dX1_readPart_13 rfl ?_
  refine y_bipush C dX1_readPart_14 kb_59 ?_
  obtain ⟨r4, hr4, h⟩ := ob h
  refine y_cV C [.int (59 : Int32)] (m_X1_expect K r3 t ((59 : Int32))) hr4 g1 cw_X1_70 rfl (by decide) ⟨rfl, rfl⟩ ⟨Nat.zero_le _, Nat.zero_le _⟩ (Nat.le_of_ble_eq_true rfl) rfl rfl rfl dX1_readPart_16 ?_
  have e0 := Option.some.inj h
  subst e0
  exact y_vret C E (Nat.zero_le _) (Nat.zero_le _) dX1_readPart_19
