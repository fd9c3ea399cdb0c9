/-! the JDK's String on the texts of the class file -/
def b_J3_checkIndex_8e157 (x1 x2 : Int32) : Option Int32 := if x1 < 0 then none else if x1 < x2 then some x1 else none
theorem m_J3_checkIndex_8e157 (K : yK) (M : yM) (x1 x2 : Int32) (v : Value) (hv : v = .null ∨ v = .ref 1000200) : yMet yJ3_checkIndex_8e157 cJ3_checkIndex_8e157 3 (some .int) rm_J3_checkIndex_8e157 K M [.int x1, .int x2, v] (b_J3_checkIndex_8e157 x1 x2) (yFi K M) := by
  refine yM_intro (by decide) (by rcases hv with rfl | rfl <;> exact Nat.le_of_ble_eq_true rfl) (fun X r h C E => ?_)
  replace C : yCx X cJ3_checkIndex_8e157 RJ3 "checkIndex" rm_J3_checkIndex_8e157 3 := C
  show Y X K M 0 0 0 [(0, .int x1), (1, .int x2), (2, v)] []
  unfold b_J3_checkIndex_8e157 at h
  refine y_iload_n C dJ3_checkIndex_8e157_0 rfl ?_
  refine y_if_lt C dJ3_checkIndex_8e157_1 (tgt := 9) rfl (fun c => ?_) (fun c => ?_)
  · have h := itT c h
    cases h
  · have h := itF c h
    refine y_iload_n C dJ3_checkIndex_8e157_4 rfl ?_
    refine y_iload_n C dJ3_checkIndex_8e157_5 rfl ?_
    refine y_icmp_lt C dJ3_checkIndex_8e157_6 (tgt := 16) rfl (fun c => ?_) (fun c => ?_)
    · have h := itT c h
      refine y_iload_n C dJ3_checkIndex_8e157_16 rfl ?_
      have e0 := Option.some.inj h
      subst e0
      exact y_iret C E (Nat.zero_le _) (Nat.zero_le _) dJ3_checkIndex_8e157_17
    · have h := itF c h
      cases h
def b_J0_checkIndex_df160 (x1 x2 : Int32) : Option Unit := if x1 < 0 then none else if x1 < x2 then some () else none
theorem m_J0_checkIndex_df160 (K : yK) (M : yM) (x1 x2 : Int32) : yMet yJ0_checkIndex_df160 cJ0_checkIndex_df160 2 none rm_J0_checkIndex_df160 K M [.int x1, .int x2] (b_J0_checkIndex_df160 x1 x2) (yFv K M) := by
  refine yM_intro (by decide) (Nat.le_of_ble_eq_true rfl) (fun X r h C E => ?_)
  replace C : yCx X cJ0_checkIndex_df160 RJ0 "checkIndex" rm_J0_checkIndex_df160 2 := C
  show Y X K M 0 0 0 [(0, .int x1), (1, .int x2)] []
  have hb : b_J3_checkIndex_8e157 x1 x2 = some x1 := by
    unfold b_J0_checkIndex_df160 at h
    unfold b_J3_checkIndex_8e157
    by_cases c : x1 < 0
    · rw [if_pos c] at h; cases h
    · rw [if_neg c] at h ⊢
      by_cases d : x1 < x2
      · rw [if_pos d]
      · rw [if_neg d] at h; cases h
  refine y_iload_n C dJ0_checkIndex_df160_0 rfl ?_
  refine y_iload_n C dJ0_checkIndex_df160_1 rfl ?_
  refine y_getFm C wd_351 dJ0_checkIndex_df160_2 ?_ ?_
  · refine y_cS C [.int x1, .int x2, .null] (m_J3_checkIndex_8e157 K M x1 x2 .null (Or.inl rfl)) hb cw_J0_1059 rfl (by decide) ⟨rfl, rfl⟩ ⟨Nat.zero_le _, Nat.zero_le _⟩ (Nat.le_of_ble_eq_true rfl) rfl rfl rfl dJ0_checkIndex_df160_5 ?_
    refine y_pop C dJ0_checkIndex_df160_8 rfl ?_
    exact y_vret C E (Nat.zero_le _) (Nat.zero_le _) dJ0_checkIndex_df160_9
  · refine y_cS C [.int x1, .int x2, .ref 1000200] (m_J3_checkIndex_8e157 K M x1 x2 (.ref 1000200) (Or.inr rfl)) hb cw_J0_1059 rfl (by decide) ⟨rfl, rfl⟩ ⟨Nat.zero_le _, Nat.zero_le _⟩ (Nat.le_of_ble_eq_true rfl) rfl rfl rfl dJ0_checkIndex_df160_5 ?_
    refine y_pop C dJ0_checkIndex_df160_8 rfl ?_
    exact y_vret C E (Nat.zero_le _) (Nat.zero_le _) dJ0_checkIndex_df160_9
theorem m_J0_coder_7d493 (K : yK) (M : yM) {i : Nat} (hi : i < 12) : yMet yJ0_coder_7d493 cJ0_coder_7d493 1 (some .byte) rm_J0_coder_7d493 K M [.ref (1000001 + i)] (some (0 : Int32)) (yFi K M) := by
  refine yM_intro (by decide) (Nat.le_of_ble_eq_true rfl) (fun X r h C E => ?_)
  replace C : yCx X cJ0_coder_7d493 RJ0 "coder" rm_J0_coder_7d493 1 := C
  show Y X K M 0 0 0 [(0, .ref (1000001 + i))] []
  have e0 := Option.some.inj h
  subst e0
  refine y_getCS C wd_335 dJ0_coder_7d493_0 ?_
  refine y_if_eq C dJ0_coder_7d493_3 (tgt := 13) rfl (fun c => absurd c (by decide)) (fun _ => ?_)
  refine y_aload_n C dJ0_coder_7d493_6 rfl ?_
  refine y_strC C hi wd_1326 dJ0_coder_7d493_7 ?_
  refine y_goto C dJ0_coder_7d493_10 (tgt := 14) rfl ?_
  exact y_zret C E rfl (Nat.zero_le _) (Nat.zero_le _) dJ0_coder_7d493_14
theorem m_J0_isLatin1_aae02 (K : yK) (M : yM) {i : Nat} (hi : i < 12) : yMet yJ0_isLatin1_aae02 cJ0_isLatin1_aae02 1 (some .boolean) rm_J0_isLatin1_aae02 K M [.ref (1000001 + i)] (some true) (yFb K M) := by
  refine yM_intro (by decide) (Nat.le_of_ble_eq_true rfl) (fun X r h C E => ?_)
  replace C : yCx X cJ0_isLatin1_aae02 RJ0 "isLatin1" rm_J0_isLatin1_aae02 1 := C
  show Y X K M 0 0 0 [(0, .ref (1000001 + i))] []
  have e0 := Option.some.inj h
  subst e0
  refine y_getCS C wd_335 dJ0_isLatin1_aae02_0 ?_
  refine y_if_eq C dJ0_isLatin1_aae02_3 (tgt := 17) rfl (fun c => absurd c (by decide)) (fun _ => ?_)
  refine y_aload_n C dJ0_isLatin1_aae02_6 rfl ?_
  refine y_strC C hi wd_1326 dJ0_isLatin1_aae02_7 ?_
  refine y_if_ne C dJ0_isLatin1_aae02_10 (tgt := 17) rfl (fun c => absurd rfl c) (fun _ => ?_)
  refine y_iconst C dJ0_isLatin1_aae02_13 kc_1 ?_
  refine y_goto C dJ0_isLatin1_aae02_14 (tgt := 18) rfl ?_
  exact y_bret (b := true) C E (Nat.zero_le _) (Nat.zero_le _) dJ0_isLatin1_aae02_18
/-- the char at k of text i -/
def yCh (i k : Nat) : Int32 := (yTx.getD i []).getD k 0
theorem yCh_ok : ∀ i, i < 12 → ∀ k, k < yTl.getD i 0 → (((yTx.getD i []).getD k 0 &&& 255).toUInt32 % 65536).toInt32 = yCh i k ∧ narrow .char (.int (yCh i k)) = .int (yCh i k) := by decide +kernel
theorem yTl_lt : ∀ i, i < 12 → yTl.getD i 0 < 16 := by decide +kernel
theorem m_J1_charAt_3b067 (K : yK) (M : yM) {i j : Nat} (hi : i < 12) (hj : j < yTl.getD i 0) : yMet yJ1_charAt_3b067 cJ1_charAt_3b067 2 (some .char) rm_J1_charAt_3b067 K M [.ref (1000101 + i), .int (nI j)] (some (yCh i j)) (yFi K M) := by
  refine yM_intro (by decide) (Nat.le_of_ble_eq_true rfl) (fun X r h C E => ?_)
  replace C : yCx X cJ1_charAt_3b067 RJ1 "charAt" rm_J1_charAt_3b067 2 := C
  show Y X K M 0 0 0 [(0, .ref (1000101 + i)), (1, .int (nI j))] []
  have e0 := Option.some.inj h
  subst e0
  have hl := yTl_lt i hi
  have hb : b_J0_checkIndex_df160 (nI j) (nI (yTl.getD i 0)) = some () := by
    unfold b_J0_checkIndex_df160
    rw [if_neg (nI_pos (by omega)), if_pos (nI_lt hj (by omega))]
  have ec : (nI j).toNatClampNeg = j := nI_clamp (by omega)
  refine y_iload_n C dJ1_charAt_3b067_0 rfl ?_
  refine y_aload_n C dJ1_charAt_3b067_1 rfl ?_
  refine y_blen C hi dJ1_charAt_3b067_2 ?_
  refine y_cS C [.int (nI j), .int (nI (yTl.getD i 0))] (m_J0_checkIndex_df160 K M _ _) hb cw_J1_9 rfl (by decide) ⟨rfl, rfl⟩ ⟨Nat.zero_le _, Nat.zero_le _⟩ (Nat.le_of_ble_eq_true rfl) rfl rfl rfl dJ1_charAt_3b067_3 ?_
  refine y_aload_n C dJ1_charAt_3b067_6 rfl ?_
  refine y_iload_n C dJ1_charAt_3b067_7 rfl ?_
  refine y_bald C hi (vp_in_nI hj (by omega)) dJ1_charAt_3b067_8 ?_
  refine y_sipush C dJ1_charAt_3b067_9 ks_255 ?_
  refine y_iand C dJ1_charAt_3b067_12 ?_
  refine y_i2c C (v := yCh i j) (by rw [ec]; exact (yCh_ok i hi j hj).1) dJ1_charAt_3b067_13 ?_
  exact y_zret C E (yCh_ok i hi j hj).2 (Nat.zero_le _) (Nat.zero_le _) dJ1_charAt_3b067_14
def b_J0_length_8abf5 (_ : yK) (_ : yM) (p : Nat) : Option Int32 := if 1000001 ≤ p ∧ p < 1000013 then some (nI (yTl.getD (p - 1000001) 0)) else none
theorem y_shr0 : ∀ i, i < 12 → nI (yTl.getD i 0) >>> ((0 : Int32) &&& 31) = nI (yTl.getD i 0) := by decide +kernel
theorem m_J0_length_8abf5 (K : yK) (M : yM) (p : Nat) : yMet yJ0_length_8abf5 cJ0_length_8abf5 1 (some .int) rm_J0_length_8abf5 K M [.ref p] (b_J0_length_8abf5 K M p) (yFi K M) := by
  refine yM_intro (by decide) (Nat.le_of_ble_eq_true rfl) (fun X r h C E => ?_)
  replace C : yCx X cJ0_length_8abf5 RJ0 "length" rm_J0_length_8abf5 1 := C
  show Y X K M 0 0 0 [(0, .ref p)] []
  obtain ⟨g, h⟩ := gp h
  obtain ⟨i, hi, rfl⟩ : ∃ i, i < 12 ∧ p = 1000001 + i := ⟨p - 1000001, by omega, by omega⟩
  have e0 := Option.some.inj h
  rw [show 1000001 + i - 1000001 = i by omega] at e0
  subst e0
  refine y_aload_n C dJ0_length_8abf5_0 rfl ?_
  refine y_strV C hi wd_1325 dJ0_length_8abf5_1 ?_
  refine y_blen C hi dJ0_length_8abf5_4 ?_
  refine y_aload_n C dJ0_length_8abf5_5 rfl ?_
  refine y_cStr C [] (m_J0_coder_7d493 K M hi) rfl g cw_J0_335 rfl (by decide) ⟨rfl, rfl⟩ ⟨Nat.zero_le _, Nat.zero_le _⟩ (Nat.le_of_ble_eq_true rfl) rfl rfl rfl dJ0_length_8abf5_6 ?_
  refine y_ishr C dJ0_length_8abf5_9 ?_
  rw [y_shr0 i hi]
  exact y_iret C E (Nat.zero_le _) (Nat.zero_le _) dJ0_length_8abf5_10
def b_J0_charAt_5068e (_ : yK) (_ : yM) (p : Nat) (x : Int32) : Option Int32 := if 1000001 ≤ p ∧ p < 1000013 then (if ¬ x < 0 ∧ x.toNatClampNeg < yTl.getD (p - 1000001) 0 then some (yCh (p - 1000001) x.toNatClampNeg) else none) else none
theorem m_J0_charAt_5068e (K : yK) (M : yM) (p : Nat) (x : Int32) : yMet yJ0_charAt_5068e cJ0_charAt_5068e 2 (some .char) rm_J0_charAt_5068e K M [.ref p, .int x] (b_J0_charAt_5068e K M p x) (yFi K M) := by
  refine yM_intro (by decide) (Nat.le_of_ble_eq_true rfl) (fun X r h C E => ?_)
  replace C : yCx X cJ0_charAt_5068e RJ0 "charAt" rm_J0_charAt_5068e 2 := C
  show Y X K M 0 0 0 [(0, .ref p), (1, .int x)] []
  obtain ⟨g, h⟩ := gp h
  obtain ⟨i, hi, rfl⟩ : ∃ i, i < 12 ∧ p = 1000001 + i := ⟨p - 1000001, by omega, by omega⟩
  rw [show 1000001 + i - 1000001 = i by omega] at h
  obtain ⟨⟨g1, g2⟩, h⟩ := gp h
  obtain ⟨j, hj, rfl⟩ := nI_of g1
  rw [nI_clamp hj] at g2 h
  have e0 := Option.some.inj h
  subst e0
  refine y_aload_n C dJ0_charAt_5068e_0 rfl ?_
  refine y_cStr C [] (m_J0_isLatin1_aae02 K M hi) rfl g cw_J0_492 rfl (by decide) ⟨rfl, rfl⟩ ⟨Nat.zero_le _, Nat.zero_le _⟩ (Nat.le_of_ble_eq_true rfl) rfl rfl rfl dJ0_charAt_5068e_1 ?_
  refine y_ifeqB C dJ0_charAt_5068e_4 (tgt := 16) rfl (fun c => by cases c) (fun _ => ?_)
  refine y_aload_n C dJ0_charAt_5068e_7 rfl ?_
  refine y_strV C hi wd_1325 dJ0_charAt_5068e_8 ?_
  refine y_iload_n C dJ0_charAt_5068e_11 rfl ?_
  refine y_cS C [.ref (1000101 + i), .int (nI j)] (m_J1_charAt_3b067 K M hi g2) rfl cw_J0_495 rfl (by decide) ⟨rfl, rfl⟩ ⟨Nat.zero_le _, Nat.zero_le _⟩ (Nat.le_of_ble_eq_true rfl) rfl rfl rfl dJ0_charAt_5068e_12 ?_
  exact y_zret C E (yCh_ok i hi j g2).2 (Nat.zero_le _) (Nat.zero_le _) dJ0_charAt_5068e_15

