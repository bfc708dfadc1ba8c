/-! TEXTS: length() and charAt() of the constants. -/
theorem sx_ok : ∀ q ∈ q_SX, (q.2.2.2.length < 8 ∧ 0 < q.2.2.2.length) ∧ ∀ b ∈ q.2.2.2, ((b &&& 255).toUInt32 % 65536).toInt32 = b ∧ narrow .char (.int b) = .int b ∧ 97 ≤ b ∧ b ≤ 122 := by decide +kernel
section TX
variable {I : Nat → Nat → Int32} {L : Nat → Nat → Int64} {j : Nat} {q : String × Nat × String × List Int32}
theorem sx_lt (hq : q_SX[j]? = some q) : j < 28 := by
  have h := (List.getElem?_eq_some_iff.mp hq).1
  exact h
theorem ct_coder (hq : q_SX[j]? = some q) : q_C kJ0_coder_7d493 [.ref (10001 + j)] I L (some (.int 0)) I L := by
  intro w l
  refine q_ctF (by decide) (Nat.le_refl 1) (Nat.le_refl _) (fun g _ K => ?_)
  have K1 := K.1
  refine g_compact K1 fl_J0_38 dJ0_coder_7d493_0 ?_
  refine g_if_eq K1 13 dJ0_coder_7d493_3 rfl (fun h => absurd h (by decide)) (fun _ => ?_)
  refine g_aload_n K1 0 dJ0_coder_7d493_6 rfl ?_
  refine g_strC K1 hq fl_J0_15 dJ0_coder_7d493_7 ?_
  refine g_goto K1 14 dJ0_coder_7d493_10 rfl ?_
  exact g_zreturn (rt := .byte) K rfl rfl dJ0_coder_7d493_14
theorem ct_isLatin1 (hq : q_SX[j]? = some q) : q_C kJ0_isLatin1_aae02 [.ref (10001 + j)] I L (some (.int 1)) I L := by
  intro w l
  refine q_ctF (by decide) (Nat.le_refl 1) (Nat.le_refl _) (fun g _ K => ?_)
  have K1 := K.1
  refine g_compact K1 fl_J0_38 dJ0_isLatin1_aae02_0 ?_
  refine g_if_eq K1 17 dJ0_isLatin1_aae02_3 rfl (fun h => absurd h (by decide)) (fun _ => ?_)
  refine g_aload_n K1 0 dJ0_isLatin1_aae02_6 rfl ?_
  refine g_strC K1 hq fl_J0_15 dJ0_isLatin1_aae02_7 ?_
  refine g_if_ne K1 17 dJ0_isLatin1_aae02_10 rfl (fun h => absurd rfl h) (fun _ => ?_)
  refine g_iconst K1 1 dJ0_isLatin1_aae02_13 rfl ?_
  refine g_goto K1 18 dJ0_isLatin1_aae02_14 rfl ?_
  exact g_zreturn (rt := .boolean) K rfl rfl dJ0_isLatin1_aae02_18
theorem ct_len (hq : q_SX[j]? = some q) : q_C kJ0_length_8abf5 [.ref (10001 + j)] I L (some (.int (nI q.2.2.2.length))) I L := by
  intro w l
  have hj := sx_lt hq
  have hm := (sx_ok q (List.mem_of_getElem? hq)).1
  refine q_ctF (by decide) (Nat.le_refl 1) (Nat.le_refl _) (fun g _ K => ?_)
  have K1 := K.1
  refine g_aload_n K1 0 dJ0_length_8abf5_0 rfl ?_
  refine g_strV K1 hq fl_J0_9 dJ0_length_8abf5_1 ?_
  refine g_strlen K1 hq dJ0_length_8abf5_4 ?_
  refine g_aload_n K1 0 dJ0_length_8abf5_5 rfl ?_
  refine h_callStr K1 (st := [.int (nI q.2.2.2.length)]) [] (ct_coder hq w (gl g)) ⟨by omega, by omega⟩ rfl ok_J0_coder_7d493 ml_J0_335 ⟨Nat.le_of_ble_eq_true rfl, Nat.le_of_ble_eq_true rfl⟩ (Nat.le_of_ble_eq_true rfl) dJ0_length_8abf5_6 ?_
  refine g_ishr K1 (a := nI q.2.2.2.length) (b := 0) dJ0_length_8abf5_9 ?_
  have e : nI q.2.2.2.length >>> ((0 : Int32) &&& 31) = nI q.2.2.2.length := by
    have := u_shr (a := q.2.2.2.length) (k := 0) (by omega) (by decide)
    rw [Nat.pow_zero, Nat.div_one] at this
    exact this
  rw [e]
  exact g_ireturn K rfl dJ0_length_8abf5_10
theorem ct_chk3 {i n : Int32} {v : Value} (hv : v = Value.null ∨ v = Value.ref 10000) (h0 : ¬ i < 0) (h1 : i < n) : q_C kJ3_checkIndex_8e157 [.int i, .int n, v] I L (some (.int i)) I L := by
  intro w l
  rcases hv with rfl | rfl
  all_goals
    refine q_ctF (by decide) (Nat.le_refl 3) (Nat.le_refl _) (fun g _ K => ?_)
    have K1 := K.1
    refine g_iload_n K1 0 dJ3_checkIndex_8e157_0 rfl ?_
    refine g_if_lt K1 9 dJ3_checkIndex_8e157_1 rfl (fun h => absurd h h0) (fun _ => ?_)
    refine g_iload_n K1 0 dJ3_checkIndex_8e157_4 rfl ?_
    refine g_iload_n K1 1 dJ3_checkIndex_8e157_5 rfl ?_
    refine g_icmp_lt K1 16 dJ3_checkIndex_8e157_6 rfl (fun _ => ?_) (fun h => absurd h1 h)
    refine g_iload_n K1 0 dJ3_checkIndex_8e157_16 rfl ?_
    exact g_ireturn K rfl dJ3_checkIndex_8e157_17
theorem ct_chk {i n : Int32} (h0 : ¬ i < 0) (h1 : i < n) : q_C kJ0_checkIndex_df160 [.int i, .int n] I L none I L := by
  intro w l
  refine q_ctF (by decide) (Nat.le_refl 2) (Nat.le_refl _) (fun g _ K => ?_)
  have K1 := K.1
  refine g_iload_n K1 0 dJ0_checkIndex_df160_0 rfl ?_
  refine g_iload_n K1 1 dJ0_checkIndex_df160_1 rfl ?_
  refine g_sioobe K1 fl_J0_1053 dJ0_checkIndex_df160_2 (fun v hv => ?_)
  refine h_callS K1 (st := []) [.int i, .int n, v] (ct_chk3 hv h0 h1 w (gl g)) ok_J3_checkIndex_8e157 ml_J0_1059 ⟨Nat.le_of_ble_eq_true rfl, Nat.le_of_ble_eq_true rfl⟩ (Nat.le_of_ble_eq_true rfl) dJ0_checkIndex_df160_5 ?_
  refine g_pop K1 (v := .int i) dJ0_checkIndex_df160_8 rfl ?_
  exact g_vreturn K rfl dJ0_checkIndex_df160_9
theorem ct_char1 (hq : q_SX[j]? = some q) {i : Nat} (hi : i < q.2.2.2.length) : q_C kJ1_charAt_3b067 [.ref (10101 + j), .int (nI i)] I L (some (.int (q.2.2.2.getD i 0))) I L := by
  intro w l
  have hj := sx_lt hq
  have hm := sx_ok q (List.mem_of_getElem? hq)
  have hb : q.2.2.2.getD i 0 ∈ q.2.2.2 := by
    rw [List.getD_eq_getElem?_getD, List.getElem?_eq_getElem hi]
    exact List.getElem_mem _
  obtain ⟨b1, b2, -, -⟩ := hm.2 _ hb
  refine q_ctF (by decide) (Nat.le_refl 2) (Nat.le_refl _) (fun g _ K => ?_)
  have K1 := K.1
  refine g_iload_n K1 1 dJ1_charAt_3b067_0 rfl ?_
  refine g_aload_n K1 0 dJ1_charAt_3b067_1 rfl ?_
  refine g_strlen K1 hq dJ1_charAt_3b067_2 ?_
  refine h_callS K1 (st := []) [.int (nI i), .int (nI q.2.2.2.length)] (ct_chk (nI_nlt (b := 0) (Nat.zero_le _) (by omega)) (nI_lt hi (by omega)) w (gl g)) ok_J0_checkIndex_df160 ml_J1_9 ⟨Nat.le_of_ble_eq_true rfl, Nat.le_of_ble_eq_true rfl⟩ (Nat.le_of_ble_eq_true rfl) dJ1_charAt_3b067_3 ?_
  refine g_aload_n K1 0 dJ1_charAt_3b067_6 rfl ?_
  refine g_iload_n K1 1 dJ1_charAt_3b067_7 rfl ?_
  refine g_strb K1 hq (u_in hi (by omega)) dJ1_charAt_3b067_8 ?_
  rw [u_cl (n := i) (by omega)]
  refine g_sipush K1 255 dJ1_charAt_3b067_9 rfl ?_
  refine g_iand K1 dJ1_charAt_3b067_12 ?_
  refine g_i2c K1 dJ1_charAt_3b067_13 ?_
  rw [b1]
  exact g_zreturn (rt := .char) K rfl b2 dJ1_charAt_3b067_14
theorem ct_char (hq : q_SX[j]? = some q) {i : Nat} (hi : i < q.2.2.2.length) : q_C kJ0_charAt_5068e [.ref (10001 + j), .int (nI i)] I L (some (.int (q.2.2.2.getD i 0))) I L := by
  intro w l
  have hj := sx_lt hq
  have hm := sx_ok q (List.mem_of_getElem? hq)
  have hb : q.2.2.2.getD i 0 ∈ q.2.2.2 := by
    rw [List.getD_eq_getElem?_getD, List.getElem?_eq_getElem hi]
    exact List.getElem_mem _
  obtain ⟨-, b2, -, -⟩ := hm.2 _ hb
  refine q_ctF (by decide) (Nat.le_refl 2) (Nat.le_refl _) (fun g _ K => ?_)
  have K1 := K.1
  refine g_aload_n K1 0 dJ0_charAt_5068e_0 rfl ?_
  refine h_callStr K1 (st := []) [] (ct_isLatin1 hq w (gl g)) ⟨by omega, by omega⟩ rfl ok_J0_isLatin1_aae02 ml_J0_492 ⟨Nat.le_of_ble_eq_true rfl, Nat.le_of_ble_eq_true rfl⟩ (Nat.le_of_ble_eq_true rfl) dJ0_charAt_5068e_1 ?_
  refine g_if_eq K1 (a := 1) 16 dJ0_charAt_5068e_4 rfl (fun h => absurd h (by decide)) (fun _ => ?_)
  refine g_aload_n K1 0 dJ0_charAt_5068e_7 rfl ?_
  refine g_strV K1 hq fl_J0_9 dJ0_charAt_5068e_8 ?_
  refine g_iload_n K1 1 dJ0_charAt_5068e_11 rfl ?_
  refine h_callS K1 (st := []) [.ref (10101 + j), .int (nI i)] (ct_char1 hq hi w (gl g)) ok_J1_charAt_3b067 ml_J0_495 ⟨Nat.le_of_ble_eq_true rfl, Nat.le_of_ble_eq_true rfl⟩ (Nat.le_of_ble_eq_true rfl) dJ0_charAt_5068e_12 ?_
  exact g_zreturn (rt := .char) K rfl b2 dJ0_charAt_5068e_15
end TX
