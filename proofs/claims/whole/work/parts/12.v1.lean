abbrev v_J6_bitCount_0f7a4_0 (r : Option Value) (I' : Nat → Nat → Int32) (L' : Nat → Nat → Int64) (I : Nat → Nat → Int32) (L : Nat → Nat → Int64) (x0 : Int32) : Prop := q_W kJ6_bitCount_0f7a4 0 [(0, .int x0)] [] I L r I' L'
set_option maxRecDepth 20000 in
set_option maxHeartbeats 2000000 in
theorem vc_J6_bitCount_0f7a4_0 {r : Option Value} {I' : Nat → Nat → Int32} {L' : Nat → Nat → Int64} {I : Nat → Nat → Int32} {L : Nat → Nat → Int64} {x0 : Int32} (h : ∀ z1 : Int32, z1 = (x0 - ((x0.toUInt32 >>> ((1 : Int32).toUInt32 &&& Int32.toUInt32 31)).toInt32 &&& 1431655765)) → ∀ z2 : Int32, z2 = ((z1 &&& 858993459) + ((z1.toUInt32 >>> ((2 : Int32).toUInt32 &&& Int32.toUInt32 31)).toInt32 &&& 858993459)) → ∀ z3 : Int32, z3 = ((z2 + (z2.toUInt32 >>> ((4 : Int32).toUInt32 &&& Int32.toUInt32 31)).toInt32) &&& 252645135) → ∀ z4 : Int32, z4 = (z3 + (z3.toUInt32 >>> ((8 : Int32).toUInt32 &&& Int32.toUInt32 31)).toInt32) → ∀ z5 : Int32, z5 = (z4 + (z4.toUInt32 >>> ((16 : Int32).toUInt32 &&& Int32.toUInt32 31)).toInt32) → (r = some (.int (z5 &&& 63)) ∧ I' = I ∧ L' = L)) : v_J6_bitCount_0f7a4_0 r I' L' I L x0 := by
  intro w g K
  have K1 := K.1
  refine g_iload_n K1 0 dJ6_bitCount_0f7a4_0 rfl ?_
  refine g_iload_n K1 0 dJ6_bitCount_0f7a4_1 rfl ?_
  refine g_iconst K1 1 dJ6_bitCount_0f7a4_2 rfl ?_
  refine g_iushr K1 dJ6_bitCount_0f7a4_3 ?_
  refine g_ldc_w K1 1431655765 dJ6_bitCount_0f7a4_4 cn_J6_265 ?_
  refine g_iand K1 dJ6_bitCount_0f7a4_7 ?_
  refine g_isub K1 dJ6_bitCount_0f7a4_8 ?_
  refine g_nameI (fun z1 hz1 => ?_)
  replace h := h z1 hz1
  refine g_istore_n K1 dJ6_bitCount_0f7a4_9 rfl (by decide) rfl ?_
  refine g_iload_n K1 0 dJ6_bitCount_0f7a4_10 rfl ?_
  refine g_ldc_w K1 858993459 dJ6_bitCount_0f7a4_11 cn_J6_266 ?_
  refine g_iand K1 dJ6_bitCount_0f7a4_14 ?_
  refine g_iload_n K1 0 dJ6_bitCount_0f7a4_15 rfl ?_
  refine g_iconst K1 2 dJ6_bitCount_0f7a4_16 rfl ?_
  refine g_iushr K1 dJ6_bitCount_0f7a4_17 ?_
  refine g_ldc_w K1 858993459 dJ6_bitCount_0f7a4_18 cn_J6_266 ?_
  refine g_iand K1 dJ6_bitCount_0f7a4_21 ?_
  refine g_iadd K1 dJ6_bitCount_0f7a4_22 ?_
  refine g_nameI (fun z2 hz2 => ?_)
  replace h := h z2 hz2
  refine g_istore_n K1 dJ6_bitCount_0f7a4_23 rfl (by decide) rfl ?_
  refine g_iload_n K1 0 dJ6_bitCount_0f7a4_24 rfl ?_
  refine g_iload_n K1 0 dJ6_bitCount_0f7a4_25 rfl ?_
  refine g_iconst K1 4 dJ6_bitCount_0f7a4_26 rfl ?_
  refine g_iushr K1 dJ6_bitCount_0f7a4_27 ?_
  refine g_iadd K1 dJ6_bitCount_0f7a4_28 ?_
  refine g_ldc_w K1 252645135 dJ6_bitCount_0f7a4_29 cn_J6_267 ?_
  refine g_iand K1 dJ6_bitCount_0f7a4_32 ?_
  refine g_nameI (fun z3 hz3 => ?_)
  replace h := h z3 hz3
  refine g_istore_n K1 dJ6_bitCount_0f7a4_33 rfl (by decide) rfl ?_
  refine g_iload_n K1 0 dJ6_bitCount_0f7a4_34 rfl ?_
  refine g_iload_n K1 0 dJ6_bitCount_0f7a4_35 rfl ?_
  refine g_bipush K1 8 dJ6_bitCount_0f7a4_36 rfl ?_
  refine g_iushr K1 dJ6_bitCount_0f7a4_38 ?_
  refine g_iadd K1 dJ6_bitCount_0f7a4_39 ?_
  refine g_nameI (fun z4 hz4 => ?_)
  replace h := h z4 hz4
  refine g_istore_n K1 dJ6_bitCount_0f7a4_40 rfl (by decide) rfl ?_
  refine g_iload_n K1 0 dJ6_bitCount_0f7a4_41 rfl ?_
  refine g_iload_n K1 0 dJ6_bitCount_0f7a4_42 rfl ?_
  refine g_bipush K1 16 dJ6_bitCount_0f7a4_43 rfl ?_
  refine g_iushr K1 dJ6_bitCount_0f7a4_45 ?_
  refine g_iadd K1 dJ6_bitCount_0f7a4_46 ?_
  refine g_nameI (fun z5 hz5 => ?_)
  replace h := h z5 hz5
  refine g_istore_n K1 dJ6_bitCount_0f7a4_47 rfl (by decide) rfl ?_
  refine g_iload_n K1 0 dJ6_bitCount_0f7a4_48 rfl ?_
  refine g_bipush K1 63 dJ6_bitCount_0f7a4_49 rfl ?_
  refine g_iand K1 dJ6_bitCount_0f7a4_51 ?_
  obtain ⟨hr, hI, hL⟩ := h
  subst hr hI hL
  exact g_ireturn K rfl dJ6_bitCount_0f7a4_52
theorem c0_J6_bitCount_0f7a4 {r : Option Value} {I I' : Nat → Nat → Int32} {L L' : Nat → Nat → Int64} {x0 : Int32} (h : v_J6_bitCount_0f7a4_0 r I' L' I L x0) : q_C kJ6_bitCount_0f7a4 [.int x0] I L r I' L' := fun w l => q_ct (by decide) (Nat.le_of_ble_eq_true rfl) (Nat.le_refl _) (fun g _ K => h w g K)
abbrev v_X0_add_0 (r : Option Value) (I' : Nat → Nat → Int32) (L' : Nat → Nat → Int64) (I : Nat → Nat → Int32) (L : Nat → Nat → Int64) (x1 : Int32) (x2 : Int32) (x3 : Int32) : Prop := q_W kX0_add 0 [(0, .ref 21), (1, .int x1), (2, .int x2), (3, .int x3)] [] I L r I' L'
set_option maxRecDepth 20000 in
set_option maxHeartbeats 2000000 in
theorem vc_X0_add_0 {r : Option Value} {I' : Nat → Nat → Int32} {L' : Nat → Nat → Int64} {I : Nat → Nat → Int32} {L : Nat → Nat → Int64} {x1 : Int32} {x2 : Int32} {x3 : Int32} (h : (vp_in (I 21 0) 30 ∧ (vp_in ((up2 I 22 ((I 21 0) : Int32).toNatClampNeg x1) 21 0) 30 ∧ ∀ I1, I1 = (up2 (up2 I 22 ((I 21 0) : Int32).toNatClampNeg x1) 23 (((up2 I 22 ((I 21 0) : Int32).toNatClampNeg x1) 21 0) : Int32).toNatClampNeg x2) → (vp_in (I1 21 0) 30 ∧ ∀ I2, I2 = (up2 (up2 I1 24 ((I1 21 0) : Int32).toNatClampNeg x3) 21 0 (((up2 I1 24 ((I1 21 0) : Int32).toNatClampNeg x3) 21 0) + 1)) → (r = none ∧ I' = I2 ∧ L' = L))))) : v_X0_add_0 r I' L' I L x1 x2 x3 := by
  intro w g K
  have K1 := K.1
  refine g_aload_n K1 0 dX0_add_0 rfl ?_
  refine h_getO K1 q_clX0 1 22 lyp_21 fkX0_1 rfl fl_X0_9 dX0_add_1 ?_
  refine g_aload_n K1 0 dX0_add_4 rfl ?_
  refine h_getI K1 q_clX0 0 lyp_21 fkX0_0 fl_X0_19 dX0_add_5 ?_
  refine g_iload_n K1 1 dX0_add_8 rfl ?_
  obtain ⟨hg, h⟩ := h
  refine h_iastore K1 lyp_22 hg dX0_add_9 ?_
  refine g_aload_n K1 0 dX0_add_10 rfl ?_
  refine h_getO K1 q_clX0 2 23 lyp_21 fkX0_2 rfl fl_X0_13 dX0_add_11 ?_
  refine g_aload_n K1 0 dX0_add_14 rfl ?_
  refine h_getI K1 q_clX0 0 lyp_21 fkX0_0 fl_X0_19 dX0_add_15 ?_
  refine g_iload_n K1 2 dX0_add_18 rfl ?_
  obtain ⟨hg, h⟩ := h
  refine h_iastore K1 lyp_23 hg dX0_add_19 ?_
  refine g_nameMI (fun I1 hI1 => ?_)
  replace h := h I1 hI1
  refine g_aload_n K1 0 dX0_add_20 rfl ?_
  refine h_getO K1 q_clX0 3 24 lyp_21 fkX0_3 rfl fl_X0_16 dX0_add_21 ?_
  refine g_aload_n K1 0 dX0_add_24 rfl ?_
  refine h_getI K1 q_clX0 0 lyp_21 fkX0_0 fl_X0_19 dX0_add_25 ?_
  refine g_iload_n K1 3 dX0_add_28 rfl ?_
  obtain ⟨hg, h⟩ := h
  refine h_iastore K1 lyp_24 hg dX0_add_29 ?_
  refine g_aload_n K1 0 dX0_add_30 rfl ?_
  refine g_dup K1 dX0_add_31 rfl ?_
  refine h_getI K1 q_clX0 0 lyp_21 fkX0_0 fl_X0_19 dX0_add_32 ?_
  refine g_iconst K1 1 dX0_add_35 rfl ?_
  refine g_iadd K1 dX0_add_36 ?_
  refine h_putI K1 q_clX0 0 lyp_21 fkX0_0 fl_X0_19 rfl rfl rfl dX0_add_37 ?_
  refine g_nameMI (fun I2 hI2 => ?_)
  replace h := h I2 hI2
  obtain ⟨hr, hI, hL⟩ := h
  subst hr hI hL
  exact g_vreturn K rfl dX0_add_40
theorem c0_X0_add {r : Option Value} {I I' : Nat → Nat → Int32} {L L' : Nat → Nat → Int64} {x1 : Int32} {x2 : Int32} {x3 : Int32} (h : v_X0_add_0 r I' L' I L x1 x2 x3) : q_C kX0_add [.ref 21, .int x1, .int x2, .int x3] I L r I' L' := fun w l => q_ct (by decide) (Nat.le_of_ble_eq_true rfl) (Nat.le_refl _) (fun g _ K => h w g K)
abbrev v_X0_take_21_45_0 (r : Option Value) (I' : Nat → Nat → Int32) (L' : Nat → Nat → Int64) (I : Nat → Nat → Int32) (L : Nat → Nat → Int64)  : Prop := q_W kX0_take 0 [(0, .ref 21), (1, .ref 45)] [] I L r I' L'
set_option maxRecDepth 20000 in
set_option maxHeartbeats 2000000 in
theorem vc_X0_take_21_45_0 {r : Option Value} {I' : Nat → Nat → Int32} {L' : Nat → Nat → Int64} {I : Nat → Nat → Int32} {L : Nat → Nat → Int64}  (h : ((¬ (0 : Int32) < 0 ∧ ¬ (0 : Int32) < 0 ∧ ¬ (30 : Int32) < 0 ∧ (0 : Int32).toNatClampNeg + (30 : Int32).toNatClampNeg ≤ 30 ∧ (0 : Int32).toNatClampNeg + (30 : Int32).toNatClampNeg ≤ 30) ∧ ∀ I1, I1 = (upr (up2 I 21 0 (I 45 0)) 22 (va_cpy ((up2 I 21 0 (I 45 0)) 46) ((up2 I 21 0 (I 45 0)) 22) (0 : Int32).toNatClampNeg (0 : Int32).toNatClampNeg (30 : Int32).toNatClampNeg)) → ((¬ (0 : Int32) < 0 ∧ ¬ (0 : Int32) < 0 ∧ ¬ (30 : Int32) < 0 ∧ (0 : Int32).toNatClampNeg + (30 : Int32).toNatClampNeg ≤ 30 ∧ (0 : Int32).toNatClampNeg + (30 : Int32).toNatClampNeg ≤ 30) ∧ ∀ I2, I2 = (upr I1 23 (va_cpy (I1 47) (I1 23) (0 : Int32).toNatClampNeg (0 : Int32).toNatClampNeg (30 : Int32).toNatClampNeg)) → ((¬ (0 : Int32) < 0 ∧ ¬ (0 : Int32) < 0 ∧ ¬ (30 : Int32) < 0 ∧ (0 : Int32).toNatClampNeg + (30 : Int32).toNatClampNeg ≤ 30 ∧ (0 : Int32).toNatClampNeg + (30 : Int32).toNatClampNeg ≤ 30) ∧ ∀ I3, I3 = (upr I2 24 (va_cpy (I2 48) (I2 24) (0 : Int32).toNatClampNeg (0 : Int32).toNatClampNeg (30 : Int32).toNatClampNeg)) → (r = none ∧ I' = I3 ∧ L' = L))))) : v_X0_take_21_45_0 r I' L' I L  := by
  intro w g K
  have K1 := K.1
  refine g_aload_n K1 0 dX0_take_0 rfl ?_
  refine g_aload_n K1 1 dX0_take_1 rfl ?_
  refine h_getI K1 q_clX0 0 lyp_45 fkX0_0 fl_X0_19 dX0_take_2 ?_
  refine h_putI K1 q_clX0 0 lyp_21 fkX0_0 fl_X0_19 rfl rfl rfl dX0_take_5 ?_
  refine g_aload_n K1 1 dX0_take_8 rfl ?_
  refine h_getO K1 q_clX0 1 46 lyp_45 fkX0_1 rfl fl_X0_9 dX0_take_9 ?_
  refine g_iconst K1 0 dX0_take_12 rfl ?_
  refine g_aload_n K1 0 dX0_take_13 rfl ?_
  refine h_getO K1 q_clX0 1 22 lyp_21 fkX0_1 rfl fl_X0_9 dX0_take_14 ?_
  refine g_iconst K1 0 dX0_take_17 rfl ?_
  refine g_bipush K1 30 dX0_take_18 rfl ?_
  obtain ⟨hg, h⟩ := h
  refine h_copyI K1 lyp_46 lyp_22 hg (Nat.le_of_ble_eq_true rfl) ⟨Nat.le_of_ble_eq_true rfl, Nat.le_of_ble_eq_true rfl⟩ ml_X0_23 dX0_take_20 ?_
  refine g_nameMI (fun I1 hI1 => ?_)
  replace h := h I1 hI1
  refine g_aload_n K1 1 dX0_take_23 rfl ?_
  refine h_getO K1 q_clX0 2 47 lyp_45 fkX0_2 rfl fl_X0_13 dX0_take_24 ?_
  refine g_iconst K1 0 dX0_take_27 rfl ?_
  refine g_aload_n K1 0 dX0_take_28 rfl ?_
  refine h_getO K1 q_clX0 2 23 lyp_21 fkX0_2 rfl fl_X0_13 dX0_take_29 ?_
  refine g_iconst K1 0 dX0_take_32 rfl ?_
  refine g_bipush K1 30 dX0_take_33 rfl ?_
  obtain ⟨hg, h⟩ := h
  refine h_copyI K1 lyp_47 lyp_23 hg (Nat.le_of_ble_eq_true rfl) ⟨Nat.le_of_ble_eq_true rfl, Nat.le_of_ble_eq_true rfl⟩ ml_X0_23 dX0_take_35 ?_
  refine g_nameMI (fun I2 hI2 => ?_)
  replace h := h I2 hI2
  refine g_aload_n K1 1 dX0_take_38 rfl ?_
  refine h_getO K1 q_clX0 3 48 lyp_45 fkX0_3 rfl fl_X0_16 dX0_take_39 ?_
  refine g_iconst K1 0 dX0_take_42 rfl ?_
  refine g_aload_n K1 0 dX0_take_43 rfl ?_
  refine h_getO K1 q_clX0 3 24 lyp_21 fkX0_3 rfl fl_X0_16 dX0_take_44 ?_
  refine g_iconst K1 0 dX0_take_47 rfl ?_
  refine g_bipush K1 30 dX0_take_48 rfl ?_
  obtain ⟨hg, h⟩ := h
  refine h_copyI K1 lyp_48 lyp_24 hg (Nat.le_of_ble_eq_true rfl) ⟨Nat.le_of_ble_eq_true rfl, Nat.le_of_ble_eq_true rfl⟩ ml_X0_23 dX0_take_50 ?_
  refine g_nameMI (fun I3 hI3 => ?_)
  replace h := h I3 hI3
  obtain ⟨hr, hI, hL⟩ := h
  subst hr hI hL
  exact g_vreturn K rfl dX0_take_53
theorem c0_X0_take_21_45 {r : Option Value} {I I' : Nat → Nat → Int32} {L L' : Nat → Nat → Int64}  (h : v_X0_take_21_45_0 r I' L' I L ) : q_C kX0_take [.ref 21, .ref 45] I L r I' L' := fun w l => q_ct (by decide) (Nat.le_of_ble_eq_true rfl) (Nat.le_refl _) (fun g _ K => h w g K)
abbrev v_X0_take_21_58_0 (r : Option Value) (I' : Nat → Nat → Int32) (L' : Nat → Nat → Int64) (I : Nat → Nat → Int32) (L : Nat → Nat → Int64)  : Prop := q_W kX0_take 0 [(0, .ref 21), (1, .ref 58)] [] I L r I' L'
set_option maxRecDepth 20000 in
set_option maxHeartbeats 2000000 in
theorem vc_X0_take_21_58_0 {r : Option Value} {I' : Nat → Nat → Int32} {L' : Nat → Nat → Int64} {I : Nat → Nat → Int32} {L : Nat → Nat → Int64}  (h : ((¬ (0 : Int32) < 0 ∧ ¬ (0 : Int32) < 0 ∧ ¬ (30 : Int32) < 0 ∧ (0 : Int32).toNatClampNeg + (30 : Int32).toNatClampNeg ≤ 30 ∧ (0 : Int32).toNatClampNeg + (30 : Int32).toNatClampNeg ≤ 30) ∧ ∀ I1, I1 = (upr (up2 I 21 0 (I 58 0)) 22 (va_cpy ((up2 I 21 0 (I 58 0)) 59) ((up2 I 21 0 (I 58 0)) 22) (0 : Int32).toNatClampNeg (0 : Int32).toNatClampNeg (30 : Int32).toNatClampNeg)) → ((¬ (0 : Int32) < 0 ∧ ¬ (0 : Int32) < 0 ∧ ¬ (30 : Int32) < 0 ∧ (0 : Int32).toNatClampNeg + (30 : Int32).toNatClampNeg ≤ 30 ∧ (0 : Int32).toNatClampNeg + (30 : Int32).toNatClampNeg ≤ 30) ∧ ∀ I2, I2 = (upr I1 23 (va_cpy (I1 60) (I1 23) (0 : Int32).toNatClampNeg (0 : Int32).toNatClampNeg (30 : Int32).toNatClampNeg)) → ((¬ (0 : Int32) < 0 ∧ ¬ (0 : Int32) < 0 ∧ ¬ (30 : Int32) < 0 ∧ (0 : Int32).toNatClampNeg + (30 : Int32).toNatClampNeg ≤ 30 ∧ (0 : Int32).toNatClampNeg + (30 : Int32).toNatClampNeg ≤ 30) ∧ ∀ I3, I3 = (upr I2 24 (va_cpy (I2 61) (I2 24) (0 : Int32).toNatClampNeg (0 : Int32).toNatClampNeg (30 : Int32).toNatClampNeg)) → (r = none ∧ I' = I3 ∧ L' = L))))) : v_X0_take_21_58_0 r I' L' I L  := by
  intro w g K
  have K1 := K.1
  refine g_aload_n K1 0 dX0_take_0 rfl ?_
  refine g_aload_n K1 1 dX0_take_1 rfl ?_
  refine h_getI K1 q_clX0 0 lyp_58 fkX0_0 fl_X0_19 dX0_take_2 ?_
  refine h_putI K1 q_clX0 0 lyp_21 fkX0_0 fl_X0_19 rfl rfl rfl dX0_take_5 ?_
  refine g_aload_n K1 1 dX0_take_8 rfl ?_
  refine h_getO K1 q_clX0 1 59 lyp_58 fkX0_1 rfl fl_X0_9 dX0_take_9 ?_
  refine g_iconst K1 0 dX0_take_12 rfl ?_
  refine g_aload_n K1 0 dX0_take_13 rfl ?_
  refine h_getO K1 q_clX0 1 22 lyp_21 fkX0_1 rfl fl_X0_9 dX0_take_14 ?_
  refine g_iconst K1 0 dX0_take_17 rfl ?_
  refine g_bipush K1 30 dX0_take_18 rfl ?_
  obtain ⟨hg, h⟩ := h
  refine h_copyI K1 lyp_59 lyp_22 hg (Nat.le_of_ble_eq_true rfl) ⟨Nat.le_of_ble_eq_true rfl, Nat.le_of_ble_eq_true rfl⟩ ml_X0_23 dX0_take_20 ?_
  refine g_nameMI (fun I1 hI1 => ?_)
  replace h := h I1 hI1
  refine g_aload_n K1 1 dX0_take_23 rfl ?_
  refine h_getO K1 q_clX0 2 60 lyp_58 fkX0_2 rfl fl_X0_13 dX0_take_24 ?_
  refine g_iconst K1 0 dX0_take_27 rfl ?_
  refine g_aload_n K1 0 dX0_take_28 rfl ?_
  refine h_getO K1 q_clX0 2 23 lyp_21 fkX0_2 rfl fl_X0_13 dX0_take_29 ?_
  refine g_iconst K1 0 dX0_take_32 rfl ?_
  refine g_bipush K1 30 dX0_take_33 rfl ?_
  obtain ⟨hg, h⟩ := h
  refine h_copyI K1 lyp_60 lyp_23 hg (Nat.le_of_ble_eq_true rfl) ⟨Nat.le_of_ble_eq_true rfl, Nat.le_of_ble_eq_true rfl⟩ ml_X0_23 dX0_take_35 ?_
  refine g_nameMI (fun I2 hI2 => ?_)
  replace h := h I2 hI2
  refine g_aload_n K1 1 dX0_take_38 rfl ?_
  refine h_getO K1 q_clX0 3 61 lyp_58 fkX0_3 rfl fl_X0_16 dX0_take_39 ?_
  refine g_iconst K1 0 dX0_take_42 rfl ?_
  refine g_aload_n K1 0 dX0_take_43 rfl ?_
  refine h_getO K1 q_clX0 3 24 lyp_21 fkX0_3 rfl fl_X0_16 dX0_take_44 ?_
  refine g_iconst K1 0 dX0_take_47 rfl ?_
  refine g_bipush K1 30 dX0_take_48 rfl ?_
  obtain ⟨hg, h⟩ := h
  refine h_copyI K1 lyp_61 lyp_24 hg (Nat.le_of_ble_eq_true rfl) ⟨Nat.le_of_ble_eq_true rfl, Nat.le_of_ble_eq_true rfl⟩ ml_X0_23 dX0_take_50 ?_
  refine g_nameMI (fun I3 hI3 => ?_)
  replace h := h I3 hI3
  obtain ⟨hr, hI, hL⟩ := h
  subst hr hI hL
  exact g_vreturn K rfl dX0_take_53
theorem c0_X0_take_21_58 {r : Option Value} {I I' : Nat → Nat → Int32} {L L' : Nat → Nat → Int64}  (h : v_X0_take_21_58_0 r I' L' I L ) : q_C kX0_take [.ref 21, .ref 58] I L r I' L' := fun w l => q_ct (by decide) (Nat.le_of_ble_eq_true rfl) (Nat.le_refl _) (fun g _ K => h w g K)
abbrev v_X0_take_21_71_0 (r : Option Value) (I' : Nat → Nat → Int32) (L' : Nat → Nat → Int64) (I : Nat → Nat → Int32) (L : Nat → Nat → Int64)  : Prop := q_W kX0_take 0 [(0, .ref 21), (1, .ref 71)] [] I L r I' L'
set_option maxRecDepth 20000 in
set_option maxHeartbeats 2000000 in
theorem vc_X0_take_21_71_0 {r : Option Value} {I' : Nat → Nat → Int32} {L' : Nat → Nat → Int64} {I : Nat → Nat → Int32} {L : Nat → Nat → Int64}  (h : ((¬ (0 : Int32) < 0 ∧ ¬ (0 : Int32) < 0 ∧ ¬ (30 : Int32) < 0 ∧ (0 : Int32).toNatClampNeg + (30 : Int32).toNatClampNeg ≤ 30 ∧ (0 : Int32).toNatClampNeg + (30 : Int32).toNatClampNeg ≤ 30) ∧ ∀ I1, I1 = (upr (up2 I 21 0 (I 71 0)) 22 (va_cpy ((up2 I 21 0 (I 71 0)) 72) ((up2 I 21 0 (I 71 0)) 22) (0 : Int32).toNatClampNeg (0 : Int32).toNatClampNeg (30 : Int32).toNatClampNeg)) → ((¬ (0 : Int32) < 0 ∧ ¬ (0 : Int32) < 0 ∧ ¬ (30 : Int32) < 0 ∧ (0 : Int32).toNatClampNeg + (30 : Int32).toNatClampNeg ≤ 30 ∧ (0 : Int32).toNatClampNeg + (30 : Int32).toNatClampNeg ≤ 30) ∧ ∀ I2, I2 = (upr I1 23 (va_cpy (I1 73) (I1 23) (0 : Int32).toNatClampNeg (0 : Int32).toNatClampNeg (30 : Int32).toNatClampNeg)) → ((¬ (0 : Int32) < 0 ∧ ¬ (0 : Int32) < 0 ∧ ¬ (30 : Int32) < 0 ∧ (0 : Int32).toNatClampNeg + (30 : Int32).toNatClampNeg ≤ 30 ∧ (0 : Int32).toNatClampNeg + (30 : Int32).toNatClampNeg ≤ 30) ∧ ∀ I3, I3 = (upr I2 24 (va_cpy (I2 74) (I2 24) (0 : Int32).toNatClampNeg (0 : Int32).toNatClampNeg (30 : Int32).toNatClampNeg)) → (r = none ∧ I' = I3 ∧ L' = L))))) : v_X0_take_21_71_0 r I' L' I L  := by
  intro w g K
  have K1 := K.1
  refine g_aload_n K1 0 dX0_take_0 rfl ?_
  refine g_aload_n K1 1 dX0_take_1 rfl ?_
  refine h_getI K1 q_clX0 0 lyp_71 fkX0_0 fl_X0_19 dX0_take_2 ?_
  refine h_putI K1 q_clX0 0 lyp_21 fkX0_0 fl_X0_19 rfl rfl rfl dX0_take_5 ?_
  refine g_aload_n K1 1 dX0_take_8 rfl ?_
  refine h_getO K1 q_clX0 1 72 lyp_71 fkX0_1 rfl fl_X0_9 dX0_take_9 ?_
  refine g_iconst K1 0 dX0_take_12 rfl ?_
  refine g_aload_n K1 0 dX0_take_13 rfl ?_
  refine h_getO K1 q_clX0 1 22 lyp_21 fkX0_1 rfl fl_X0_9 dX0_take_14 ?_
  refine g_iconst K1 0 dX0_take_17 rfl ?_
  refine g_bipush K1 30 dX0_take_18 rfl ?_
  obtain ⟨hg, h⟩ := h
  refine h_copyI K1 lyp_72 lyp_22 hg (Nat.le_of_ble_eq_true rfl) ⟨Nat.le_of_ble_eq_true rfl, Nat.le_of_ble_eq_true rfl⟩ ml_X0_23 dX0_take_20 ?_
  refine g_nameMI (fun I1 hI1 => ?_)
  replace h := h I1 hI1
  refine g_aload_n K1 1 dX0_take_23 rfl ?_
  refine h_getO K1 q_clX0 2 73 lyp_71 fkX0_2 rfl fl_X0_13 dX0_take_24 ?_
  refine g_iconst K1 0 dX0_take_27 rfl ?_
  refine g_aload_n K1 0 dX0_take_28 rfl ?_
  refine h_getO K1 q_clX0 2 23 lyp_21 fkX0_2 rfl fl_X0_13 dX0_take_29 ?_
  refine g_iconst K1 0 dX0_take_32 rfl ?_
  refine g_bipush K1 30 dX0_take_33 rfl ?_
  obtain ⟨hg, h⟩ := h
  refine h_copyI K1 lyp_73 lyp_23 hg (Nat.le_of_ble_eq_true rfl) ⟨Nat.le_of_ble_eq_true rfl, Nat.le_of_ble_eq_true rfl⟩ ml_X0_23 dX0_take_35 ?_
  refine g_nameMI (fun I2 hI2 => ?_)
  replace h := h I2 hI2
  refine g_aload_n K1 1 dX0_take_38 rfl ?_
  refine h_getO K1 q_clX0 3 74 lyp_71 fkX0_3 rfl fl_X0_16 dX0_take_39 ?_
  refine g_iconst K1 0 dX0_take_42 rfl ?_
  refine g_aload_n K1 0 dX0_take_43 rfl ?_
  refine h_getO K1 q_clX0 3 24 lyp_21 fkX0_3 rfl fl_X0_16 dX0_take_44 ?_
  refine g_iconst K1 0 dX0_take_47 rfl ?_
  refine g_bipush K1 30 dX0_take_48 rfl ?_
  obtain ⟨hg, h⟩ := h
  refine h_copyI K1 lyp_74 lyp_24 hg (Nat.le_of_ble_eq_true rfl) ⟨Nat.le_of_ble_eq_true rfl, Nat.le_of_ble_eq_true rfl⟩ ml_X0_23 dX0_take_50 ?_
  refine g_nameMI (fun I3 hI3 => ?_)
  replace h := h I3 hI3
  obtain ⟨hr, hI, hL⟩ := h
  subst hr hI hL
  exact g_vreturn K rfl dX0_take_53
theorem c0_X0_take_21_71 {r : Option Value} {I I' : Nat → Nat → Int32} {L L' : Nat → Nat → Int64}  (h : v_X0_take_21_71_0 r I' L' I L ) : q_C kX0_take [.ref 21, .ref 71] I L r I' L' := fun w l => q_ct (by decide) (Nat.le_of_ble_eq_true rfl) (Nat.le_refl _) (fun g _ K => h w g K)
abbrev v_X0_take_45_21_0 (r : Option Value) (I' : Nat → Nat → Int32) (L' : Nat → Nat → Int64) (I : Nat → Nat → Int32) (L : Nat → Nat → Int64)  : Prop := q_W kX0_take 0 [(0, .ref 45), (1, .ref 21)] [] I L r I' L'
set_option maxRecDepth 20000 in
set_option maxHeartbeats 2000000 in
theorem vc_X0_take_45_21_0 {r : Option Value} {I' : Nat → Nat → Int32} {L' : Nat → Nat → Int64} {I : Nat → Nat → Int32} {L : Nat → Nat → Int64}  (h : ((¬ (0 : Int32) < 0 ∧ ¬ (0 : Int32) < 0 ∧ ¬ (30 : Int32) < 0 ∧ (0 : Int32).toNatClampNeg + (30 : Int32).toNatClampNeg ≤ 30 ∧ (0 : Int32).toNatClampNeg + (30 : Int32).toNatClampNeg ≤ 30) ∧ ∀ I1, I1 = (upr (up2 I 45 0 (I 21 0)) 46 (va_cpy ((up2 I 45 0 (I 21 0)) 22) ((up2 I 45 0 (I 21 0)) 46) (0 : Int32).toNatClampNeg (0 : Int32).toNatClampNeg (30 : Int32).toNatClampNeg)) → ((¬ (0 : Int32) < 0 ∧ ¬ (0 : Int32) < 0 ∧ ¬ (30 : Int32) < 0 ∧ (0 : Int32).toNatClampNeg + (30 : Int32).toNatClampNeg ≤ 30 ∧ (0 : Int32).toNatClampNeg + (30 : Int32).toNatClampNeg ≤ 30) ∧ ∀ I2, I2 = (upr I1 47 (va_cpy (I1 23) (I1 47) (0 : Int32).toNatClampNeg (0 : Int32).toNatClampNeg (30 : Int32).toNatClampNeg)) → ((¬ (0 : Int32) < 0 ∧ ¬ (0 : Int32) < 0 ∧ ¬ (30 : Int32) < 0 ∧ (0 : Int32).toNatClampNeg + (30 : Int32).toNatClampNeg ≤ 30 ∧ (0 : Int32).toNatClampNeg + (30 : Int32).toNatClampNeg ≤ 30) ∧ ∀ I3, I3 = (upr I2 48 (va_cpy (I2 24) (I2 48) (0 : Int32).toNatClampNeg (0 : Int32).toNatClampNeg (30 : Int32).toNatClampNeg)) → (r = none ∧ I' = I3 ∧ L' = L))))) : v_X0_take_45_21_0 r I' L' I L  := by
  intro w g K
  have K1 := K.1
  refine g_aload_n K1 0 dX0_take_0 rfl ?_
  refine g_aload_n K1 1 dX0_take_1 rfl ?_
  refine h_getI K1 q_clX0 0 lyp_21 fkX0_0 fl_X0_19 dX0_take_2 ?_
  refine h_putI K1 q_clX0 0 lyp_45 fkX0_0 fl_X0_19 rfl rfl rfl dX0_take_5 ?_
  refine g_aload_n K1 1 dX0_take_8 rfl ?_
  refine h_getO K1 q_clX0 1 22 lyp_21 fkX0_1 rfl fl_X0_9 dX0_take_9 ?_
  refine g_iconst K1 0 dX0_take_12 rfl ?_
  refine g_aload_n K1 0 dX0_take_13 rfl ?_
  refine h_getO K1 q_clX0 1 46 lyp_45 fkX0_1 rfl fl_X0_9 dX0_take_14 ?_
  refine g_iconst K1 0 dX0_take_17 rfl ?_
  refine g_bipush K1 30 dX0_take_18 rfl ?_
  obtain ⟨hg, h⟩ := h
  refine h_copyI K1 lyp_22 lyp_46 hg (Nat.le_of_ble_eq_true rfl) ⟨Nat.le_of_ble_eq_true rfl, Nat.le_of_ble_eq_true rfl⟩ ml_X0_23 dX0_take_20 ?_
  refine g_nameMI (fun I1 hI1 => ?_)
  replace h := h I1 hI1
  refine g_aload_n K1 1 dX0_take_23 rfl ?_
  refine h_getO K1 q_clX0 2 23 lyp_21 fkX0_2 rfl fl_X0_13 dX0_take_24 ?_
  refine g_iconst K1 0 dX0_take_27 rfl ?_
  refine g_aload_n K1 0 dX0_take_28 rfl ?_
  refine h_getO K1 q_clX0 2 47 lyp_45 fkX0_2 rfl fl_X0_13 dX0_take_29 ?_
  refine g_iconst K1 0 dX0_take_32 rfl ?_
  refine g_bipush K1 30 dX0_take_33 rfl ?_
  obtain ⟨hg, h⟩ := h
  refine h_copyI K1 lyp_23 lyp_47 hg (Nat.le_of_ble_eq_true rfl) ⟨Nat.le_of_ble_eq_true rfl, Nat.le_of_ble_eq_true rfl⟩ ml_X0_23 dX0_take_35 ?_
  refine g_nameMI (fun I2 hI2 => ?_)
  replace h := h I2 hI2
  refine g_aload_n K1 1 dX0_take_38 rfl ?_
  refine h_getO K1 q_clX0 3 24 lyp_21 fkX0_3 rfl fl_X0_16 dX0_take_39 ?_
  refine g_iconst K1 0 dX0_take_42 rfl ?_
  refine g_aload_n K1 0 dX0_take_43 rfl ?_
  refine h_getO K1 q_clX0 3 48 lyp_45 fkX0_3 rfl fl_X0_16 dX0_take_44 ?_
  refine g_iconst K1 0 dX0_take_47 rfl ?_
  refine g_bipush K1 30 dX0_take_48 rfl ?_
  obtain ⟨hg, h⟩ := h
  refine h_copyI K1 lyp_24 lyp_48 hg (Nat.le_of_ble_eq_true rfl) ⟨Nat.le_of_ble_eq_true rfl, Nat.le_of_ble_eq_true rfl⟩ ml_X0_23 dX0_take_50 ?_
  refine g_nameMI (fun I3 hI3 => ?_)
  replace h := h I3 hI3
  obtain ⟨hr, hI, hL⟩ := h
  subst hr hI hL
  exact g_vreturn K rfl dX0_take_53
theorem c0_X0_take_45_21 {r : Option Value} {I I' : Nat → Nat → Int32} {L L' : Nat → Nat → Int64}  (h : v_X0_take_45_21_0 r I' L' I L ) : q_C kX0_take [.ref 45, .ref 21] I L r I' L' := fun w l => q_ct (by decide) (Nat.le_of_ble_eq_true rfl) (Nat.le_refl _) (fun g _ K => h w g K)
abbrev v_X0_take_58_21_0 (r : Option Value) (I' : Nat → Nat → Int32) (L' : Nat → Nat → Int64) (I : Nat → Nat → Int32) (L : Nat → Nat → Int64)  : Prop := q_W kX0_take 0 [(0, .ref 58), (1, .ref 21)] [] I L r I' L'
set_option maxRecDepth 20000 in
set_option maxHeartbeats 2000000 in
theorem vc_X0_take_58_21_0 {r : Option Value} {I' : Nat → Nat → Int32} {L' : Nat → Nat → Int64} {I : Nat → Nat → Int32} {L : Nat → Nat → Int64}  (h : ((¬ (0 : Int32) < 0 ∧ ¬ (0 : Int32) < 0 ∧ ¬ (30 : Int32) < 0 ∧ (0 : Int32).toNatClampNeg + (30 : Int32).toNatClampNeg ≤ 30 ∧ (0 : Int32).toNatClampNeg + (30 : Int32).toNatClampNeg ≤ 30) ∧ ∀ I1, I1 = (upr (up2 I 58 0 (I 21 0)) 59 (va_cpy ((up2 I 58 0 (I 21 0)) 22) ((up2 I 58 0 (I 21 0)) 59) (0 : Int32).toNatClampNeg (0 : Int32).toNatClampNeg (30 : Int32).toNatClampNeg)) → ((¬ (0 : Int32) < 0 ∧ ¬ (0 : Int32) < 0 ∧ ¬ (30 : Int32) < 0 ∧ (0 : Int32).toNatClampNeg + (30 : Int32).toNatClampNeg ≤ 30 ∧ (0 : Int32).toNatClampNeg + (30 : Int32).toNatClampNeg ≤ 30) ∧ ∀ I2, I2 = (upr I1 60 (va_cpy (I1 23) (I1 60) (0 : Int32).toNatClampNeg (0 : Int32).toNatClampNeg (30 : Int32).toNatClampNeg)) → ((¬ (0 : Int32) < 0 ∧ ¬ (0 : Int32) < 0 ∧ ¬ (30 : Int32) < 0 ∧ (0 : Int32).toNatClampNeg + (30 : Int32).toNatClampNeg ≤ 30 ∧ (0 : Int32).toNatClampNeg + (30 : Int32).toNatClampNeg ≤ 30) ∧ ∀ I3, I3 = (upr I2 61 (va_cpy (I2 24) (I2 61) (0 : Int32).toNatClampNeg (0 : Int32).toNatClampNeg (30 : Int32).toNatClampNeg)) → (r = none ∧ I' = I3 ∧ L' = L))))) : v_X0_take_58_21_0 r I' L' I L  := by
  intro w g K
  have K1 := K.1
  refine g_aload_n K1 0 dX0_take_0 rfl ?_
  refine g_aload_n K1 1 dX0_take_1 rfl ?_
  refine h_getI K1 q_clX0 0 lyp_21 fkX0_0 fl_X0_19 dX0_take_2 ?_
  refine h_putI K1 q_clX0 0 lyp_58 fkX0_0 fl_X0_19 rfl rfl rfl dX0_take_5 ?_
  refine g_aload_n K1 1 dX0_take_8 rfl ?_
  refine h_getO K1 q_clX0 1 22 lyp_21 fkX0_1 rfl fl_X0_9 dX0_take_9 ?_
  refine g_iconst K1 0 dX0_take_12 rfl ?_
  refine g_aload_n K1 0 dX0_take_13 rfl ?_
  refine h_getO K1 q_clX0 1 59 lyp_58 fkX0_1 rfl fl_X0_9 dX0_take_14 ?_
  refine g_iconst K1 0 dX0_take_17 rfl ?_
  refine g_bipush K1 30 dX0_take_18 rfl ?_
  obtain ⟨hg, h⟩ := h
  refine h_copyI K1 lyp_22 lyp_59 hg (Nat.le_of_ble_eq_true rfl) ⟨Nat.le_of_ble_eq_true rfl, Nat.le_of_ble_eq_true rfl⟩ ml_X0_23 dX0_take_20 ?_
  refine g_nameMI (fun I1 hI1 => ?_)
  replace h := h I1 hI1
  refine g_aload_n K1 1 dX0_take_23 rfl ?_
  refine h_getO K1 q_clX0 2 23 lyp_21 fkX0_2 rfl fl_X0_13 dX0_take_24 ?_
  refine g_iconst K1 0 dX0_take_27 rfl ?_
  refine g_aload_n K1 0 dX0_take_28 rfl ?_
  refine h_getO K1 q_clX0 2 60 lyp_58 fkX0_2 rfl fl_X0_13 dX0_take_29 ?_
  refine g_iconst K1 0 dX0_take_32 rfl ?_
  refine g_bipush K1 30 dX0_take_33 rfl ?_
  obtain ⟨hg, h⟩ := h
  refine h_copyI K1 lyp_23 lyp_60 hg (Nat.le_of_ble_eq_true rfl) ⟨Nat.le_of_ble_eq_true rfl, Nat.le_of_ble_eq_true rfl⟩ ml_X0_23 dX0_take_35 ?_
  refine g_nameMI (fun I2 hI2 => ?_)
  replace h := h I2 hI2
  refine g_aload_n K1 1 dX0_take_38 rfl ?_
  refine h_getO K1 q_clX0 3 24 lyp_21 fkX0_3 rfl fl_X0_16 dX0_take_39 ?_
  refine g_iconst K1 0 dX0_take_42 rfl ?_
  refine g_aload_n K1 0 dX0_take_43 rfl ?_
  refine h_getO K1 q_clX0 3 61 lyp_58 fkX0_3 rfl fl_X0_16 dX0_take_44 ?_
  refine g_iconst K1 0 dX0_take_47 rfl ?_
  refine g_bipush K1 30 dX0_take_48 rfl ?_
  obtain ⟨hg, h⟩ := h
  refine h_copyI K1 lyp_24 lyp_61 hg (Nat.le_of_ble_eq_true rfl) ⟨Nat.le_of_ble_eq_true rfl, Nat.le_of_ble_eq_true rfl⟩ ml_X0_23 dX0_take_50 ?_
  refine g_nameMI (fun I3 hI3 => ?_)
  replace h := h I3 hI3
  obtain ⟨hr, hI, hL⟩ := h
  subst hr hI hL
  exact g_vreturn K rfl dX0_take_53
theorem c0_X0_take_58_21 {r : Option Value} {I I' : Nat → Nat → Int32} {L L' : Nat → Nat → Int64}  (h : v_X0_take_58_21_0 r I' L' I L ) : q_C kX0_take [.ref 58, .ref 21] I L r I' L' := fun w l => q_ct (by decide) (Nat.le_of_ble_eq_true rfl) (Nat.le_refl _) (fun g _ K => h w g K)
abbrev v_X0_take_71_21_0 (r : Option Value) (I' : Nat → Nat → Int32) (L' : Nat → Nat → Int64) (I : Nat → Nat → Int32) (L : Nat → Nat → Int64)  : Prop := q_W kX0_take 0 [(0, .ref 71), (1, .ref 21)] [] I L r I' L'
set_option maxRecDepth 20000 in
set_option maxHeartbeats 2000000 in
theorem vc_X0_take_71_21_0 {r : Option Value} {I' : Nat → Nat → Int32} {L' : Nat → Nat → Int64} {I : Nat → Nat → Int32} {L : Nat → Nat → Int64}  (h : ((¬ (0 : Int32) < 0 ∧ ¬ (0 : Int32) < 0 ∧ ¬ (30 : Int32) < 0 ∧ (0 : Int32).toNatClampNeg + (30 : Int32).toNatClampNeg ≤ 30 ∧ (0 : Int32).toNatClampNeg + (30 : Int32).toNatClampNeg ≤ 30) ∧ ∀ I1, I1 = (upr (up2 I 71 0 (I 21 0)) 72 (va_cpy ((up2 I 71 0 (I 21 0)) 22) ((up2 I 71 0 (I 21 0)) 72) (0 : Int32).toNatClampNeg (0 : Int32).toNatClampNeg (30 : Int32).toNatClampNeg)) → ((¬ (0 : Int32) < 0 ∧ ¬ (0 : Int32) < 0 ∧ ¬ (30 : Int32) < 0 ∧ (0 : Int32).toNatClampNeg + (30 : Int32).toNatClampNeg ≤ 30 ∧ (0 : Int32).toNatClampNeg + (30 : Int32).toNatClampNeg ≤ 30) ∧ ∀ I2, I2 = (upr I1 73 (va_cpy (I1 23) (I1 73) (0 : Int32).toNatClampNeg (0 : Int32).toNatClampNeg (30 : Int32).toNatClampNeg)) → ((¬ (0 : Int32) < 0 ∧ ¬ (0 : Int32) < 0 ∧ ¬ (30 : Int32) < 0 ∧ (0 : Int32).toNatClampNeg + (30 : Int32).toNatClampNeg ≤ 30 ∧ (0 : Int32).toNatClampNeg + (30 : Int32).toNatClampNeg ≤ 30) ∧ ∀ I3, I3 = (upr I2 74 (va_cpy (I2 24) (I2 74) (0 : Int32).toNatClampNeg (0 : Int32).toNatClampNeg (30 : Int32).toNatClampNeg)) → (r = none ∧ I' = I3 ∧ L' = L))))) : v_X0_take_71_21_0 r I' L' I L  := by
  intro w g K
  have K1 := K.1
  refine g_aload_n K1 0 dX0_take_0 rfl ?_
  refine g_aload_n K1 1 dX0_take_1 rfl ?_
  refine h_getI K1 q_clX0 0 lyp_21 fkX0_0 fl_X0_19 dX0_take_2 ?_
  refine h_putI K1 q_clX0 0 lyp_71 fkX0_0 fl_X0_19 rfl rfl rfl dX0_take_5 ?_
  refine g_aload_n K1 1 dX0_take_8 rfl ?_
  refine h_getO K1 q_clX0 1 22 lyp_21 fkX0_1 rfl fl_X0_9 dX0_take_9 ?_
  refine g_iconst K1 0 dX0_take_12 rfl ?_
  refine g_aload_n K1 0 dX0_take_13 rfl ?_
  refine h_getO K1 q_clX0 1 72 lyp_71 fkX0_1 rfl fl_X0_9 dX0_take_14 ?_
  refine g_iconst K1 0 dX0_take_17 rfl ?_
  refine g_bipush K1 30 dX0_take_18 rfl ?_
  obtain ⟨hg, h⟩ := h
  refine h_copyI K1 lyp_22 lyp_72 hg (Nat.le_of_ble_eq_true rfl) ⟨Nat.le_of_ble_eq_true rfl, Nat.le_of_ble_eq_true rfl⟩ ml_X0_23 dX0_take_20 ?_
  refine g_nameMI (fun I1 hI1 => ?_)
  replace h := h I1 hI1
  refine g_aload_n K1 1 dX0_take_23 rfl ?_
  refine h_getO K1 q_clX0 2 23 lyp_21 fkX0_2 rfl fl_X0_13 dX0_take_24 ?_
  refine g_iconst K1 0 dX0_take_27 rfl ?_
  refine g_aload_n K1 0 dX0_take_28 rfl ?_
  refine h_getO K1 q_clX0 2 73 lyp_71 fkX0_2 rfl fl_X0_13 dX0_take_29 ?_
  refine g_iconst K1 0 dX0_take_32 rfl ?_
  refine g_bipush K1 30 dX0_take_33 rfl ?_
  obtain ⟨hg, h⟩ := h
  refine h_copyI K1 lyp_23 lyp_73 hg (Nat.le_of_ble_eq_true rfl) ⟨Nat.le_of_ble_eq_true rfl, Nat.le_of_ble_eq_true rfl⟩ ml_X0_23 dX0_take_35 ?_
  refine g_nameMI (fun I2 hI2 => ?_)
  replace h := h I2 hI2
  refine g_aload_n K1 1 dX0_take_38 rfl ?_
  refine h_getO K1 q_clX0 3 24 lyp_21 fkX0_3 rfl fl_X0_16 dX0_take_39 ?_
  refine g_iconst K1 0 dX0_take_42 rfl ?_
  refine g_aload_n K1 0 dX0_take_43 rfl ?_
  refine h_getO K1 q_clX0 3 74 lyp_71 fkX0_3 rfl fl_X0_16 dX0_take_44 ?_
  refine g_iconst K1 0 dX0_take_47 rfl ?_
  refine g_bipush K1 30 dX0_take_48 rfl ?_
  obtain ⟨hg, h⟩ := h
  refine h_copyI K1 lyp_24 lyp_74 hg (Nat.le_of_ble_eq_true rfl) ⟨Nat.le_of_ble_eq_true rfl, Nat.le_of_ble_eq_true rfl⟩ ml_X0_23 dX0_take_50 ?_
  refine g_nameMI (fun I3 hI3 => ?_)
  replace h := h I3 hI3
  obtain ⟨hr, hI, hL⟩ := h
  subst hr hI hL
  exact g_vreturn K rfl dX0_take_53
theorem c0_X0_take_71_21 {r : Option Value} {I I' : Nat → Nat → Int32} {L L' : Nat → Nat → Int64}  (h : v_X0_take_71_21_0 r I' L' I L ) : q_C kX0_take [.ref 71, .ref 21] I L r I' L' := fun w l => q_ct (by decide) (Nat.le_of_ble_eq_true rfl) (Nat.le_refl _) (fun g _ K => h w g K)
abbrev v_X10_chooseOpening_0 (r : Option Value) (I' : Nat → Nat → Int32) (L' : Nat → Nat → Int64) (I : Nat → Nat → Int32) (L : Nat → Nat → Int64)  : Prop := q_W kX10_chooseOpening 0 [(0, .ref 87)] [] I L r I' L'
abbrev v_X10_chooseOpening_9 (r : Option Value) (I' : Nat → Nat → Int32) (L' : Nat → Nat → Int64) (I : Nat → Nat → Int32) (L : Nat → Nat → Int64) (x1 : Int32) (x2 : Int32) : Prop := q_W kX10_chooseOpening 9 [(0, .ref 87), (1, .int x1), (2, .int x2)] [] I L r I' L'
set_option maxRecDepth 20000 in
set_option maxHeartbeats 2000000 in
theorem vc_X10_chooseOpening_0 {r : Option Value} {I' : Nat → Nat → Int32} {L' : Nat → Nat → Int64} {I : Nat → Nat → Int32} {L : Nat → Nat → Int64}  (h : (v_X10_chooseOpening_9 r I' L' (up2 I 87 1 (-1)) L (-1) 0)) : v_X10_chooseOpening_0 r I' L' I L  := by
  intro w g K
  have K1 := K.1
  refine g_aload_n K1 0 dX10_chooseOpening_0 rfl ?_
  refine g_iconst K1 (-1) dX10_chooseOpening_1 rfl ?_
  refine h_putI K1 q_clX10 1 lyp_87 fkX10_1 fl_X10_49 rfl rfl rfl dX10_chooseOpening_2 ?_
  refine g_iconst K1 (-1) dX10_chooseOpening_5 rfl ?_
  refine g_istore_n K1 dX10_chooseOpening_6 rfl (by decide) rfl ?_
  refine g_iconst K1 0 dX10_chooseOpening_7 rfl ?_
  refine g_istore_n K1 dX10_chooseOpening_8 rfl (by decide) rfl ?_
  exact g_perm [2, 1, 0] rfl (h w g K)
set_option maxRecDepth 20000 in
set_option maxHeartbeats 2000000 in
theorem vc_X10_chooseOpening_9 {r : Option Value} {I' : Nat → Nat → Int32} {L' : Nat → Nat → Int64} {I : Nat → Nat → Int32} {L : Nat → Nat → Int64} {x1 : Int32} {x2 : Int32} (h : (((I 12 4) ≤ x2 → (r = none ∧ I' = (up2 I 87 0 x1) ∧ L' = L)) ∧ (¬ (I 12 4) ≤ x2 → (∃ I1, q_C kX10_chooseReply [.ref 87, .int x2] I L none I1 L ∧ (((I1 87 0) ≤ x1 → (v_X10_chooseOpening_9 r I' L' I1 L x1 (x2 + 1))) ∧ (¬ (I1 87 0) ≤ x1 → (v_X10_chooseOpening_9 r I' L' (up2 I1 87 1 x2) L (I1 87 0) (x2 + 1)))))))) : v_X10_chooseOpening_9 r I' L' I L x1 x2 := by
  intro w g K
  have K1 := K.1
  refine g_iload_n K1 2 dX10_chooseOpening_9 rfl ?_
  refine g_aload_n K1 0 dX10_chooseOpening_10 rfl ?_
  refine h_getO K1 q_clX10 3 12 lyp_87 fkX10_3 rfl fl_X10_9 dX10_chooseOpening_11 ?_
  refine h_getI K1 q_clX5 4 lyp_12 fkX5_4 fl_X10_28 dX10_chooseOpening_14 ?_
  refine g_icmp_ge K1 49 dX10_chooseOpening_17 rfl (fun hc => ?_) (fun hc => ?_)
  · replace h := h.1 hc
    refine g_aload_n K1 0 dX10_chooseOpening_49 rfl ?_
    refine g_iload_n K1 1 dX10_chooseOpening_50 rfl ?_
    refine h_putI K1 q_clX10 0 lyp_87 fkX10_0 fl_X10_56 rfl rfl rfl dX10_chooseOpening_51 ?_
    obtain ⟨hr, hI, hL⟩ := h
    subst hr hI hL
    exact g_vreturn K rfl dX10_chooseOpening_54
  · replace h := h.2 hc
    refine g_aload_n K1 0 dX10_chooseOpening_20 rfl ?_
    refine g_iload_n K1 2 dX10_chooseOpening_21 rfl ?_
    obtain ⟨I1, hct, h⟩ := h
    refine h_callV K1 (st := []) [.int x2] (hct w (gl g)) q_clX10 lyp_87 rfl ok_X10_chooseReply ml_X10_52 ⟨Nat.le_of_ble_eq_true rfl, Nat.le_of_ble_eq_true rfl⟩ (Nat.le_of_ble_eq_true rfl) dX10_chooseOpening_22 ?_
    show q_Gs w g 25 [(0, .ref 87), (1, .int x1), (2, .int x2)] [] (q_mm I1 L)
    refine g_aload_n K1 0 dX10_chooseOpening_25 rfl ?_
    refine h_getI K1 q_clX10 0 lyp_87 fkX10_0 fl_X10_56 dX10_chooseOpening_26 ?_
    refine g_iload_n K1 1 dX10_chooseOpening_29 rfl ?_
    refine g_icmp_le K1 43 dX10_chooseOpening_30 rfl (fun hc => ?_) (fun hc => ?_)
    · replace h := h.1 hc
      refine g_iinc K1 (x2 + 1) 2 dX10_chooseOpening_43 rfl rfl (by decide) rfl ?_
      refine g_goto K1 9 dX10_chooseOpening_46 rfl ?_
      exact g_perm [1, 2, 0] rfl (h w g K)
    · replace h := h.2 hc
      refine g_aload_n K1 0 dX10_chooseOpening_33 rfl ?_
      refine h_getI K1 q_clX10 0 lyp_87 fkX10_0 fl_X10_56 dX10_chooseOpening_34 ?_
      refine g_istore_n K1 dX10_chooseOpening_37 rfl (by decide) rfl ?_
      refine g_aload_n K1 1 dX10_chooseOpening_38 rfl ?_
      refine g_iload_n K1 2 dX10_chooseOpening_39 rfl ?_
      refine h_putI K1 q_clX10 1 lyp_87 fkX10_1 fl_X10_49 rfl rfl rfl dX10_chooseOpening_40 ?_
      refine g_iinc K1 (x2 + 1) 2 dX10_chooseOpening_43 rfl rfl (by decide) rfl ?_
      refine g_goto K1 9 dX10_chooseOpening_46 rfl ?_
      exact g_perm [2, 1, 0] rfl (h w g K)
theorem c0_X10_chooseOpening {r : Option Value} {I I' : Nat → Nat → Int32} {L L' : Nat → Nat → Int64}  (h : v_X10_chooseOpening_0 r I' L' I L ) : q_C kX10_chooseOpening [.ref 87] I L r I' L' := fun w l => q_ct (by decide) (Nat.le_of_ble_eq_true rfl) (Nat.le_refl _) (fun g _ K => h w g K)
abbrev v_X10_chooseReply_0 (r : Option Value) (I' : Nat → Nat → Int32) (L' : Nat → Nat → Int64) (I : Nat → Nat → Int32) (L : Nat → Nat → Int64) (x1 : Int32) : Prop := q_W kX10_chooseReply 0 [(0, .ref 87), (1, .int x1)] [] I L r I' L'
abbrev v_X10_chooseReply_36 (r : Option Value) (I' : Nat → Nat → Int32) (L' : Nat → Nat → Int64) (I : Nat → Nat → Int32) (L : Nat → Nat → Int64) (x2 : Int32) : Prop := q_W kX10_chooseReply 36 [(0, .ref 87), (2, .int x2)] [] I L r I' L'
set_option maxRecDepth 20000 in
set_option maxHeartbeats 2000000 in
theorem vc_X10_chooseReply_0 {r : Option Value} {I' : Nat → Nat → Int32} {L' : Nat → Nat → Int64} {I : Nat → Nat → Int32} {L : Nat → Nat → Int64} {x1 : Int32} (h : (∃ I1, q_C kX3_asNow [.ref 81] (up2 (up2 I 87 2 (-1)) 87 0 8) L none I1 L ∧ (v_X10_chooseReply_36 r I' L' (up2 (up2 I1 81 10 x1) 81 12 1) L 0))) : v_X10_chooseReply_0 r I' L' I L x1 := by
  intro w g K
  have K1 := K.1
  refine g_aload_n K1 0 dX10_chooseReply_0 rfl ?_
  refine g_iconst K1 (-1) dX10_chooseReply_1 rfl ?_
  refine h_putI K1 q_clX10 2 lyp_87 fkX10_2 fl_X10_59 rfl rfl rfl dX10_chooseReply_2 ?_
  refine g_aload_n K1 0 dX10_chooseReply_5 rfl ?_
  refine g_bipush K1 8 dX10_chooseReply_6 rfl ?_
  refine h_putI K1 q_clX10 0 lyp_87 fkX10_0 fl_X10_56 rfl rfl rfl dX10_chooseReply_8 ?_
  refine g_aload_n K1 0 dX10_chooseReply_11 rfl ?_
  refine h_getO K1 q_clX10 4 81 lyp_87 fkX10_4 rfl fl_X10_15 dX10_chooseReply_12 ?_
  obtain ⟨I1, hct, h⟩ := h
  refine h_callV K1 (st := []) [] (hct w (gl g)) q_clX3 lyp_81 rfl ok_X3_asNow ml_X10_19 ⟨Nat.le_of_ble_eq_true rfl, Nat.le_of_ble_eq_true rfl⟩ (Nat.le_of_ble_eq_true rfl) dX10_chooseReply_15 ?_
  show q_Gs w g 18 [(0, .ref 87), (1, .int x1)] [] (q_mm I1 L)
  refine g_aload_n K1 0 dX10_chooseReply_18 rfl ?_
  refine h_getO K1 q_clX10 4 81 lyp_87 fkX10_4 rfl fl_X10_15 dX10_chooseReply_19 ?_
  refine g_iload_n K1 1 dX10_chooseReply_22 rfl ?_
  refine h_putI K1 q_clX3 10 lyp_81 fkX3_10 fl_X10_62 rfl rfl rfl dX10_chooseReply_23 ?_
  refine g_aload_n K1 0 dX10_chooseReply_26 rfl ?_
  refine h_getO K1 q_clX10 4 81 lyp_87 fkX10_4 rfl fl_X10_15 dX10_chooseReply_27 ?_
  refine g_iconst K1 1 dX10_chooseReply_30 rfl ?_
  refine h_putI K1 q_clX3 12 lyp_81 fkX3_12 fl_X10_24 rfl rfl rfl dX10_chooseReply_31 ?_
  refine g_iconst K1 0 dX10_chooseReply_34 rfl ?_
  refine g_istore_n K1 dX10_chooseReply_35 rfl (by decide) rfl ?_
  exact g_perm [1, 0] rfl (h w g K)
set_option maxRecDepth 20000 in
set_option maxHeartbeats 2000000 in
theorem vc_X10_chooseReply_36 {r : Option Value} {I' : Nat → Nat → Int32} {L' : Nat → Nat → Int64} {I : Nat → Nat → Int32} {L : Nat → Nat → Int64} {x2 : Int32} (h : (((I 12 4) ≤ x2 → (r = none ∧ I' = I ∧ L' = L)) ∧ (¬ (I 12 4) ≤ x2 → (∃ r1 I2, q_C kX3_run [.ref 81, .int 0, .int ((up2 I 81 11 x2) 12 1)] (up2 I 81 11 x2) L (some (.int r1)) I2 L ∧ (((I2 87 0) ≤ r1 → (v_X10_chooseReply_36 r I' L' I2 L (x2 + 1))) ∧ (¬ (I2 87 0) ≤ r1 → (v_X10_chooseReply_36 r I' L' (up2 (up2 I2 87 0 r1) 87 2 x2) L (x2 + 1)))))))) : v_X10_chooseReply_36 r I' L' I L x2 := by
  intro w g K
  have K1 := K.1
  refine g_iload_n K1 1 dX10_chooseReply_36 rfl ?_
  refine g_aload_n K1 0 dX10_chooseReply_37 rfl ?_
  refine h_getO K1 q_clX10 3 12 lyp_87 fkX10_3 rfl fl_X10_9 dX10_chooseReply_38 ?_
  refine h_getI K1 q_clX5 4 lyp_12 fkX5_4 fl_X10_28 dX10_chooseReply_41 ?_
  refine g_icmp_ge K1 95 dX10_chooseReply_44 rfl (fun hc => ?_) (fun hc => ?_)
  · replace h := h.1 hc
    obtain ⟨hr, hI, hL⟩ := h
    subst hr hI hL
    exact g_vreturn K rfl dX10_chooseReply_95
  · replace h := h.2 hc
    refine g_aload_n K1 0 dX10_chooseReply_47 rfl ?_
    refine h_getO K1 q_clX10 4 81 lyp_87 fkX10_4 rfl fl_X10_15 dX10_chooseReply_48 ?_
    refine g_iload_n K1 1 dX10_chooseReply_51 rfl ?_
    refine h_putI K1 q_clX3 11 lyp_81 fkX3_11 fl_X10_33 rfl rfl rfl dX10_chooseReply_52 ?_
    refine g_aload_n K1 0 dX10_chooseReply_55 rfl ?_
    refine h_getO K1 q_clX10 4 81 lyp_87 fkX10_4 rfl fl_X10_15 dX10_chooseReply_56 ?_
    refine g_iconst K1 0 dX10_chooseReply_59 rfl ?_
    refine g_aload_n K1 0 dX10_chooseReply_60 rfl ?_
    refine h_getO K1 q_clX10 3 12 lyp_87 fkX10_3 rfl fl_X10_9 dX10_chooseReply_61 ?_
    refine h_getI K1 q_clX5 1 lyp_12 fkX5_1 fl_X10_36 dX10_chooseReply_64 ?_
    obtain ⟨r1, I2, hct, h⟩ := h
    refine h_callV K1 (st := []) [.int 0, .int ((up2 I 81 11 x2) 12 1)] (hct w (gl g)) q_clX3 lyp_81 rfl ok_X3_run ml_X10_39 ⟨Nat.le_of_ble_eq_true rfl, Nat.le_of_ble_eq_true rfl⟩ (Nat.le_of_ble_eq_true rfl) dX10_chooseReply_67 ?_
    show q_Gs w g 70 [(0, .ref 87), (2, .int x2)] [.int r1] (q_mm I2 L)
    refine g_istore_n K1 dX10_chooseReply_70 rfl (by decide) rfl ?_
    refine g_iload_n K1 0 dX10_chooseReply_71 rfl ?_
    refine g_aload_n K1 1 dX10_chooseReply_72 rfl ?_
    refine h_getI K1 q_clX10 0 lyp_87 fkX10_0 fl_X10_56 dX10_chooseReply_73 ?_
    refine g_icmp_ge K1 89 dX10_chooseReply_76 rfl (fun hc => ?_) (fun hc => ?_)
    · replace h := h.1 hc
      refine g_iinc K1 (x2 + 1) 2 dX10_chooseReply_89 rfl rfl (by decide) rfl ?_
      refine g_goto K1 36 dX10_chooseReply_92 rfl ?_
      exact g_perm [2, 0] rfl (h w g K)
    · replace h := h.2 hc
      refine g_aload_n K1 1 dX10_chooseReply_79 rfl ?_
      refine g_iload_n K1 0 dX10_chooseReply_80 rfl ?_
      refine h_putI K1 q_clX10 0 lyp_87 fkX10_0 fl_X10_56 rfl rfl rfl dX10_chooseReply_81 ?_
      refine g_aload_n K1 1 dX10_chooseReply_84 rfl ?_
      refine g_iload_n K1 2 dX10_chooseReply_85 rfl ?_
      refine h_putI K1 q_clX10 2 lyp_87 fkX10_2 fl_X10_59 rfl rfl rfl dX10_chooseReply_86 ?_
      refine g_iinc K1 (x2 + 1) 2 dX10_chooseReply_89 rfl rfl (by decide) rfl ?_
      refine g_goto K1 36 dX10_chooseReply_92 rfl ?_
      exact g_perm [2, 0] rfl (h w g K)
theorem c0_X10_chooseReply {r : Option Value} {I I' : Nat → Nat → Int32} {L L' : Nat → Nat → Int64} {x1 : Int32} (h : v_X10_chooseReply_0 r I' L' I L x1) : q_C kX10_chooseReply [.ref 87, .int x1] I L r I' L' := fun w l => q_ct (by decide) (Nat.le_of_ble_eq_true rfl) (Nat.le_refl _) (fun g _ K => h w g K)
abbrev v_X10_gain_0 (r : Option Value) (I' : Nat → Nat → Int32) (L' : Nat → Nat → Int64) (I : Nat → Nat → Int32) (L : Nat → Nat → Int64) (x1 : Int32) (x2 : Int32) (x3 : Int32) (x4 : Int32) : Prop := q_W kX10_gain 0 [(0, .ref 87), (1, .int x1), (2, .int x2), (3, .int x3), (4, .int x4)] [] I L r I' L'
set_option maxRecDepth 20000 in
set_option maxHeartbeats 2000000 in
theorem vc_X10_gain_0 {r : Option Value} {I' : Nat → Nat → Int32} {L' : Nat → Nat → Int64} {I : Nat → Nat → Int32} {L : Nat → Nat → Int64} {x1 : Int32} {x2 : Int32} {x3 : Int32} {x4 : Int32} (h : (∃ I1, q_C kX3_asNow [.ref 81] I L none I1 L ∧ (∃ r2 I3, q_C kX3_run [.ref 81, .int 0, .int ((up2 I1 81 8 ((x3 <<< (x1 &&& 31)) ||| (x4 <<< (x2 &&& 31)))) 12 1)] (up2 I1 81 8 ((x3 <<< (x1 &&& 31)) ||| (x4 <<< (x2 &&& 31)))) L (some (.int r2)) I3 L ∧ (vp_in (((I3 12 1) * 7) + x1) 91 ∧ (∃ r4, q_C kX7_size [.int (I3 83 ((((I3 12 1) * 7) + x1) : Int32).toNatClampNeg)] I3 L (some (.int r4)) I3 L ∧ ((x3 = 1 → (r = some (.int (r4 + 2)) ∧ I' = I3 ∧ L' = L)) ∧ (¬ x3 = 1 → (r = some (.int (r4 + 0)) ∧ I' = I3 ∧ L' = L)))))))) : v_X10_gain_0 r I' L' I L x1 x2 x3 x4 := by
  intro w g K
  have K1 := K.1
  refine g_aload_n K1 0 dX10_gain_0 rfl ?_
  refine h_getO K1 q_clX10 4 81 lyp_87 fkX10_4 rfl fl_X10_15 dX10_gain_1 ?_
  obtain ⟨I1, hct, h⟩ := h
  refine h_callV K1 (st := []) [] (hct w (gl g)) q_clX3 lyp_81 rfl ok_X3_asNow ml_X10_19 ⟨Nat.le_of_ble_eq_true rfl, Nat.le_of_ble_eq_true rfl⟩ (Nat.le_of_ble_eq_true rfl) dX10_gain_4 ?_
  show q_Gs w g 7 [(0, .ref 87), (1, .int x1), (2, .int x2), (3, .int x3), (4, .int x4)] [] (q_mm I1 L)
  refine g_aload_n K1 0 dX10_gain_7 rfl ?_
  refine h_getO K1 q_clX10 4 81 lyp_87 fkX10_4 rfl fl_X10_15 dX10_gain_8 ?_
  refine g_iload_n K1 3 dX10_gain_11 rfl ?_
  refine g_iload_n K1 1 dX10_gain_12 rfl ?_
  refine g_ishl K1 dX10_gain_13 ?_
  refine g_iload K1 4 dX10_gain_14 rfl ?_
  refine g_iload_n K1 2 dX10_gain_16 rfl ?_
  refine g_ishl K1 dX10_gain_17 ?_
  refine g_ior K1 dX10_gain_18 ?_
  refine h_putI K1 q_clX3 8 lyp_81 fkX3_8 fl_X10_65 rfl rfl rfl dX10_gain_19 ?_
  refine g_aload_n K1 0 dX10_gain_22 rfl ?_
  refine h_getO K1 q_clX10 4 81 lyp_87 fkX10_4 rfl fl_X10_15 dX10_gain_23 ?_
  refine g_iconst K1 0 dX10_gain_26 rfl ?_
  refine g_aload_n K1 0 dX10_gain_27 rfl ?_
  refine h_getO K1 q_clX10 3 12 lyp_87 fkX10_3 rfl fl_X10_9 dX10_gain_28 ?_
  refine h_getI K1 q_clX5 1 lyp_12 fkX5_1 fl_X10_36 dX10_gain_31 ?_
  obtain ⟨r2, I3, hct, h⟩ := h
  refine h_callV K1 (st := []) [.int 0, .int ((up2 I1 81 8 ((x3 <<< (x1 &&& 31)) ||| (x4 <<< (x2 &&& 31)))) 12 1)] (hct w (gl g)) q_clX3 lyp_81 rfl ok_X3_run ml_X10_39 ⟨Nat.le_of_ble_eq_true rfl, Nat.le_of_ble_eq_true rfl⟩ (Nat.le_of_ble_eq_true rfl) dX10_gain_34 ?_
  show q_Gs w g 37 [(0, .ref 87), (1, .int x1), (2, .int x2), (3, .int x3), (4, .int x4)] [.int r2] (q_mm I3 L)
  refine g_pop K1 dX10_gain_37 rfl ?_
  refine g_aload_n K1 0 dX10_gain_38 rfl ?_
  refine h_getO K1 q_clX10 4 81 lyp_87 fkX10_4 rfl fl_X10_15 dX10_gain_39 ?_
  refine h_getO K1 q_clX3 1 83 lyp_81 fkX3_1 rfl fl_X10_68 dX10_gain_42 ?_
  refine g_aload_n K1 0 dX10_gain_45 rfl ?_
  refine h_getO K1 q_clX10 3 12 lyp_87 fkX10_3 rfl fl_X10_9 dX10_gain_46 ?_
  refine h_getI K1 q_clX5 1 lyp_12 fkX5_1 fl_X10_36 dX10_gain_49 ?_
  refine g_bipush K1 7 dX10_gain_52 rfl ?_
  refine g_imul K1 dX10_gain_54 ?_
  refine g_iload_n K1 1 dX10_gain_55 rfl ?_
  refine g_iadd K1 dX10_gain_56 ?_
  obtain ⟨hg, h⟩ := h
  refine h_iaload K1 lyp_83 hg dX10_gain_57 ?_
  obtain ⟨r4, hct, h⟩ := h
  refine h_callS K1 (st := []) [.int (I3 83 ((((I3 12 1) * 7) + x1) : Int32).toNatClampNeg)] (hct w (gl g)) ok_X7_size ml_X10_72 ⟨Nat.le_of_ble_eq_true rfl, Nat.le_of_ble_eq_true rfl⟩ (Nat.le_of_ble_eq_true rfl) dX10_gain_58 ?_
  show q_Gs w g 61 [(0, .ref 87), (1, .int x1), (2, .int x2), (3, .int x3), (4, .int x4)] [.int r4] (q_mm I3 L)
  refine g_istore K1 dX10_gain_61 (by decide) rfl ?_
  refine g_iload K1 0 dX10_gain_63 rfl ?_
  refine g_iload_n K1 4 dX10_gain_65 rfl ?_
  refine g_iconst K1 1 dX10_gain_66 rfl ?_
  refine g_icmp_ne K1 74 dX10_gain_67 rfl (fun hc => ?_) (fun hc => ?_)
  · replace h := h.2 hc
    refine g_iconst K1 0 dX10_gain_74 rfl ?_
    refine g_iadd K1 dX10_gain_75 ?_
    obtain ⟨hr, hI, hL⟩ := h
    subst hr hI hL
    exact g_ireturn K rfl dX10_gain_76
  · replace h := h.1 hc
    refine g_iconst K1 2 dX10_gain_70 rfl ?_
    refine g_goto K1 75 dX10_gain_71 rfl ?_
    refine g_iadd K1 dX10_gain_75 ?_
    obtain ⟨hr, hI, hL⟩ := h
    subst hr hI hL
    exact g_ireturn K rfl dX10_gain_76
theorem c0_X10_gain {r : Option Value} {I I' : Nat → Nat → Int32} {L L' : Nat → Nat → Int64} {x1 : Int32} {x2 : Int32} {x3 : Int32} {x4 : Int32} (h : v_X10_gain_0 r I' L' I L x1 x2 x3 x4) : q_C kX10_gain [.ref 87, .int x1, .int x2, .int x3, .int x4] I L r I' L' := fun w l => q_ct (by decide) (Nat.le_of_ble_eq_true rfl) (Nat.le_refl _) (fun g _ K => h w g K)
abbrev v_X10_heaviestDraught_0 (r : Option Value) (I' : Nat → Nat → Int32) (L' : Nat → Nat → Int64) (I : Nat → Nat → Int32) (L : Nat → Nat → Int64) (x1 : Int32) : Prop := q_W kX10_heaviestDraught 0 [(0, .ref 87), (1, .int x1)] [] I L r I' L'
abbrev v_X10_heaviestDraught_14 (r : Option Value) (I' : Nat → Nat → Int32) (L' : Nat → Nat → Int64) (I : Nat → Nat → Int32) (L : Nat → Nat → Int64) (x2 : Int32) (x3 : Int32) (x4 : Int32) : Prop := q_W kX10_heaviestDraught 14 [(0, .ref 87), (2, .int x2), (3, .int x3), (4, .int x4)] [] I L r I' L'
set_option maxRecDepth 20000 in
set_option maxHeartbeats 2000000 in
theorem vc_X10_heaviestDraught_0 {r : Option Value} {I' : Nat → Nat → Int32} {L' : Nat → Nat → Int64} {I : Nat → Nat → Int32} {L : Nat → Nat → Int64} {x1 : Int32} (h : (∃ I1, q_C kX3_asNow [.ref 81] I L none I1 L ∧ (v_X10_heaviestDraught_14 r I' L' I1 L (-1) x1 0))) : v_X10_heaviestDraught_0 r I' L' I L x1 := by
  intro w g K
  have K1 := K.1
  refine g_iconst K1 (-1) dX10_heaviestDraught_0 rfl ?_
  refine g_istore_n K1 dX10_heaviestDraught_1 rfl (by decide) rfl ?_
  refine g_iload_n K1 2 dX10_heaviestDraught_2 rfl ?_
  refine g_istore_n K1 dX10_heaviestDraught_3 rfl (by decide) rfl ?_
  refine g_aload_n K1 2 dX10_heaviestDraught_4 rfl ?_
  refine h_getO K1 q_clX10 4 81 lyp_87 fkX10_4 rfl fl_X10_15 dX10_heaviestDraught_5 ?_
  obtain ⟨I1, hct, h⟩ := h
  refine h_callV K1 (st := []) [] (hct w (gl g)) q_clX3 lyp_81 rfl ok_X3_asNow ml_X10_19 ⟨Nat.le_of_ble_eq_true rfl, Nat.le_of_ble_eq_true rfl⟩ (Nat.le_of_ble_eq_true rfl) dX10_heaviestDraught_8 ?_
  show q_Gs w g 11 [(3, .int x1), (2, .int (-1)), (0, .ref 87), (1, .int x1)] [] (q_mm I1 L)
  refine g_iconst K1 0 dX10_heaviestDraught_11 rfl ?_
  refine g_istore K1 dX10_heaviestDraught_12 (by decide) rfl ?_
  exact g_perm [3, 2, 1, 0] rfl (h w g K)
set_option maxRecDepth 20000 in
set_option maxHeartbeats 2000000 in
theorem vc_X10_heaviestDraught_14 {r : Option Value} {I' : Nat → Nat → Int32} {L' : Nat → Nat → Int64} {I : Nat → Nat → Int32} {L : Nat → Nat → Int64} {x2 : Int32} {x3 : Int32} {x4 : Int32} (h : (((I 12 7) ≤ x4 → (r = some (.int x2) ∧ I' = I ∧ L' = L)) ∧ (¬ (I 12 7) ≤ x4 → (∃ r1 I2, q_C kX3_run [.ref 81, .int 0, .int ((up2 I 81 13 x4) 12 1)] (up2 I 81 13 x4) L (some (.int r1)) I2 L ∧ ((r1 ≤ x3 → (v_X10_heaviestDraught_14 r I' L' I2 L x2 x3 (x4 + 1))) ∧ (¬ r1 ≤ x3 → (v_X10_heaviestDraught_14 r I' L' I2 L x4 r1 (x4 + 1)))))))) : v_X10_heaviestDraught_14 r I' L' I L x2 x3 x4 := by
  intro w g K
  have K1 := K.1
  refine g_iload K1 3 dX10_heaviestDraught_14 rfl ?_
  refine g_aload_n K1 0 dX10_heaviestDraught_16 rfl ?_
  refine h_getO K1 q_clX10 3 12 lyp_87 fkX10_3 rfl fl_X10_9 dX10_heaviestDraught_17 ?_
  refine h_getI K1 q_clX5 7 lyp_12 fkX5_7 fl_X10_43 dX10_heaviestDraught_20 ?_
  refine g_icmp_ge K1 70 dX10_heaviestDraught_23 rfl (fun hc => ?_) (fun hc => ?_)
  · replace h := h.1 hc
    refine g_iload_n K1 1 dX10_heaviestDraught_70 rfl ?_
    obtain ⟨hr, hI, hL⟩ := h
    subst hr hI hL
    exact g_ireturn K rfl dX10_heaviestDraught_71
  · replace h := h.2 hc
    refine g_aload_n K1 0 dX10_heaviestDraught_26 rfl ?_
    refine h_getO K1 q_clX10 4 81 lyp_87 fkX10_4 rfl fl_X10_15 dX10_heaviestDraught_27 ?_
    refine g_iload K1 3 dX10_heaviestDraught_30 rfl ?_
    refine h_putI K1 q_clX3 13 lyp_81 fkX3_13 fl_X10_46 rfl rfl rfl dX10_heaviestDraught_32 ?_
    refine g_aload_n K1 0 dX10_heaviestDraught_35 rfl ?_
    refine h_getO K1 q_clX10 4 81 lyp_87 fkX10_4 rfl fl_X10_15 dX10_heaviestDraught_36 ?_
    refine g_iconst K1 0 dX10_heaviestDraught_39 rfl ?_
    refine g_aload_n K1 0 dX10_heaviestDraught_40 rfl ?_
    refine h_getO K1 q_clX10 3 12 lyp_87 fkX10_3 rfl fl_X10_9 dX10_heaviestDraught_41 ?_
    refine h_getI K1 q_clX5 1 lyp_12 fkX5_1 fl_X10_36 dX10_heaviestDraught_44 ?_
    obtain ⟨r1, I2, hct, h⟩ := h
    refine h_callV K1 (st := []) [.int 0, .int ((up2 I 81 13 x4) 12 1)] (hct w (gl g)) q_clX3 lyp_81 rfl ok_X3_run ml_X10_39 ⟨Nat.le_of_ble_eq_true rfl, Nat.le_of_ble_eq_true rfl⟩ (Nat.le_of_ble_eq_true rfl) dX10_heaviestDraught_47 ?_
    show q_Gs w g 50 [(0, .ref 87), (2, .int x2), (3, .int x3), (4, .int x4)] [.int r1] (q_mm I2 L)
    refine g_istore K1 dX10_heaviestDraught_50 (by decide) rfl ?_
    refine g_iload K1 0 dX10_heaviestDraught_52 rfl ?_
    refine g_iload_n K1 3 dX10_heaviestDraught_54 rfl ?_
    refine g_icmp_le K1 64 dX10_heaviestDraught_55 rfl (fun hc => ?_) (fun hc => ?_)
    · replace h := h.1 hc
      refine g_iinc K1 (x4 + 1) 4 dX10_heaviestDraught_64 rfl rfl (by decide) rfl ?_
      refine g_goto K1 14 dX10_heaviestDraught_67 rfl ?_
      exact g_perm [2, 3, 4, 0] rfl (h w g K)
    · replace h := h.2 hc
      refine g_iload K1 0 dX10_heaviestDraught_58 rfl ?_
      refine g_istore_n K1 dX10_heaviestDraught_60 rfl (by decide) rfl ?_
      refine g_iload K1 4 dX10_heaviestDraught_61 rfl ?_
      refine g_istore_n K1 dX10_heaviestDraught_63 rfl (by decide) rfl ?_
      refine g_iinc K1 (x4 + 1) 4 dX10_heaviestDraught_64 rfl rfl (by decide) rfl ?_
      refine g_goto K1 14 dX10_heaviestDraught_67 rfl ?_
      exact g_perm [4, 1, 2, 0] rfl (h w g K)
theorem c0_X10_heaviestDraught {r : Option Value} {I I' : Nat → Nat → Int32} {L L' : Nat → Nat → Int64} {x1 : Int32} (h : v_X10_heaviestDraught_0 r I' L' I L x1) : q_C kX10_heaviestDraught [.ref 87, .int x1] I L r I' L' := fun w l => q_ct (by decide) (Nat.le_of_ble_eq_true rfl) (Nat.le_refl _) (fun g _ K => h w g K)
abbrev v_X10_strongestGust_0 (r : Option Value) (I' : Nat → Nat → Int32) (L' : Nat → Nat → Int64) (I : Nat → Nat → Int32) (L : Nat → Nat → Int64) (x1 : Int32) (x2 : Int32) : Prop := q_W kX10_strongestGust 0 [(0, .ref 87), (1, .int x1), (2, .int x2)] [] I L r I' L'
abbrev v_X10_strongestGust_23 (r : Option Value) (I' : Nat → Nat → Int32) (L' : Nat → Nat → Int64) (I : Nat → Nat → Int32) (L : Nat → Nat → Int64) (x3 : Int32) (x4 : Int32) (x5 : Int32) : Prop := q_W kX10_strongestGust 23 [(0, .ref 87), (3, .int x3), (4, .int x4), (5, .int x5)] [] I L r I' L'
set_option maxRecDepth 20000 in
set_option maxHeartbeats 2000000 in
theorem vc_X10_strongestGust_0 {r : Option Value} {I' : Nat → Nat → Int32} {L' : Nat → Nat → Int64} {I : Nat → Nat → Int32} {L : Nat → Nat → Int64} {x1 : Int32} {x2 : Int32} (h : (∃ I1, q_C kX3_asNow [.ref 81] I L none I1 L ∧ (v_X10_strongestGust_23 r I' L' (up2 I1 81 12 x1) L (-1) x2 0))) : v_X10_strongestGust_0 r I' L' I L x1 x2 := by
  intro w g K
  have K1 := K.1
  refine g_iconst K1 (-1) dX10_strongestGust_0 rfl ?_
  refine g_istore_n K1 dX10_strongestGust_1 rfl (by decide) rfl ?_
  refine g_iload_n K1 3 dX10_strongestGust_2 rfl ?_
  refine g_istore K1 dX10_strongestGust_3 (by decide) rfl ?_
  refine g_aload_n K1 2 dX10_strongestGust_5 rfl ?_
  refine h_getO K1 q_clX10 4 81 lyp_87 fkX10_4 rfl fl_X10_15 dX10_strongestGust_6 ?_
  obtain ⟨I1, hct, h⟩ := h
  refine h_callV K1 (st := []) [] (hct w (gl g)) q_clX3 lyp_81 rfl ok_X3_asNow ml_X10_19 ⟨Nat.le_of_ble_eq_true rfl, Nat.le_of_ble_eq_true rfl⟩ (Nat.le_of_ble_eq_true rfl) dX10_strongestGust_9 ?_
  show q_Gs w g 12 [(4, .int x2), (3, .int (-1)), (0, .ref 87), (1, .int x1), (2, .int x2)] [] (q_mm I1 L)
  refine g_aload_n K1 2 dX10_strongestGust_12 rfl ?_
  refine h_getO K1 q_clX10 4 81 lyp_87 fkX10_4 rfl fl_X10_15 dX10_strongestGust_13 ?_
  refine g_iload_n K1 3 dX10_strongestGust_16 rfl ?_
  refine h_putI K1 q_clX3 12 lyp_81 fkX3_12 fl_X10_24 rfl rfl rfl dX10_strongestGust_17 ?_
  refine g_iconst K1 0 dX10_strongestGust_20 rfl ?_
  refine g_istore K1 dX10_strongestGust_21 (by decide) rfl ?_
  exact g_perm [3, 2, 1, 0] rfl (h w g K)
set_option maxRecDepth 20000 in
set_option maxHeartbeats 2000000 in
theorem vc_X10_strongestGust_23 {r : Option Value} {I' : Nat → Nat → Int32} {L' : Nat → Nat → Int64} {I : Nat → Nat → Int32} {L : Nat → Nat → Int64} {x3 : Int32} {x4 : Int32} {x5 : Int32} (h : (((I 12 4) ≤ x5 → (r = some (.int x3) ∧ I' = I ∧ L' = L)) ∧ (¬ (I 12 4) ≤ x5 → (∃ r1 I2, q_C kX3_run [.ref 81, .int 0, .int ((up2 I 81 11 x5) 12 1)] (up2 I 81 11 x5) L (some (.int r1)) I2 L ∧ ((x4 ≤ r1 → (v_X10_strongestGust_23 r I' L' I2 L x3 x4 (x5 + 1))) ∧ (¬ x4 ≤ r1 → (v_X10_strongestGust_23 r I' L' I2 L x5 r1 (x5 + 1)))))))) : v_X10_strongestGust_23 r I' L' I L x3 x4 x5 := by
  intro w g K
  have K1 := K.1
  refine g_iload K1 3 dX10_strongestGust_23 rfl ?_
  refine g_aload_n K1 0 dX10_strongestGust_25 rfl ?_
  refine h_getO K1 q_clX10 3 12 lyp_87 fkX10_3 rfl fl_X10_9 dX10_strongestGust_26 ?_
  refine h_getI K1 q_clX5 4 lyp_12 fkX5_4 fl_X10_28 dX10_strongestGust_29 ?_
  refine g_icmp_ge K1 81 dX10_strongestGust_32 rfl (fun hc => ?_) (fun hc => ?_)
  · replace h := h.1 hc
    refine g_iload_n K1 1 dX10_strongestGust_81 rfl ?_
    obtain ⟨hr, hI, hL⟩ := h
    subst hr hI hL
    exact g_ireturn K rfl dX10_strongestGust_82
  · replace h := h.2 hc
    refine g_aload_n K1 0 dX10_strongestGust_35 rfl ?_
    refine h_getO K1 q_clX10 4 81 lyp_87 fkX10_4 rfl fl_X10_15 dX10_strongestGust_36 ?_
    refine g_iload K1 3 dX10_strongestGust_39 rfl ?_
    refine h_putI K1 q_clX3 11 lyp_81 fkX3_11 fl_X10_33 rfl rfl rfl dX10_strongestGust_41 ?_
    refine g_aload_n K1 0 dX10_strongestGust_44 rfl ?_
    refine h_getO K1 q_clX10 4 81 lyp_87 fkX10_4 rfl fl_X10_15 dX10_strongestGust_45 ?_
    refine g_iconst K1 0 dX10_strongestGust_48 rfl ?_
    refine g_aload_n K1 0 dX10_strongestGust_49 rfl ?_
    refine h_getO K1 q_clX10 3 12 lyp_87 fkX10_3 rfl fl_X10_9 dX10_strongestGust_50 ?_
    refine h_getI K1 q_clX5 1 lyp_12 fkX5_1 fl_X10_36 dX10_strongestGust_53 ?_
    obtain ⟨r1, I2, hct, h⟩ := h
    refine h_callV K1 (st := []) [.int 0, .int ((up2 I 81 11 x5) 12 1)] (hct w (gl g)) q_clX3 lyp_81 rfl ok_X3_run ml_X10_39 ⟨Nat.le_of_ble_eq_true rfl, Nat.le_of_ble_eq_true rfl⟩ (Nat.le_of_ble_eq_true rfl) dX10_strongestGust_56 ?_
    show q_Gs w g 59 [(0, .ref 87), (3, .int x3), (4, .int x4), (5, .int x5)] [.int r1] (q_mm I2 L)
    refine g_istore K1 dX10_strongestGust_59 (by decide) rfl ?_
    refine g_iload K1 0 dX10_strongestGust_61 rfl ?_
    refine g_iload K1 3 dX10_strongestGust_63 rfl ?_
    refine g_icmp_ge K1 75 dX10_strongestGust_65 rfl (fun hc => ?_) (fun hc => ?_)
    · replace h := h.1 hc
      refine g_iinc K1 (x5 + 1) 4 dX10_strongestGust_75 rfl rfl (by decide) rfl ?_
      refine g_goto K1 23 dX10_strongestGust_78 rfl ?_
      exact g_perm [2, 3, 4, 0] rfl (h w g K)
    · replace h := h.2 hc
      refine g_iload K1 0 dX10_strongestGust_68 rfl ?_
      refine g_istore K1 dX10_strongestGust_70 (by decide) rfl ?_
      refine g_iload K1 4 dX10_strongestGust_72 rfl ?_
      refine g_istore_n K1 dX10_strongestGust_74 rfl (by decide) rfl ?_
      refine g_iinc K1 (x5 + 1) 4 dX10_strongestGust_75 rfl rfl (by decide) rfl ?_
      refine g_goto K1 23 dX10_strongestGust_78 rfl ?_
      exact g_perm [4, 1, 2, 0] rfl (h w g K)
theorem c0_X10_strongestGust {r : Option Value} {I I' : Nat → Nat → Int32} {L L' : Nat → Nat → Int64} {x1 : Int32} {x2 : Int32} (h : v_X10_strongestGust_0 r I' L' I L x1 x2) : q_C kX10_strongestGust [.ref 87, .int x1, .int x2] I L r I' L' := fun w l => q_ct (by decide) (Nat.le_of_ble_eq_true rfl) (Nat.le_refl _) (fun g _ K => h w g K)
abbrev v_X1_backwards_0 (r : Option Value) (I' : Nat → Nat → Int32) (L' : Nat → Nat → Int64) (I : Nat → Nat → Int32) (L : Nat → Nat → Int64) (x0 : Int32) (x1 : Int32) : Prop := q_W kX1_backwards 0 [(0, .int x0), (1, .int x1)] [] I L r I' L'
abbrev v_X1_backwards_4 (r : Option Value) (I' : Nat → Nat → Int32) (L' : Nat → Nat → Int64) (I : Nat → Nat → Int32) (L : Nat → Nat → Int64) (x0 : Int32) (x1 : Int32) (x2 : Int32) (x3 : Int32) : Prop := q_W kX1_backwards 4 [(0, .int x0), (1, .int x1), (2, .int x2), (3, .int x3)] [] I L r I' L'
set_option maxRecDepth 20000 in
set_option maxHeartbeats 2000000 in
theorem vc_X1_backwards_0 {r : Option Value} {I' : Nat → Nat → Int32} {L' : Nat → Nat → Int64} {I : Nat → Nat → Int32} {L : Nat → Nat → Int64} {x0 : Int32} {x1 : Int32} (h : (v_X1_backwards_4 r I' L' I L x0 x1 0 0)) : v_X1_backwards_0 r I' L' I L x0 x1 := by
  intro w g K
  have K1 := K.1
  refine g_iconst K1 0 dX1_backwards_0 rfl ?_
  refine g_istore_n K1 dX1_backwards_1 rfl (by decide) rfl ?_
  refine g_iconst K1 0 dX1_backwards_2 rfl ?_
  refine g_istore_n K1 dX1_backwards_3 rfl (by decide) rfl ?_
  exact g_perm [2, 3, 1, 0] rfl (h w g K)
set_option maxRecDepth 20000 in
set_option maxHeartbeats 2000000 in
theorem vc_X1_backwards_4 {r : Option Value} {I' : Nat → Nat → Int32} {L' : Nat → Nat → Int64} {I : Nat → Nat → Int32} {L : Nat → Nat → Int64} {x0 : Int32} {x1 : Int32} {x2 : Int32} {x3 : Int32} (h : ((x1 ≤ x3 → (r = some (.int x2) ∧ I' = I ∧ L' = L)) ∧ (¬ x1 ≤ x3 → ∀ z1 : Int32, z1 = (x2 ||| (((x0 >>> (x3 &&& 31)) &&& 1) <<< (((x1 - 1) - x3) &&& 31))) → (v_X1_backwards_4 r I' L' I L x0 x1 z1 (x3 + 1))))) : v_X1_backwards_4 r I' L' I L x0 x1 x2 x3 := by
  intro w g K
  have K1 := K.1
  refine g_iload_n K1 3 dX1_backwards_4 rfl ?_
  refine g_iload_n K1 1 dX1_backwards_5 rfl ?_
  refine g_icmp_ge K1 29 dX1_backwards_6 rfl (fun hc => ?_) (fun hc => ?_)
  · replace h := h.1 hc
    refine g_iload_n K1 2 dX1_backwards_29 rfl ?_
    obtain ⟨hr, hI, hL⟩ := h
    subst hr hI hL
    exact g_ireturn K rfl dX1_backwards_30
  · replace h := h.2 hc
    refine g_iload_n K1 2 dX1_backwards_9 rfl ?_
    refine g_iload_n K1 0 dX1_backwards_10 rfl ?_
    refine g_iload_n K1 3 dX1_backwards_11 rfl ?_
    refine g_ishr K1 dX1_backwards_12 ?_
    refine g_iconst K1 1 dX1_backwards_13 rfl ?_
    refine g_iand K1 dX1_backwards_14 ?_
    refine g_iload_n K1 1 dX1_backwards_15 rfl ?_
    refine g_iconst K1 1 dX1_backwards_16 rfl ?_
    refine g_isub K1 dX1_backwards_17 ?_
    refine g_iload_n K1 3 dX1_backwards_18 rfl ?_
    refine g_isub K1 dX1_backwards_19 ?_
    refine g_ishl K1 dX1_backwards_20 ?_
    refine g_ior K1 dX1_backwards_21 ?_
    refine g_nameI (fun z1 hz1 => ?_)
    replace h := h z1 hz1
    refine g_istore_n K1 dX1_backwards_22 rfl (by decide) rfl ?_
    refine g_iinc K1 (x3 + 1) 3 dX1_backwards_23 rfl rfl (by decide) rfl ?_
    refine g_goto K1 4 dX1_backwards_26 rfl ?_
    exact g_perm [2, 3, 1, 0] rfl (h w g K)
theorem c0_X1_backwards {r : Option Value} {I I' : Nat → Nat → Int32} {L L' : Nat → Nat → Int64} {x0 : Int32} {x1 : Int32} (h : v_X1_backwards_0 r I' L' I L x0 x1) : q_C kX1_backwards [.int x0, .int x1] I L r I' L' := fun w l => q_ct (by decide) (Nat.le_of_ble_eq_true rfl) (Nat.le_refl _) (fun g _ K => h w g K)
abbrev v_X1_firstChanged_0 (r : Option Value) (I' : Nat → Nat → Int32) (L' : Nat → Nat → Int64) (I : Nat → Nat → Int32) (L : Nat → Nat → Int64) (x0 : Int32) (x1 : Int32) : Prop := q_W kX1_firstChanged 0 [(0, .int x0), (1, .int x1)] [] I L r I' L'
set_option maxRecDepth 20000 in
set_option maxHeartbeats 2000000 in
theorem vc_X1_firstChanged_0 {r : Option Value} {I' : Nat → Nat → Int32} {L' : Nat → Nat → Int64} {I : Nat → Nat → Int32} {L : Nat → Nat → Int64} {x0 : Int32} {x1 : Int32} (h : ((x0 = 0 → (r = some (.int 0) ∧ I' = I ∧ L' = L)) ∧ (¬ x0 = 0 → (∃ r1, q_C kJ6_bitCount_0f7a4 [.int ((x0 &&& (-x0)) - 1)] I L (some (.int r1)) I L ∧ (r = some (.int (x1 - r1)) ∧ I' = I ∧ L' = L))))) : v_X1_firstChanged_0 r I' L' I L x0 x1 := by
  intro w g K
  have K1 := K.1
  refine g_iload_n K1 0 dX1_firstChanged_0 rfl ?_
  refine g_if_ne K1 8 dX1_firstChanged_1 rfl (fun hc => ?_) (fun hc => ?_)
  · replace h := h.2 hc
    refine g_iload_n K1 1 dX1_firstChanged_8 rfl ?_
    refine g_iload_n K1 0 dX1_firstChanged_9 rfl ?_
    refine g_iload_n K1 0 dX1_firstChanged_10 rfl ?_
    refine g_ineg K1 dX1_firstChanged_11 ?_
    refine g_iand K1 dX1_firstChanged_12 ?_
    refine g_iconst K1 1 dX1_firstChanged_13 rfl ?_
    refine g_isub K1 dX1_firstChanged_14 ?_
    obtain ⟨r1, hct, h⟩ := h
    refine h_callS K1 (st := [.int x1]) [.int ((x0 &&& (-x0)) - 1)] (hct w (gl g)) ok_J6_bitCount_0f7a4 ml_X1_38 ⟨Nat.le_of_ble_eq_true rfl, Nat.le_of_ble_eq_true rfl⟩ (Nat.le_of_ble_eq_true rfl) dX1_firstChanged_15 ?_
    show q_Gs w g 18 [(0, .int x0), (1, .int x1)] [.int r1, .int x1] (q_mm I L)
    refine g_isub K1 dX1_firstChanged_18 ?_
    obtain ⟨hr, hI, hL⟩ := h
    subst hr hI hL
    exact g_ireturn K rfl dX1_firstChanged_19
  · replace h := h.1 hc
    refine g_iconst K1 0 dX1_firstChanged_4 rfl ?_
    refine g_goto K1 19 dX1_firstChanged_5 rfl ?_
    obtain ⟨hr, hI, hL⟩ := h
    subst hr hI hL
    exact g_ireturn K rfl dX1_firstChanged_19
theorem c0_X1_firstChanged {r : Option Value} {I I' : Nat → Nat → Int32} {L L' : Nat → Nat → Int64} {x0 : Int32} {x1 : Int32} (h : v_X1_firstChanged_0 r I' L' I L x0 x1) : q_C kX1_firstChanged [.int x0, .int x1] I L r I' L' := fun w l => q_ct (by decide) (Nat.le_of_ble_eq_true rfl) (Nat.le_refl _) (fun g _ K => h w g K)
abbrev v_X1_litAfter_0 (r : Option Value) (I' : Nat → Nat → Int32) (L' : Nat → Nat → Int64) (I : Nat → Nat → Int32) (L : Nat → Nat → Int64) (x1 : Int32) : Prop := q_W kX1_litAfter 0 [(0, .ref 95), (1, .int x1)] [] I L r I' L'
set_option maxRecDepth 20000 in
set_option maxHeartbeats 2000000 in
theorem vc_X1_litAfter_0 {r : Option Value} {I' : Nat → Nat → Int32} {L' : Nat → Nat → Int64} {I : Nat → Nat → Int32} {L : Nat → Nat → Int64} {x1 : Int32} (h : (∃ I1, q_C kX3_asNow [.ref 81] I L none I1 L ∧ (∃ r2 I3, q_C kX3_run [.ref 81, .int 0, .int ((up2 I1 81 9 x1) 12 1)] (up2 I1 81 9 x1) L (some (.int r2)) I3 L ∧ (vp_in (I3 12 1) 13 ∧ (r = some (.int (I3 82 ((I3 12 1) : Int32).toNatClampNeg)) ∧ I' = I3 ∧ L' = L))))) : v_X1_litAfter_0 r I' L' I L x1 := by
  intro w g K
  have K1 := K.1
  refine g_aload_n K1 0 dX1_litAfter_0 rfl ?_
  refine h_getO K1 q_clX1 1 81 lyp_95 fkX1_1 rfl fl_X1_15 dX1_litAfter_1 ?_
  obtain ⟨I1, hct, h⟩ := h
  refine h_callV K1 (st := []) [] (hct w (gl g)) q_clX3 lyp_81 rfl ok_X3_asNow ml_X1_19 ⟨Nat.le_of_ble_eq_true rfl, Nat.le_of_ble_eq_true rfl⟩ (Nat.le_of_ble_eq_true rfl) dX1_litAfter_4 ?_
  show q_Gs w g 7 [(0, .ref 95), (1, .int x1)] [] (q_mm I1 L)
  refine g_aload_n K1 0 dX1_litAfter_7 rfl ?_
  refine h_getO K1 q_clX1 1 81 lyp_95 fkX1_1 rfl fl_X1_15 dX1_litAfter_8 ?_
  refine g_iload_n K1 1 dX1_litAfter_11 rfl ?_
  refine h_putI K1 q_clX3 9 lyp_81 fkX3_9 fl_X1_28 rfl rfl rfl dX1_litAfter_12 ?_
  refine g_aload_n K1 0 dX1_litAfter_15 rfl ?_
  refine h_getO K1 q_clX1 1 81 lyp_95 fkX1_1 rfl fl_X1_15 dX1_litAfter_16 ?_
  refine g_iconst K1 0 dX1_litAfter_19 rfl ?_
  refine g_aload_n K1 0 dX1_litAfter_20 rfl ?_
  refine h_getO K1 q_clX1 0 12 lyp_95 fkX1_0 rfl fl_X1_9 dX1_litAfter_21 ?_
  refine h_getI K1 q_clX5 1 lyp_12 fkX5_1 fl_X1_60 dX1_litAfter_24 ?_
  obtain ⟨r2, I3, hct, h⟩ := h
  refine h_callV K1 (st := []) [.int 0, .int ((up2 I1 81 9 x1) 12 1)] (hct w (gl g)) q_clX3 lyp_81 rfl ok_X3_run ml_X1_35 ⟨Nat.le_of_ble_eq_true rfl, Nat.le_of_ble_eq_true rfl⟩ (Nat.le_of_ble_eq_true rfl) dX1_litAfter_27 ?_
  show q_Gs w g 30 [(0, .ref 95), (1, .int x1)] [.int r2] (q_mm I3 L)
  refine g_pop K1 dX1_litAfter_30 rfl ?_
  refine g_aload_n K1 0 dX1_litAfter_31 rfl ?_
  refine h_getO K1 q_clX1 1 81 lyp_95 fkX1_1 rfl fl_X1_15 dX1_litAfter_32 ?_
  refine h_getO K1 q_clX3 0 82 lyp_81 fkX3_0 rfl fl_X1_56 dX1_litAfter_35 ?_
  refine g_aload_n K1 0 dX1_litAfter_38 rfl ?_
  refine h_getO K1 q_clX1 0 12 lyp_95 fkX1_0 rfl fl_X1_9 dX1_litAfter_39 ?_
  refine h_getI K1 q_clX5 1 lyp_12 fkX5_1 fl_X1_60 dX1_litAfter_42 ?_
  obtain ⟨hg, h⟩ := h
  refine h_iaload K1 lyp_82 hg dX1_litAfter_45 ?_
  obtain ⟨hr, hI, hL⟩ := h
  subst hr hI hL
  exact g_ireturn K rfl dX1_litAfter_46
theorem c0_X1_litAfter {r : Option Value} {I I' : Nat → Nat → Int32} {L L' : Nat → Nat → Int64} {x1 : Int32} (h : v_X1_litAfter_0 r I' L' I L x1) : q_C kX1_litAfter [.ref 95, .int x1] I L r I' L' := fun w l => q_ct (by decide) (Nat.le_of_ble_eq_true rfl) (Nat.le_refl _) (fun g _ K => h w g K)
abbrev v_X1_power_0 (r : Option Value) (I' : Nat → Nat → Int32) (L' : Nat → Nat → Int64) (I : Nat → Nat → Int32) (L : Nat → Nat → Int64) (x0 : Int32) (x1 : Int32) : Prop := q_W kX1_power 0 [(0, .int x0), (1, .int x1)] [] I L r I' L'
abbrev v_X1_power_5 (r : Option Value) (I' : Nat → Nat → Int32) (L' : Nat → Nat → Int64) (I : Nat → Nat → Int32) (L : Nat → Nat → Int64) (x0 : Int32) (x1 : Int32) (x2 : Int64) (x4 : Int32) : Prop := q_W kX1_power 5 [(0, .int x0), (1, .int x1), (2, .long x2), (4, .int x4)] [] I L r I' L'
set_option maxRecDepth 20000 in
set_option maxHeartbeats 2000000 in
theorem vc_X1_power_0 {r : Option Value} {I' : Nat → Nat → Int32} {L' : Nat → Nat → Int64} {I : Nat → Nat → Int32} {L : Nat → Nat → Int64} {x0 : Int32} {x1 : Int32} (h : (v_X1_power_5 r I' L' I L x0 x1 1 0)) : v_X1_power_0 r I' L' I L x0 x1 := by
  intro w g K
  have K1 := K.1
  refine g_lconst K1 1 dX1_power_0 rfl ?_
  refine g_lstore_n K1 dX1_power_1 rfl (by decide) rfl ?_
  refine g_iconst K1 0 dX1_power_2 rfl ?_
  refine g_istore K1 dX1_power_3 (by decide) rfl ?_
  exact g_perm [2, 3, 1, 0] rfl (h w g K)
set_option maxRecDepth 20000 in
set_option maxHeartbeats 2000000 in
theorem vc_X1_power_5 {r : Option Value} {I' : Nat → Nat → Int32} {L' : Nat → Nat → Int64} {I : Nat → Nat → Int32} {L : Nat → Nat → Int64} {x0 : Int32} {x1 : Int32} {x2 : Int64} {x4 : Int32} (h : ((x1 ≤ x4 → (r = some (.long x2) ∧ I' = I ∧ L' = L)) ∧ (¬ x1 ≤ x4 → (v_X1_power_5 r I' L' I L x0 x1 (x2 * x0.toInt64) (x4 + 1))))) : v_X1_power_5 r I' L' I L x0 x1 x2 x4 := by
  intro w g K
  have K1 := K.1
  refine g_iload K1 3 dX1_power_5 rfl ?_
  refine g_iload_n K1 1 dX1_power_7 rfl ?_
  refine g_icmp_ge K1 22 dX1_power_8 rfl (fun hc => ?_) (fun hc => ?_)
  · replace h := h.1 hc
    refine g_lload_n K1 2 dX1_power_22 rfl ?_
    obtain ⟨hr, hI, hL⟩ := h
    subst hr hI hL
    exact g_lreturn K rfl dX1_power_23
  · replace h := h.2 hc
    refine g_lload_n K1 2 dX1_power_11 rfl ?_
    refine g_iload_n K1 0 dX1_power_12 rfl ?_
    refine g_i2l K1 dX1_power_13 ?_
    refine g_lmul K1 dX1_power_14 ?_
    refine g_lstore_n K1 dX1_power_15 rfl (by decide) rfl ?_
    refine g_iinc K1 (x4 + 1) 3 dX1_power_16 rfl rfl (by decide) rfl ?_
    refine g_goto K1 5 dX1_power_19 rfl ?_
    exact g_perm [2, 3, 1, 0] rfl (h w g K)
theorem c0_X1_power {r : Option Value} {I I' : Nat → Nat → Int32} {L L' : Nat → Nat → Int64} {x0 : Int32} {x1 : Int32} (h : v_X1_power_0 r I' L' I L x0 x1) : q_C kX1_power [.int x0, .int x1] I L r I' L' := fun w l => q_ct (by decide) (Nat.le_of_ble_eq_true rfl) (Nat.le_refl _) (fun g _ K => h w g K)
abbrev v_X1_silenceDrawn_0 (r : Option Value) (I' : Nat → Nat → Int32) (L' : Nat → Nat → Int64) (I : Nat → Nat → Int32) (L : Nat → Nat → Int64) (x1 : Int64) : Prop := q_W kX1_silenceDrawn 0 [(0, .ref 95), (1, .long x1)] [] I L r I' L'
abbrev v_X1_silenceDrawn_8 (r : Option Value) (I' : Nat → Nat → Int32) (L' : Nat → Nat → Int64) (I : Nat → Nat → Int32) (L : Nat → Nat → Int64) (x3 : Int64) (x5 : Int32) (x6 : Int32) : Prop := q_W kX1_silenceDrawn 8 [(0, .ref 95), (3, .long x3), (5, .int x5), (6, .int x6)] [] I L r I' L'
set_option maxRecDepth 20000 in
set_option maxHeartbeats 2000000 in
theorem vc_X1_silenceDrawn_0 {r : Option Value} {I' : Nat → Nat → Int32} {L' : Nat → Nat → Int64} {I : Nat → Nat → Int32} {L : Nat → Nat → Int64} {x1 : Int64} (h : (v_X1_silenceDrawn_8 r I' L' I L x1 0 0)) : v_X1_silenceDrawn_0 r I' L' I L x1 := by
  intro w g K
  have K1 := K.1
  refine g_lload_n K1 1 dX1_silenceDrawn_0 rfl ?_
  refine g_lstore_n K1 dX1_silenceDrawn_1 rfl (by decide) rfl ?_
  refine g_iconst K1 0 dX1_silenceDrawn_2 rfl ?_
  refine g_istore K1 dX1_silenceDrawn_3 (by decide) rfl ?_
  refine g_iconst K1 0 dX1_silenceDrawn_5 rfl ?_
  refine g_istore K1 dX1_silenceDrawn_6 (by decide) rfl ?_
  exact g_perm [3, 2, 1, 0] rfl (h w g K)
set_option maxRecDepth 20000 in
set_option maxHeartbeats 2000000 in
theorem vc_X1_silenceDrawn_8 {r : Option Value} {I' : Nat → Nat → Int32} {L' : Nat → Nat → Int64} {I : Nat → Nat → Int32} {L : Nat → Nat → Int64} {x3 : Int64} {x5 : Int32} {x6 : Int32} (h : (((I 12 1) ≤ x6 → (r = some (.int x5) ∧ I' = I ∧ L' = L)) ∧ (¬ (I 12 1) ≤ x6 → ∀ z1 : Int64, z1 = (((1103515245 * x3) + 12345) - ((1103515245 * x3) + 12345) / 2147483648 * 2147483648) → ((0 ≤ (lg_cmp ((z1 / 65536) - (z1 / 65536) / 10 * 10) ((I 12 3) : Int32).toInt64) → (v_X1_silenceDrawn_8 r I' L' I L z1 x5 (x6 + 1))) ∧ (¬ 0 ≤ (lg_cmp ((z1 / 65536) - (z1 / 65536) / 10 * 10) ((I 12 3) : Int32).toInt64) → (v_X1_silenceDrawn_8 r I' L' I L z1 (x5 ||| ((1 : Int32) <<< (x6 &&& 31))) (x6 + 1))))))) : v_X1_silenceDrawn_8 r I' L' I L x3 x5 x6 := by
  intro w g K
  have K1 := K.1
  refine g_iload K1 3 dX1_silenceDrawn_8 rfl ?_
  refine g_aload_n K1 0 dX1_silenceDrawn_10 rfl ?_
  refine h_getO K1 q_clX1 0 12 lyp_95 fkX1_0 rfl fl_X1_9 dX1_silenceDrawn_11 ?_
  refine h_getI K1 q_clX5 1 lyp_12 fkX5_1 fl_X1_60 dX1_silenceDrawn_14 ?_
  refine g_icmp_ge K1 70 dX1_silenceDrawn_17 rfl (fun hc => ?_) (fun hc => ?_)
  · replace h := h.1 hc
    refine g_iload K1 2 dX1_silenceDrawn_70 rfl ?_
    obtain ⟨hr, hI, hL⟩ := h
    subst hr hI hL
    exact g_ireturn K rfl dX1_silenceDrawn_72
  · replace h := h.2 hc
    refine g_ldc2_w K1 1103515245 dX1_silenceDrawn_20 cn_X1_63 ?_
    refine g_lload_n K1 1 dX1_silenceDrawn_23 rfl ?_
    refine g_lmul K1 dX1_silenceDrawn_24 ?_
    refine g_ldc2_w K1 12345 dX1_silenceDrawn_25 cn_X1_65 ?_
    refine g_ladd K1 dX1_silenceDrawn_28 ?_
    refine g_ldc2_w K1 2147483648 dX1_silenceDrawn_29 cn_X1_67 ?_
    refine g_lrem K1 dX1_silenceDrawn_32 (by decide) ?_
    refine g_nameL (fun z1 hz1 => ?_)
    replace h := h z1 hz1
    refine g_lstore_n K1 dX1_silenceDrawn_33 rfl (by decide) rfl ?_
    refine g_lload_n K1 0 dX1_silenceDrawn_34 rfl ?_
    refine g_ldc2_w K1 65536 dX1_silenceDrawn_35 cn_X1_69 ?_
    refine g_ldiv K1 dX1_silenceDrawn_38 (by decide) ?_
    refine g_ldc2_w K1 10 dX1_silenceDrawn_39 cn_X1_71 ?_
    refine g_lrem K1 dX1_silenceDrawn_42 (by decide) ?_
    refine g_aload_n K1 1 dX1_silenceDrawn_43 rfl ?_
    refine h_getO K1 q_clX1 0 12 lyp_95 fkX1_0 rfl fl_X1_9 dX1_silenceDrawn_44 ?_
    refine h_getI K1 q_clX5 3 lyp_12 fkX5_3 fl_X1_44 dX1_silenceDrawn_47 ?_
    refine g_i2l K1 dX1_silenceDrawn_50 ?_
    refine g_lcmp K1 dX1_silenceDrawn_51 ?_
    refine g_if_ge K1 64 dX1_silenceDrawn_52 rfl (fun hc => ?_) (fun hc => ?_)
    · replace h := h.1 hc
      refine g_iinc K1 (x6 + 1) 3 dX1_silenceDrawn_64 rfl rfl (by decide) rfl ?_
      refine g_goto K1 8 dX1_silenceDrawn_67 rfl ?_
      exact g_perm [2, 1, 3, 0] rfl (h w g K)
    · replace h := h.2 hc
      refine g_iload K1 2 dX1_silenceDrawn_55 rfl ?_
      refine g_iconst K1 1 dX1_silenceDrawn_57 rfl ?_
      refine g_iload K1 3 dX1_silenceDrawn_58 rfl ?_
      refine g_ishl K1 dX1_silenceDrawn_60 ?_
      refine g_ior K1 dX1_silenceDrawn_61 ?_
      refine g_istore K1 dX1_silenceDrawn_62 (by decide) rfl ?_
      refine g_iinc K1 (x6 + 1) 3 dX1_silenceDrawn_64 rfl rfl (by decide) rfl ?_
      refine g_goto K1 8 dX1_silenceDrawn_67 rfl ?_
      exact g_perm [3, 2, 1, 0] rfl (h w g K)
theorem c0_X1_silenceDrawn {r : Option Value} {I I' : Nat → Nat → Int32} {L L' : Nat → Nat → Int64} {x1 : Int64} (h : v_X1_silenceDrawn_0 r I' L' I L x1) : q_C kX1_silenceDrawn [.ref 95, .long x1] I L r I' L' := fun w l => q_ct (by decide) (Nat.le_of_ble_eq_true rfl) (Nat.le_refl _) (fun g _ K => h w g K)
abbrev v_X1_weighed_0 (r : Option Value) (I' : Nat → Nat → Int32) (L' : Nat → Nat → Int64) (I : Nat → Nat → Int32) (L : Nat → Nat → Int64) (x1 : Int32) (x2 : Int32) : Prop := q_W kX1_weighed 0 [(0, .ref 95), (1, .int x1), (2, .int x2)] [] I L r I' L'
abbrev v_X1_weighed_17 (r : Option Value) (I' : Nat → Nat → Int32) (L' : Nat → Nat → Int64) (I : Nat → Nat → Int32) (L : Nat → Nat → Int64) (x2 : Int32) (x3 : Int32) (x4 : Int64) (x6 : Int32) : Prop := q_W kX1_weighed 17 [(0, .ref 95), (2, .int x2), (3, .int x3), (4, .long x4), (6, .int x6)] [] I L r I' L'
set_option maxRecDepth 20000 in
set_option maxHeartbeats 2000000 in
theorem vc_X1_weighed_0 {r : Option Value} {I' : Nat → Nat → Int32} {L' : Nat → Nat → Int64} {I : Nat → Nat → Int32} {L : Nat → Nat → Int64} {x1 : Int32} {x2 : Int32} (h : (∃ I1, q_C kX3_asNow [.ref 81] I L none I1 L ∧ (v_X1_weighed_17 r I' L' I1 L x2 (x1 + 1) 0 0))) : v_X1_weighed_0 r I' L' I L x1 x2 := by
  intro w g K
  have K1 := K.1
  refine g_iload_n K1 1 dX1_weighed_0 rfl ?_
  refine g_iconst K1 1 dX1_weighed_1 rfl ?_
  refine g_iadd K1 dX1_weighed_2 ?_
  refine g_istore_n K1 dX1_weighed_3 rfl (by decide) rfl ?_
  refine g_lconst K1 0 dX1_weighed_4 rfl ?_
  refine g_lstore K1 dX1_weighed_5 (by decide) rfl ?_
  refine g_aload_n K1 2 dX1_weighed_7 rfl ?_
  refine h_getO K1 q_clX1 1 81 lyp_95 fkX1_1 rfl fl_X1_15 dX1_weighed_8 ?_
  obtain ⟨I1, hct, h⟩ := h
  refine h_callV K1 (st := []) [] (hct w (gl g)) q_clX3 lyp_81 rfl ok_X3_asNow ml_X1_19 ⟨Nat.le_of_ble_eq_true rfl, Nat.le_of_ble_eq_true rfl⟩ (Nat.le_of_ble_eq_true rfl) dX1_weighed_11 ?_
  show q_Gs w g 14 [(4, .long 0), (3, .int (x1 + 1)), (0, .ref 95), (1, .int x1), (2, .int x2)] [] (q_mm I1 L)
  refine g_iconst K1 0 dX1_weighed_14 rfl ?_
  refine g_istore K1 dX1_weighed_15 (by decide) rfl ?_
  exact g_perm [3, 5, 2, 1, 0] rfl (h w g K)
set_option maxRecDepth 20000 in
set_option maxHeartbeats 2000000 in
theorem vc_X1_weighed_17 {r : Option Value} {I' : Nat → Nat → Int32} {L' : Nat → Nat → Int64} {I : Nat → Nat → Int32} {L : Nat → Nat → Int64} {x2 : Int32} {x3 : Int32} {x4 : Int64} {x6 : Int32} (h : ((((1 : Int32) <<< (x3 &&& 31)) ≤ x6 → (r = some (.long x4) ∧ I' = I ∧ L' = L)) ∧ (¬ ((1 : Int32) <<< (x3 &&& 31)) ≤ x6 → (∃ r1, q_C kX1_backwards [.int x6, .int x3] I L (some (.int r1)) I L ∧ (∃ r2, q_C kX1_firstChanged [.int x6, .int x3] (up2 I 81 9 r1) L (some (.int r2)) (up2 I 81 9 r1) L ∧ (∃ r3 I4, q_C kX3_run [.ref 81, .int r2, .int x3] (up2 I 81 9 r1) L (some (.int r3)) I4 L ∧ (∃ r5, q_C kJ6_bitCount_0f7a4 [.int x6] I4 L (some (.int r5)) I4 L ∧ (∃ r6, q_C kX1_power [.int (I4 12 3), .int r5] I4 L (some (.long r6)) I4 L ∧ (∃ r7, q_C kX1_power [.int (10 - (I4 12 3)), .int (x3 - r5)] I4 L (some (.long r7)) I4 L ∧ ((x2 = (-1) → (∃ r9, q_C kX3_lettersSaid [.ref 81, .int x3] I4 L (some (.int r9)) I4 L ∧ (v_X1_weighed_17 r I' L' I4 L x2 x3 (x4 + ((r6 * r7) * r9.toInt64)) (x6 + 1)))) ∧ (¬ x2 = (-1) → (vp_in x3 13 ∧ ∀ z8 : Int64, z8 = (x4 + ((r6 * r7) * ((((I4 82 x3.toNatClampNeg) >>> (x2 &&& 31)) &&& 1) : Int32).toInt64)) → (v_X1_weighed_17 r I' L' I4 L x2 x3 z8 (x6 + 1)))))))))))))) : v_X1_weighed_17 r I' L' I L x2 x3 x4 x6 := by
  intro w g K
  have K1 := K.1
  refine g_iload K1 4 dX1_weighed_17 rfl ?_
  refine g_iconst K1 1 dX1_weighed_19 rfl ?_
  refine g_iload_n K1 2 dX1_weighed_20 rfl ?_
  refine g_ishl K1 dX1_weighed_21 ?_
  refine g_icmp_ge K1 136 dX1_weighed_22 rfl (fun hc => ?_) (fun hc => ?_)
  · replace h := h.1 hc
    refine g_lload K1 3 dX1_weighed_136 rfl ?_
    obtain ⟨hr, hI, hL⟩ := h
    subst hr hI hL
    exact g_lreturn K rfl dX1_weighed_138
  · replace h := h.2 hc
    refine g_aload_n K1 0 dX1_weighed_25 rfl ?_
    refine h_getO K1 q_clX1 1 81 lyp_95 fkX1_1 rfl fl_X1_15 dX1_weighed_26 ?_
    refine g_iload K1 4 dX1_weighed_29 rfl ?_
    refine g_iload_n K1 2 dX1_weighed_31 rfl ?_
    obtain ⟨r1, hct, h⟩ := h
    refine h_callS K1 (st := [.ref 81]) [.int x6, .int x3] (hct w (gl g)) ok_X1_backwards ml_X1_24 ⟨Nat.le_of_ble_eq_true rfl, Nat.le_of_ble_eq_true rfl⟩ (Nat.le_of_ble_eq_true rfl) dX1_weighed_32 ?_
    show q_Gs w g 35 [(0, .ref 95), (2, .int x2), (3, .int x3), (4, .long x4), (6, .int x6)] [.int r1, .ref 81] (q_mm I L)
    refine h_putI K1 q_clX3 9 lyp_81 fkX3_9 fl_X1_28 rfl rfl rfl dX1_weighed_35 ?_
    refine g_aload_n K1 0 dX1_weighed_38 rfl ?_
    refine h_getO K1 q_clX1 1 81 lyp_95 fkX1_1 rfl fl_X1_15 dX1_weighed_39 ?_
    refine g_iload K1 4 dX1_weighed_42 rfl ?_
    refine g_iload_n K1 2 dX1_weighed_44 rfl ?_
    obtain ⟨r2, hct, h⟩ := h
    refine h_callS K1 (st := [.ref 81]) [.int x6, .int x3] (hct w (gl g)) ok_X1_firstChanged ml_X1_32 ⟨Nat.le_of_ble_eq_true rfl, Nat.le_of_ble_eq_true rfl⟩ (Nat.le_of_ble_eq_true rfl) dX1_weighed_45 ?_
    show q_Gs w g 48 [(0, .ref 95), (2, .int x2), (3, .int x3), (4, .long x4), (6, .int x6)] [.int r2, .ref 81] (q_mm (up2 I 81 9 r1) L)
    refine g_iload_n K1 2 dX1_weighed_48 rfl ?_
    obtain ⟨r3, I4, hct, h⟩ := h
    refine h_callV K1 (st := []) [.int r2, .int x3] (hct w (gl g)) q_clX3 lyp_81 rfl ok_X3_run ml_X1_35 ⟨Nat.le_of_ble_eq_true rfl, Nat.le_of_ble_eq_true rfl⟩ (Nat.le_of_ble_eq_true rfl) dX1_weighed_49 ?_
    show q_Gs w g 52 [(0, .ref 95), (2, .int x2), (3, .int x3), (4, .long x4), (6, .int x6)] [.int r3] (q_mm I4 L)
    refine g_pop K1 dX1_weighed_52 rfl ?_
    refine g_iload K1 4 dX1_weighed_53 rfl ?_
    obtain ⟨r5, hct, h⟩ := h
    refine h_callS K1 (st := []) [.int x6] (hct w (gl g)) ok_J6_bitCount_0f7a4 ml_X1_38 ⟨Nat.le_of_ble_eq_true rfl, Nat.le_of_ble_eq_true rfl⟩ (Nat.le_of_ble_eq_true rfl) dX1_weighed_55 ?_
    show q_Gs w g 58 [(0, .ref 95), (2, .int x2), (3, .int x3), (4, .long x4), (6, .int x6)] [.int r5] (q_mm I4 L)
    refine g_istore K1 dX1_weighed_58 (by decide) rfl ?_
    refine g_aload_n K1 1 dX1_weighed_60 rfl ?_
    refine h_getO K1 q_clX1 0 12 lyp_95 fkX1_0 rfl fl_X1_9 dX1_weighed_61 ?_
    refine h_getI K1 q_clX5 3 lyp_12 fkX5_3 fl_X1_44 dX1_weighed_64 ?_
    refine g_iload K1 0 dX1_weighed_67 rfl ?_
    obtain ⟨r6, hct, h⟩ := h
    refine h_callS K1 (st := []) [.int (I4 12 3), .int r5] (hct w (gl g)) ok_X1_power ml_X1_49 ⟨Nat.le_of_ble_eq_true rfl, Nat.le_of_ble_eq_true rfl⟩ (Nat.le_of_ble_eq_true rfl) dX1_weighed_69 ?_
    show q_Gs w g 72 [(7, .int r5), (0, .ref 95), (2, .int x2), (3, .int x3), (4, .long x4), (6, .int x6)] [.long r6] (q_mm I4 L)
    refine g_bipush K1 10 dX1_weighed_72 rfl ?_
    refine g_aload_n K1 1 dX1_weighed_74 rfl ?_
    refine h_getO K1 q_clX1 0 12 lyp_95 fkX1_0 rfl fl_X1_9 dX1_weighed_75 ?_
    refine h_getI K1 q_clX5 3 lyp_12 fkX5_3 fl_X1_44 dX1_weighed_78 ?_
    refine g_isub K1 dX1_weighed_81 ?_
    refine g_iload_n K1 3 dX1_weighed_82 rfl ?_
    refine g_iload K1 0 dX1_weighed_83 rfl ?_
    refine g_isub K1 dX1_weighed_85 ?_
    obtain ⟨r7, hct, h⟩ := h
    refine h_callS K1 (st := [.long r6]) [.int (10 - (I4 12 3)), .int (x3 - r5)] (hct w (gl g)) ok_X1_power ml_X1_49 ⟨Nat.le_of_ble_eq_true rfl, Nat.le_of_ble_eq_true rfl⟩ (Nat.le_of_ble_eq_true rfl) dX1_weighed_86 ?_
    show q_Gs w g 89 [(7, .int r5), (0, .ref 95), (2, .int x2), (3, .int x3), (4, .long x4), (6, .int x6)] [.long r7, .long r6] (q_mm I4 L)
    refine g_lmul K1 dX1_weighed_89 ?_
    refine g_lstore K1 dX1_weighed_90 (by decide) rfl ?_
    refine g_lload K1 5 dX1_weighed_92 rfl ?_
    refine g_lload K1 0 dX1_weighed_94 rfl ?_
    refine g_iload_n K1 3 dX1_weighed_96 rfl ?_
    refine g_iconst K1 (-1) dX1_weighed_97 rfl ?_
    refine g_icmp_ne K1 112 dX1_weighed_98 rfl (fun hc => ?_) (fun hc => ?_)
    · replace h := h.2 hc
      refine g_aload_n K1 2 dX1_weighed_112 rfl ?_
      refine h_getO K1 q_clX1 1 81 lyp_95 fkX1_1 rfl fl_X1_15 dX1_weighed_113 ?_
      refine h_getO K1 q_clX3 0 82 lyp_81 fkX3_0 rfl fl_X1_56 dX1_weighed_116 ?_
      refine g_iload_n K1 4 dX1_weighed_119 rfl ?_
      obtain ⟨hg, h⟩ := h
      refine h_iaload K1 lyp_82 hg dX1_weighed_120 ?_
      refine g_iload_n K1 3 dX1_weighed_121 rfl ?_
      refine g_ishr K1 dX1_weighed_122 ?_
      refine g_iconst K1 1 dX1_weighed_123 rfl ?_
      refine g_iand K1 dX1_weighed_124 ?_
      refine g_i2l K1 dX1_weighed_125 ?_
      refine g_lmul K1 dX1_weighed_126 ?_
      refine g_ladd K1 dX1_weighed_127 ?_
      refine g_nameL (fun z8 hz8 => ?_)
      replace h := h z8 hz8
      refine g_lstore K1 dX1_weighed_128 (by decide) rfl ?_
      refine g_iinc K1 (x6 + 1) 6 dX1_weighed_130 rfl rfl (by decide) rfl ?_
      refine g_goto K1 17 dX1_weighed_133 rfl ?_
      exact g_perm [4, 5, 6, 1, 0] rfl (h w g K)
    · replace h := h.1 hc
      refine g_aload_n K1 2 dX1_weighed_101 rfl ?_
      refine h_getO K1 q_clX1 1 81 lyp_95 fkX1_1 rfl fl_X1_15 dX1_weighed_102 ?_
      refine g_iload_n K1 4 dX1_weighed_105 rfl ?_
      obtain ⟨r9, hct, h⟩ := h
      refine h_callV K1 (st := [.long (r6 * r7), .long x4]) [.int x3] (hct w (gl g)) q_clX3 lyp_81 rfl ok_X3_lettersSaid ml_X1_53 ⟨Nat.le_of_ble_eq_true rfl, Nat.le_of_ble_eq_true rfl⟩ (Nat.le_of_ble_eq_true rfl) dX1_weighed_106 ?_
      show q_Gs w g 109 [(8, .long (r6 * r7)), (7, .int r5), (0, .ref 95), (2, .int x2), (3, .int x3), (4, .long x4), (6, .int x6)] [.int r9, .long (r6 * r7), .long x4] (q_mm I4 L)
      refine g_goto K1 125 dX1_weighed_109 rfl ?_
      refine g_i2l K1 dX1_weighed_125 ?_
      refine g_lmul K1 dX1_weighed_126 ?_
      refine g_ladd K1 dX1_weighed_127 ?_
      refine g_lstore K1 dX1_weighed_128 (by decide) rfl ?_
      refine g_iinc K1 (x6 + 1) 6 dX1_weighed_130 rfl rfl (by decide) rfl ?_
      refine g_goto K1 17 dX1_weighed_133 rfl ?_
      exact g_perm [4, 5, 6, 1, 0] rfl (h w g K)
theorem c0_X1_weighed {r : Option Value} {I I' : Nat → Nat → Int32} {L L' : Nat → Nat → Int64} {x1 : Int32} {x2 : Int32} (h : v_X1_weighed_0 r I' L' I L x1 x2) : q_C kX1_weighed [.ref 95, .int x1, .int x2] I L r I' L' := fun w l => q_ct (by decide) (Nat.le_of_ble_eq_true rfl) (Nat.le_refl _) (fun g _ K => h w g K)
abbrev v_X2_areSound_0 (r : Option Value) (I' : Nat → Nat → Int32) (L' : Nat → Nat → Int64) (I : Nat → Nat → Int32) (L : Nat → Nat → Int64) (x1 : Int32) : Prop := q_W kX2_areSound 0 [(0, .ref 92), (1, .int x1)] [] I L r I' L'
abbrev v_X2_areSound_31 (r : Option Value) (I' : Nat → Nat → Int32) (L' : Nat → Nat → Int64) (I : Nat → Nat → Int32) (L : Nat → Nat → Int64) (x2 : Int32) (x3 : Nat) (x4 : Int32) : Prop := q_W kX2_areSound 31 [(0, .ref 92), (2, .int x2), (3, .ref x3), (4, .int x4)] [] I L r I' L'
abbrev v_X2_areSound_69 (r : Option Value) (I' : Nat → Nat → Int32) (L' : Nat → Nat → Int64) (I : Nat → Nat → Int32) (L : Nat → Nat → Int64) (x2 : Int32) (x3 : Nat) (x4 : Int32) (s0 : Int32) : Prop := q_W kX2_areSound 69 [(0, .ref 92), (2, .int x2), (3, .ref x3), (4, .int x4)] [.int s0] I L r I' L'
abbrev v_X2_areSound_105 (r : Option Value) (I' : Nat → Nat → Int32) (L' : Nat → Nat → Int64) (I : Nat → Nat → Int32) (L : Nat → Nat → Int64) (x2 : Int32) (x3 : Nat) (x4 : Int32) (x5 : Int32) (s0 : Int32) : Prop := q_W kX2_areSound 105 [(0, .ref 92), (2, .int x2), (3, .ref x3), (4, .int x4), (5, .int x5)] [.int s0] I L r I' L'
abbrev v_X2_areSound_136 (r : Option Value) (I' : Nat → Nat → Int32) (L' : Nat → Nat → Int64) (I : Nat → Nat → Int32) (L : Nat → Nat → Int64) (x2 : Int32) (x3 : Nat) (x4 : Int32) (x5 : Int32) (x6 : Int32) (s0 : Int32) : Prop := q_W kX2_areSound 136 [(0, .ref 92), (2, .int x2), (3, .ref x3), (4, .int x4), (5, .int x5), (6, .int x6)] [.int s0] I L r I' L'
set_option maxRecDepth 20000 in
set_option maxHeartbeats 2000000 in
theorem vc_X2_areSound_0 {r : Option Value} {I' : Nat → Nat → Int32} {L' : Nat → Nat → Int64} {I : Nat → Nat → Int32} {L : Nat → Nat → Int64} {x1 : Int32} (h : (vp_in x1 4 ∧ (vp_in x1 4 ∧ ((((I 27 x1.toNatClampNeg) - (I 27 x1.toNatClampNeg) / 3 * 3) = 0 → (v_X2_areSound_31 r I' L' I L (I 27 x1.toNatClampNeg) (29 + x1.toNatClampNeg) 0)) ∧ (¬ ((I 27 x1.toNatClampNeg) - (I 27 x1.toNatClampNeg) / 3 * 3) = 0 → (r = some (.int 0) ∧ I' = I ∧ L' = L)))))) : v_X2_areSound_0 r I' L' I L x1 := by
  intro w g K
  have K1 := K.1
  refine g_aload_n K1 0 dX2_areSound_0 rfl ?_
  refine h_getO K1 q_clX2 6 25 lyp_92 fkX2_6 rfl fl_X2_26 dX2_areSound_1 ?_
  refine h_getO K1 q_clX9 1 27 lyp_25 fkX9_1 rfl fl_X2_30 dX2_areSound_4 ?_
  refine g_iload_n K1 1 dX2_areSound_7 rfl ?_
  obtain ⟨hg, h⟩ := h
  refine h_iaload K1 lyp_27 hg dX2_areSound_8 ?_
  refine g_istore_n K1 dX2_areSound_9 rfl (by decide) rfl ?_
  refine g_aload_n K1 1 dX2_areSound_10 rfl ?_
  refine h_getO K1 q_clX2 6 25 lyp_92 fkX2_6 rfl fl_X2_26 dX2_areSound_11 ?_
  refine h_getO K1 q_clX9 2 28 lyp_25 fkX9_2 rfl fl_X2_35 dX2_areSound_14 ?_
  refine g_iload_n K1 2 dX2_areSound_17 rfl ?_
  obtain ⟨hg, h⟩ := h
  refine h_aaloadLL K1 hg dX2_areSound_18 ?_
  refine g_astore_n K1 dX2_areSound_19 rfl (by decide) rfl ?_
  refine g_iload_n K1 1 dX2_areSound_20 rfl ?_
  refine g_iconst K1 3 dX2_areSound_21 rfl ?_
  refine g_irem K1 dX2_areSound_22 (by decide) ?_
  refine g_if_eq K1 28 dX2_areSound_23 rfl (fun hc => ?_) (fun hc => ?_)
  · replace h := h.1 hc
    refine g_iconst K1 0 dX2_areSound_28 rfl ?_
    refine g_istore K1 dX2_areSound_29 (by decide) rfl ?_
    exact g_perm [3, 2, 1, 0] rfl (h w g K)
  · replace h := h.2 hc
    refine g_iconst K1 0 dX2_areSound_26 rfl ?_
    obtain ⟨hr, hI, hL⟩ := h
    subst hr hI hL
    exact g_zreturn K rfl (by decide) dX2_areSound_27
set_option maxRecDepth 20000 in
set_option maxHeartbeats 2000000 in
theorem vc_X2_areSound_31 {r : Option Value} {I' : Nat → Nat → Int32} {L' : Nat → Nat → Int64} {I : Nat → Nat → Int32} {L : Nat → Nat → Int64} {x2 : Int32} {x3 : Nat} {x4 : Int32} (h : ((x2 ≤ (x4 + 2) → (r = some (.int 1) ∧ I' = I ∧ L' = L)) ∧ (¬ x2 ≤ (x4 + 2) → ((29 ≤ x3 ∧ x3 < 33) ∧ vp_in x4 60 ∧ (((lg_cmp (L x3 x4.toNatClampNeg) 0) < 0 → (v_X2_areSound_69 r I' L' I L x2 x3 x4 0)) ∧ (¬ (lg_cmp (L x3 x4.toNatClampNeg) 0) < 0 → ((29 ≤ x3 ∧ x3 < 33) ∧ vp_in x4 60 ∧ ((0 ≤ (lg_cmp (L x3 x4.toNatClampNeg) ((I 12 4) : Int32).toInt64) → (v_X2_areSound_69 r I' L' I L x2 x3 x4 0)) ∧ (¬ 0 ≤ (lg_cmp (L x3 x4.toNatClampNeg) ((I 12 4) : Int32).toInt64) → (v_X2_areSound_69 r I' L' I L x2 x3 x4 1)))))))))) : v_X2_areSound_31 r I' L' I L x2 x3 x4 := by
  intro w g K
  have K1 := K.1
  refine g_iload K1 3 dX2_areSound_31 rfl ?_
  refine g_iconst K1 2 dX2_areSound_33 rfl ?_
  refine g_iadd K1 dX2_areSound_34 ?_
  refine g_iload_n K1 1 dX2_areSound_35 rfl ?_
  refine g_icmp_ge K1 161 dX2_areSound_36 rfl (fun hc => ?_) (fun hc => ?_)
  · replace h := h.1 hc
    refine g_iconst K1 1 dX2_areSound_161 rfl ?_
    obtain ⟨hr, hI, hL⟩ := h
    subst hr hI hL
    exact g_zreturn K rfl (by decide) dX2_areSound_162
  · replace h := h.2 hc
    refine g_aload_n K1 2 dX2_areSound_39 rfl ?_
    refine g_iload K1 3 dX2_areSound_40 rfl ?_
    obtain ⟨hp, hg, h⟩ := h
    refine h_laloadV K1 hp hg dX2_areSound_42 ?_
    refine g_lconst K1 0 dX2_areSound_43 rfl ?_
    refine g_lcmp K1 dX2_areSound_44 ?_
    refine g_if_lt K1 68 dX2_areSound_45 rfl (fun hc => ?_) (fun hc => ?_)
    · replace h := h.1 hc
      refine g_iconst K1 0 dX2_areSound_68 rfl ?_
      exact g_perm [0, 1, 2, 3] rfl (h w g K)
    · replace h := h.2 hc
      refine g_aload_n K1 2 dX2_areSound_48 rfl ?_
      refine g_iload K1 3 dX2_areSound_49 rfl ?_
      obtain ⟨hp, hg, h⟩ := h
      refine h_laloadV K1 hp hg dX2_areSound_51 ?_
      refine g_aload_n K1 0 dX2_areSound_52 rfl ?_
      refine h_getO K1 q_clX2 4 12 lyp_92 fkX2_4 rfl fl_X2_18 dX2_areSound_53 ?_
      refine h_getI K1 q_clX5 4 lyp_12 fkX5_4 fl_X2_39 dX2_areSound_56 ?_
      refine g_i2l K1 dX2_areSound_59 ?_
      refine g_lcmp K1 dX2_areSound_60 ?_
      refine g_if_ge K1 68 dX2_areSound_61 rfl (fun hc => ?_) (fun hc => ?_)
      · replace h := h.1 hc
        refine g_iconst K1 0 dX2_areSound_68 rfl ?_
        exact g_perm [0, 1, 2, 3] rfl (h w g K)
      · replace h := h.2 hc
        refine g_iconst K1 1 dX2_areSound_64 rfl ?_
        refine g_goto K1 69 dX2_areSound_65 rfl ?_
        exact g_perm [0, 1, 2, 3] rfl (h w g K)
set_option maxRecDepth 20000 in
set_option maxHeartbeats 2000000 in
theorem vc_X2_areSound_69 {r : Option Value} {I' : Nat → Nat → Int32} {L' : Nat → Nat → Int64} {I : Nat → Nat → Int32} {L : Nat → Nat → Int64} {x2 : Int32} {x3 : Nat} {x4 : Int32} {s0 : Int32} (h : ((29 ≤ x3 ∧ x3 < 33) ∧ vp_in (x4 + 1) 60 ∧ (((lg_cmp (L x3 ((x4 + 1) : Int32).toNatClampNeg) 0) < 0 → (v_X2_areSound_105 r I' L' I L x2 x3 x4 s0 0)) ∧ (¬ (lg_cmp (L x3 ((x4 + 1) : Int32).toNatClampNeg) 0) < 0 → ((29 ≤ x3 ∧ x3 < 33) ∧ vp_in (x4 + 1) 60 ∧ ((0 < (lg_cmp (L x3 ((x4 + 1) : Int32).toNatClampNeg) ((I 12 1) : Int32).toInt64) → (v_X2_areSound_105 r I' L' I L x2 x3 x4 s0 0)) ∧ (¬ 0 < (lg_cmp (L x3 ((x4 + 1) : Int32).toNatClampNeg) ((I 12 1) : Int32).toInt64) → (v_X2_areSound_105 r I' L' I L x2 x3 x4 s0 1)))))))) : v_X2_areSound_69 r I' L' I L x2 x3 x4 s0 := by
  intro w g K
  have K1 := K.1
  refine g_istore K1 dX2_areSound_69 (by decide) rfl ?_
  refine g_aload_n K1 3 dX2_areSound_71 rfl ?_
  refine g_iload K1 4 dX2_areSound_72 rfl ?_
  refine g_iconst K1 1 dX2_areSound_74 rfl ?_
  refine g_iadd K1 dX2_areSound_75 ?_
  obtain ⟨hp, hg, h⟩ := h
  refine h_laloadV K1 hp hg dX2_areSound_76 ?_
  refine g_lconst K1 0 dX2_areSound_77 rfl ?_
  refine g_lcmp K1 dX2_areSound_78 ?_
  refine g_if_lt K1 104 dX2_areSound_79 rfl (fun hc => ?_) (fun hc => ?_)
  · replace h := h.1 hc
    refine g_iconst K1 0 dX2_areSound_104 rfl ?_
    exact g_perm [1, 2, 3, 4, 0] rfl (h w g K)
  · replace h := h.2 hc
    refine g_aload_n K1 3 dX2_areSound_82 rfl ?_
    refine g_iload K1 4 dX2_areSound_83 rfl ?_
    refine g_iconst K1 1 dX2_areSound_85 rfl ?_
    refine g_iadd K1 dX2_areSound_86 ?_
    obtain ⟨hp, hg, h⟩ := h
    refine h_laloadV K1 hp hg dX2_areSound_87 ?_
    refine g_aload_n K1 1 dX2_areSound_88 rfl ?_
    refine h_getO K1 q_clX2 4 12 lyp_92 fkX2_4 rfl fl_X2_18 dX2_areSound_89 ?_
    refine h_getI K1 q_clX5 1 lyp_12 fkX5_1 fl_X2_45 dX2_areSound_92 ?_
    refine g_i2l K1 dX2_areSound_95 ?_
    refine g_lcmp K1 dX2_areSound_96 ?_
    refine g_if_gt K1 104 dX2_areSound_97 rfl (fun hc => ?_) (fun hc => ?_)
    · replace h := h.1 hc
      refine g_iconst K1 0 dX2_areSound_104 rfl ?_
      exact g_perm [1, 2, 3, 4, 0] rfl (h w g K)
    · replace h := h.2 hc
      refine g_iconst K1 1 dX2_areSound_100 rfl ?_
      refine g_goto K1 105 dX2_areSound_101 rfl ?_
      exact g_perm [1, 2, 3, 4, 0] rfl (h w g K)
set_option maxRecDepth 20000 in
set_option maxHeartbeats 2000000 in
theorem vc_X2_areSound_105 {r : Option Value} {I' : Nat → Nat → Int32} {L' : Nat → Nat → Int64} {I : Nat → Nat → Int32} {L : Nat → Nat → Int64} {x2 : Int32} {x3 : Nat} {x4 : Int32} {x5 : Int32} {s0 : Int32} (h : ((29 ≤ x3 ∧ x3 < 33) ∧ vp_in (x4 + 2) 60 ∧ (((lg_cmp (L x3 ((x4 + 2) : Int32).toNatClampNeg) 0) < 0 → (v_X2_areSound_136 r I' L' I L x2 x3 x4 x5 s0 0)) ∧ (¬ (lg_cmp (L x3 ((x4 + 2) : Int32).toNatClampNeg) 0) < 0 → ((29 ≤ x3 ∧ x3 < 33) ∧ vp_in (x4 + 2) 60 ∧ ((0 < (lg_cmp (L x3 ((x4 + 2) : Int32).toNatClampNeg) 6) → (v_X2_areSound_136 r I' L' I L x2 x3 x4 x5 s0 0)) ∧ (¬ 0 < (lg_cmp (L x3 ((x4 + 2) : Int32).toNatClampNeg) 6) → (v_X2_areSound_136 r I' L' I L x2 x3 x4 x5 s0 1)))))))) : v_X2_areSound_105 r I' L' I L x2 x3 x4 x5 s0 := by
  intro w g K
  have K1 := K.1
  refine g_istore K1 dX2_areSound_105 (by decide) rfl ?_
  refine g_aload_n K1 3 dX2_areSound_107 rfl ?_
  refine g_iload K1 4 dX2_areSound_108 rfl ?_
  refine g_iconst K1 2 dX2_areSound_110 rfl ?_
  refine g_iadd K1 dX2_areSound_111 ?_
  obtain ⟨hp, hg, h⟩ := h
  refine h_laloadV K1 hp hg dX2_areSound_112 ?_
  refine g_lconst K1 0 dX2_areSound_113 rfl ?_
  refine g_lcmp K1 dX2_areSound_114 ?_
  refine g_if_lt K1 135 dX2_areSound_115 rfl (fun hc => ?_) (fun hc => ?_)
  · replace h := h.1 hc
    refine g_iconst K1 0 dX2_areSound_135 rfl ?_
    exact g_perm [1, 2, 3, 4, 5, 0] rfl (h w g K)
  · replace h := h.2 hc
    refine g_aload_n K1 3 dX2_areSound_118 rfl ?_
    refine g_iload K1 4 dX2_areSound_119 rfl ?_
    refine g_iconst K1 2 dX2_areSound_121 rfl ?_
    refine g_iadd K1 dX2_areSound_122 ?_
    obtain ⟨hp, hg, h⟩ := h
    refine h_laloadV K1 hp hg dX2_areSound_123 ?_
    refine g_ldc2_w K1 6 dX2_areSound_124 cn_X2_48 ?_
    refine g_lcmp K1 dX2_areSound_127 ?_
    refine g_if_gt K1 135 dX2_areSound_128 rfl (fun hc => ?_) (fun hc => ?_)
    · replace h := h.1 hc
      refine g_iconst K1 0 dX2_areSound_135 rfl ?_
      exact g_perm [1, 2, 3, 4, 5, 0] rfl (h w g K)
    · replace h := h.2 hc
      refine g_iconst K1 1 dX2_areSound_131 rfl ?_
      refine g_goto K1 136 dX2_areSound_132 rfl ?_
      exact g_perm [1, 2, 3, 4, 5, 0] rfl (h w g K)
set_option maxRecDepth 20000 in
set_option maxHeartbeats 2000000 in
theorem vc_X2_areSound_136 {r : Option Value} {I' : Nat → Nat → Int32} {L' : Nat → Nat → Int64} {I : Nat → Nat → Int32} {L : Nat → Nat → Int64} {x2 : Int32} {x3 : Nat} {x4 : Int32} {x5 : Int32} {x6 : Int32} {s0 : Int32} (h : ((x5 = 0 → (r = some (.int 0) ∧ I' = I ∧ L' = L)) ∧ (¬ x5 = 0 → ((x6 = 0 → (r = some (.int 0) ∧ I' = I ∧ L' = L)) ∧ (¬ x6 = 0 → ((s0 = 0 → (r = some (.int 0) ∧ I' = I ∧ L' = L)) ∧ (¬ s0 = 0 → (v_X2_areSound_31 r I' L' I L x2 x3 (x4 + 3))))))))) : v_X2_areSound_136 r I' L' I L x2 x3 x4 x5 x6 s0 := by
  intro w g K
  have K1 := K.1
  refine g_istore K1 dX2_areSound_136 (by decide) rfl ?_
  refine g_iload K1 5 dX2_areSound_138 rfl ?_
  refine g_if_eq K1 153 dX2_areSound_140 rfl (fun hc => ?_) (fun hc => ?_)
  · replace h := h.1 hc
    refine g_iconst K1 0 dX2_areSound_153 rfl ?_
    obtain ⟨hr, hI, hL⟩ := h
    subst hr hI hL
    exact g_zreturn K rfl (by decide) dX2_areSound_154
  · replace h := h.2 hc
    refine g_iload K1 6 dX2_areSound_143 rfl ?_
    refine g_if_eq K1 153 dX2_areSound_145 rfl (fun hc => ?_) (fun hc => ?_)
    · replace h := h.1 hc
      refine g_iconst K1 0 dX2_areSound_153 rfl ?_
      obtain ⟨hr, hI, hL⟩ := h
      subst hr hI hL
      exact g_zreturn K rfl (by decide) dX2_areSound_154
    · replace h := h.2 hc
      refine g_iload K1 0 dX2_areSound_148 rfl ?_
      refine g_if_ne K1 155 dX2_areSound_150 rfl (fun hc => ?_) (fun hc => ?_)
      · replace h := h.2 hc
        refine g_iinc K1 (x4 + 3) 4 dX2_areSound_155 rfl rfl (by decide) rfl ?_
        refine g_goto K1 31 dX2_areSound_158 rfl ?_
        exact g_perm [2, 3, 4, 0] rfl (h w g K)
      · replace h := h.1 hc
        refine g_iconst K1 0 dX2_areSound_153 rfl ?_
        obtain ⟨hr, hI, hL⟩ := h
        subst hr hI hL
        exact g_zreturn K rfl (by decide) dX2_areSound_154
theorem c0_X2_areSound {r : Option Value} {I I' : Nat → Nat → Int32} {L L' : Nat → Nat → Int64} {x1 : Int32} (h : v_X2_areSound_0 r I' L' I L x1) : q_C kX2_areSound [.ref 92, .int x1] I L r I' L' := fun w l => q_ct (by decide) (Nat.le_of_ble_eq_true rfl) (Nat.le_refl _) (fun g _ K => h w g K)
abbrev v_X2_chooseQuestion_0 (r : Option Value) (I' : Nat → Nat → Int32) (L' : Nat → Nat → Int64) (I : Nat → Nat → Int32) (L : Nat → Nat → Int64) (x1 : Int32) : Prop := q_W kX2_chooseQuestion 0 [(0, .ref 92), (1, .int x1)] [] I L r I' L'
abbrev v_X2_chooseQuestion_15 (r : Option Value) (I' : Nat → Nat → Int32) (L' : Nat → Nat → Int64) (I : Nat → Nat → Int32) (L : Nat → Nat → Int64) (x1 : Int32) (x2 : Int32) : Prop := q_W kX2_chooseQuestion 15 [(0, .ref 92), (1, .int x1), (2, .int x2)] [] I L r I' L'
abbrev v_X2_chooseQuestion_28 (r : Option Value) (I' : Nat → Nat → Int32) (L' : Nat → Nat → Int64) (I : Nat → Nat → Int32) (L : Nat → Nat → Int64) (x1 : Int32) (x2 : Int32) (x3 : Int32) : Prop := q_W kX2_chooseQuestion 28 [(0, .ref 92), (1, .int x1), (2, .int x2), (3, .int x3)] [] I L r I' L'
set_option maxRecDepth 20000 in
set_option maxHeartbeats 2000000 in
theorem vc_X2_chooseQuestion_0 {r : Option Value} {I' : Nat → Nat → Int32} {L' : Nat → Nat → Int64} {I : Nat → Nat → Int32} {L : Nat → Nat → Int64} {x1 : Int32} (h : (∃ r1, q_C kJ6_bitCount_0f7a4 [.int x1] (up2 I 92 0 (-1)) L (some (.int r1)) (up2 I 92 0 (-1)) L ∧ (v_X2_chooseQuestion_15 r I' L' (up2 (up2 I 92 0 (-1)) 92 1 r1) L x1 0))) : v_X2_chooseQuestion_0 r I' L' I L x1 := by
  intro w g K
  have K1 := K.1
  refine g_aload_n K1 0 dX2_chooseQuestion_0 rfl ?_
  refine g_iconst K1 (-1) dX2_chooseQuestion_1 rfl ?_
  refine h_putI K1 q_clX2 0 lyp_92 fkX2_0 fl_X2_80 rfl rfl rfl dX2_chooseQuestion_2 ?_
  refine g_aload_n K1 0 dX2_chooseQuestion_5 rfl ?_
  refine g_iload_n K1 1 dX2_chooseQuestion_6 rfl ?_
  obtain ⟨r1, hct, h⟩ := h
  refine h_callS K1 (st := [.ref 92]) [.int x1] (hct w (gl g)) ok_J6_bitCount_0f7a4 ml_X2_83 ⟨Nat.le_of_ble_eq_true rfl, Nat.le_of_ble_eq_true rfl⟩ (Nat.le_of_ble_eq_true rfl) dX2_chooseQuestion_7 ?_
  show q_Gs w g 10 [(0, .ref 92), (1, .int x1)] [.int r1, .ref 92] (q_mm (up2 I 92 0 (-1)) L)
  refine h_putI K1 q_clX2 1 lyp_92 fkX2_1 fl_X2_88 rfl rfl rfl dX2_chooseQuestion_10 ?_
  refine g_iconst K1 0 dX2_chooseQuestion_13 rfl ?_
  refine g_istore_n K1 dX2_chooseQuestion_14 rfl (by decide) rfl ?_
  exact g_perm [1, 2, 0] rfl (h w g K)
set_option maxRecDepth 20000 in
set_option maxHeartbeats 2000000 in
theorem vc_X2_chooseQuestion_15 {r : Option Value} {I' : Nat → Nat → Int32} {L' : Nat → Nat → Int64} {I : Nat → Nat → Int32} {L : Nat → Nat → Int64} {x1 : Int32} {x2 : Int32} (h : (((I 12 4) ≤ x2 → (r = none ∧ I' = I ∧ L' = L)) ∧ (¬ (I 12 4) ≤ x2 → (v_X2_chooseQuestion_28 r I' L' I L x1 x2 0)))) : v_X2_chooseQuestion_15 r I' L' I L x1 x2 := by
  intro w g K
  have K1 := K.1
  refine g_iload_n K1 2 dX2_chooseQuestion_15 rfl ?_
  refine g_aload_n K1 0 dX2_chooseQuestion_16 rfl ?_
  refine h_getO K1 q_clX2 4 12 lyp_92 fkX2_4 rfl fl_X2_18 dX2_chooseQuestion_17 ?_
  refine h_getI K1 q_clX5 4 lyp_12 fkX5_4 fl_X2_39 dX2_chooseQuestion_20 ?_
  refine g_icmp_ge K1 89 dX2_chooseQuestion_23 rfl (fun hc => ?_) (fun hc => ?_)
  · replace h := h.1 hc
    obtain ⟨hr, hI, hL⟩ := h
    subst hr hI hL
    exact g_vreturn K rfl dX2_chooseQuestion_89
  · replace h := h.2 hc
    refine g_iconst K1 0 dX2_chooseQuestion_26 rfl ?_
    refine g_istore_n K1 dX2_chooseQuestion_27 rfl (by decide) rfl ?_
    exact g_perm [1, 2, 3, 0] rfl (h w g K)
set_option maxRecDepth 20000 in
set_option maxHeartbeats 2000000 in
theorem vc_X2_chooseQuestion_28 {r : Option Value} {I' : Nat → Nat → Int32} {L' : Nat → Nat → Int64} {I : Nat → Nat → Int32} {L : Nat → Nat → Int64} {x1 : Int32} {x2 : Int32} {x3 : Int32} (h : (((I 12 1) < x3 → (v_X2_chooseQuestion_15 r I' L' I L x1 (x2 + 1))) ∧ (¬ (I 12 1) < x3 → (∃ r1 I2, q_C kX2_leftAtWorst [.ref 92, .int x1, .int ((x3 * 7) + x2)] I L (some (.int r1)) I2 L ∧ (((I2 92 1) ≤ r1 → (v_X2_chooseQuestion_28 r I' L' I2 L x1 x2 (x3 + 1))) ∧ (¬ (I2 92 1) ≤ r1 → (v_X2_chooseQuestion_28 r I' L' (up2 (up2 I2 92 1 r1) 92 0 ((100 * x2) + x3)) L x1 x2 (x3 + 1)))))))) : v_X2_chooseQuestion_28 r I' L' I L x1 x2 x3 := by
  intro w g K
  have K1 := K.1
  refine g_iload_n K1 3 dX2_chooseQuestion_28 rfl ?_
  refine g_aload_n K1 0 dX2_chooseQuestion_29 rfl ?_
  refine h_getO K1 q_clX2 4 12 lyp_92 fkX2_4 rfl fl_X2_18 dX2_chooseQuestion_30 ?_
  refine h_getI K1 q_clX5 1 lyp_12 fkX5_1 fl_X2_45 dX2_chooseQuestion_33 ?_
  refine g_icmp_gt K1 83 dX2_chooseQuestion_36 rfl (fun hc => ?_) (fun hc => ?_)
  · replace h := h.1 hc
    refine g_iinc K1 (x2 + 1) 2 dX2_chooseQuestion_83 rfl rfl (by decide) rfl ?_
    refine g_goto K1 15 dX2_chooseQuestion_86 rfl ?_
    exact g_perm [1, 2, 0] rfl (h w g K)
  · replace h := h.2 hc
    refine g_aload_n K1 0 dX2_chooseQuestion_39 rfl ?_
    refine g_iload_n K1 1 dX2_chooseQuestion_40 rfl ?_
    refine g_iload_n K1 3 dX2_chooseQuestion_41 rfl ?_
    refine g_bipush K1 7 dX2_chooseQuestion_42 rfl ?_
    refine g_imul K1 dX2_chooseQuestion_44 ?_
    refine g_iload_n K1 2 dX2_chooseQuestion_45 rfl ?_
    refine g_iadd K1 dX2_chooseQuestion_46 ?_
    obtain ⟨r1, I2, hct, h⟩ := h
    refine h_callV K1 (st := []) [.int x1, .int ((x3 * 7) + x2)] (hct w (gl g)) q_clX2 lyp_92 rfl ok_X2_leftAtWorst ml_X2_91 ⟨Nat.le_of_ble_eq_true rfl, Nat.le_of_ble_eq_true rfl⟩ (Nat.le_of_ble_eq_true rfl) dX2_chooseQuestion_47 ?_
    show q_Gs w g 50 [(0, .ref 92), (1, .int x1), (2, .int x2), (3, .int x3)] [.int r1] (q_mm I2 L)
    refine g_istore K1 dX2_chooseQuestion_50 (by decide) rfl ?_
    refine g_iload K1 0 dX2_chooseQuestion_52 rfl ?_
    refine g_aload_n K1 1 dX2_chooseQuestion_54 rfl ?_
    refine h_getI K1 q_clX2 1 lyp_92 fkX2_1 fl_X2_88 dX2_chooseQuestion_55 ?_
    refine g_icmp_ge K1 77 dX2_chooseQuestion_58 rfl (fun hc => ?_) (fun hc => ?_)
    · replace h := h.1 hc
      refine g_iinc K1 (x3 + 1) 4 dX2_chooseQuestion_77 rfl rfl (by decide) rfl ?_
      refine g_goto K1 28 dX2_chooseQuestion_80 rfl ?_
      exact g_perm [2, 3, 4, 0] rfl (h w g K)
    · replace h := h.2 hc
      refine g_aload_n K1 1 dX2_chooseQuestion_61 rfl ?_
      refine g_iload K1 0 dX2_chooseQuestion_62 rfl ?_
      refine h_putI K1 q_clX2 1 lyp_92 fkX2_1 fl_X2_88 rfl rfl rfl dX2_chooseQuestion_64 ?_
      refine g_aload_n K1 1 dX2_chooseQuestion_67 rfl ?_
      refine g_bipush K1 100 dX2_chooseQuestion_68 rfl ?_
      refine g_iload_n K1 3 dX2_chooseQuestion_70 rfl ?_
      refine g_imul K1 dX2_chooseQuestion_71 ?_
      refine g_iload_n K1 4 dX2_chooseQuestion_72 rfl ?_
      refine g_iadd K1 dX2_chooseQuestion_73 ?_
      refine h_putI K1 q_clX2 0 lyp_92 fkX2_0 fl_X2_80 rfl rfl rfl dX2_chooseQuestion_74 ?_
      refine g_iinc K1 (x3 + 1) 4 dX2_chooseQuestion_77 rfl rfl (by decide) rfl ?_
      refine g_goto K1 28 dX2_chooseQuestion_80 rfl ?_
      exact g_perm [2, 3, 4, 0] rfl (h w g K)
theorem c0_X2_chooseQuestion {r : Option Value} {I I' : Nat → Nat → Int32} {L L' : Nat → Nat → Int64} {x1 : Int32} (h : v_X2_chooseQuestion_0 r I' L' I L x1) : q_C kX2_chooseQuestion [.ref 92, .int x1] I L r I' L' := fun w l => q_ct (by decide) (Nat.le_of_ble_eq_true rfl) (Nat.le_refl _) (fun g _ K => h w g K)
abbrev v_X2_fit_0 (r : Option Value) (I' : Nat → Nat → Int32) (L' : Nat → Nat → Int64) (I : Nat → Nat → Int32) (L : Nat → Nat → Int64) (x1 : Int32) : Prop := q_W kX2_fit 0 [(0, .ref 92), (1, .int x1)] [] I L r I' L'
abbrev v_X2_fit_12 (r : Option Value) (I' : Nat → Nat → Int32) (L' : Nat → Nat → Int64) (I : Nat → Nat → Int32) (L : Nat → Nat → Int64) (x1 : Int32) (x2 : Nat) (x3 : Int32) : Prop := q_W kX2_fit 12 [(0, .ref 92), (1, .int x1), (2, .ref x2), (3, .int x3)] [] I L r I' L'
set_option maxRecDepth 20000 in
set_option maxHeartbeats 2000000 in
theorem vc_X2_fit_0 {r : Option Value} {I' : Nat → Nat → Int32} {L' : Nat → Nat → Int64} {I : Nat → Nat → Int32} {L : Nat → Nat → Int64} {x1 : Int32} (h : (vp_in x1 4 ∧ (v_X2_fit_12 r I' L' I L x1 (29 + x1.toNatClampNeg) 0))) : v_X2_fit_0 r I' L' I L x1 := by
  intro w g K
  have K1 := K.1
  refine g_aload_n K1 0 dX2_fit_0 rfl ?_
  refine h_getO K1 q_clX2 6 25 lyp_92 fkX2_6 rfl fl_X2_26 dX2_fit_1 ?_
  refine h_getO K1 q_clX9 2 28 lyp_25 fkX9_2 rfl fl_X2_35 dX2_fit_4 ?_
  refine g_iload_n K1 1 dX2_fit_7 rfl ?_
  obtain ⟨hg, h⟩ := h
  refine h_aaloadLL K1 hg dX2_fit_8 ?_
  refine g_astore_n K1 dX2_fit_9 rfl (by decide) rfl ?_
  refine g_iconst K1 0 dX2_fit_10 rfl ?_
  refine g_istore_n K1 dX2_fit_11 rfl (by decide) rfl ?_
  exact g_perm [2, 3, 1, 0] rfl (h w g K)
set_option maxRecDepth 20000 in
set_option maxHeartbeats 2000000 in
theorem vc_X2_fit_12 {r : Option Value} {I' : Nat → Nat → Int32} {L' : Nat → Nat → Int64} {I : Nat → Nat → Int32} {L : Nat → Nat → Int64} {x1 : Int32} {x2 : Nat} {x3 : Int32} (h : (vp_in x1 4 ∧ (((I 27 x1.toNatClampNeg) ≤ (x3 + 2) → (r = some (.int 1) ∧ I' = I ∧ L' = L)) ∧ (¬ (I 27 x1.toNatClampNeg) ≤ (x3 + 2) → ((29 ≤ x2 ∧ x2 < 33) ∧ vp_in (x3 + 1) 60 ∧ ((29 ≤ x2 ∧ x2 < 33) ∧ vp_in x3 60 ∧ ∀ z1 : Int32, z1 = ((((L x2 ((x3 + 1) : Int32).toNatClampNeg) : Int64).toInt32 * 7) + ((L x2 x3.toNatClampNeg) : Int64).toInt32) → (vp_in z1 91 ∧ (∃ r2, q_C kX7_size [.int (I 83 z1.toNatClampNeg)] I L (some (.int r2)) I L ∧ ((29 ≤ x2 ∧ x2 < 33) ∧ vp_in (x3 + 2) 60 ∧ (((lg_cmp r2.toInt64 (L x2 ((x3 + 2) : Int32).toNatClampNeg)) = 0 → (v_X2_fit_12 r I' L' I L x1 x2 (x3 + 3))) ∧ (¬ (lg_cmp r2.toInt64 (L x2 ((x3 + 2) : Int32).toNatClampNeg)) = 0 → (r = some (.int 0) ∧ I' = I ∧ L' = L)))))))))))) : v_X2_fit_12 r I' L' I L x1 x2 x3 := by
  intro w g K
  have K1 := K.1
  refine g_iload_n K1 3 dX2_fit_12 rfl ?_
  refine g_iconst K1 2 dX2_fit_13 rfl ?_
  refine g_iadd K1 dX2_fit_14 ?_
  refine g_aload_n K1 0 dX2_fit_15 rfl ?_
  refine h_getO K1 q_clX2 6 25 lyp_92 fkX2_6 rfl fl_X2_26 dX2_fit_16 ?_
  refine h_getO K1 q_clX9 1 27 lyp_25 fkX9_1 rfl fl_X2_30 dX2_fit_19 ?_
  refine g_iload_n K1 1 dX2_fit_22 rfl ?_
  obtain ⟨hg, h⟩ := h
  refine h_iaload K1 lyp_27 hg dX2_fit_23 ?_
  refine g_icmp_ge K1 74 dX2_fit_24 rfl (fun hc => ?_) (fun hc => ?_)
  · replace h := h.1 hc
    refine g_iconst K1 1 dX2_fit_74 rfl ?_
    obtain ⟨hr, hI, hL⟩ := h
    subst hr hI hL
    exact g_zreturn K rfl (by decide) dX2_fit_75
  · replace h := h.2 hc
    refine g_aload_n K1 2 dX2_fit_27 rfl ?_
    refine g_iload_n K1 3 dX2_fit_28 rfl ?_
    refine g_iconst K1 1 dX2_fit_29 rfl ?_
    refine g_iadd K1 dX2_fit_30 ?_
    obtain ⟨hp, hg, h⟩ := h
    refine h_laloadV K1 hp hg dX2_fit_31 ?_
    refine g_l2i K1 dX2_fit_32 ?_
    refine g_bipush K1 7 dX2_fit_33 rfl ?_
    refine g_imul K1 dX2_fit_35 ?_
    refine g_aload_n K1 2 dX2_fit_36 rfl ?_
    refine g_iload_n K1 3 dX2_fit_37 rfl ?_
    obtain ⟨hp, hg, h⟩ := h
    refine h_laloadV K1 hp hg dX2_fit_38 ?_
    refine g_l2i K1 dX2_fit_39 ?_
    refine g_iadd K1 dX2_fit_40 ?_
    refine g_nameI (fun z1 hz1 => ?_)
    replace h := h z1 hz1
    refine g_istore K1 dX2_fit_41 (by decide) rfl ?_
    refine g_aload_n K1 1 dX2_fit_43 rfl ?_
    refine h_getO K1 q_clX2 5 81 lyp_92 fkX2_5 rfl fl_X2_22 dX2_fit_44 ?_
    refine h_getO K1 q_clX3 1 83 lyp_81 fkX3_1 rfl fl_X2_50 dX2_fit_47 ?_
    refine g_iload K1 0 dX2_fit_50 rfl ?_
    obtain ⟨hg, h⟩ := h
    refine h_iaload K1 lyp_83 hg dX2_fit_52 ?_
    obtain ⟨r2, hct, h⟩ := h
    refine h_callS K1 (st := []) [.int (I 83 z1.toNatClampNeg)] (hct w (gl g)) ok_X7_size ml_X2_55 ⟨Nat.le_of_ble_eq_true rfl, Nat.le_of_ble_eq_true rfl⟩ (Nat.le_of_ble_eq_true rfl) dX2_fit_53 ?_
    show q_Gs w g 56 [(4, .int z1), (0, .ref 92), (1, .int x1), (2, .ref x2), (3, .int x3)] [.int r2] (q_mm I L)
    refine g_i2l K1 dX2_fit_56 ?_
    refine g_aload_n K1 3 dX2_fit_57 rfl ?_
    refine g_iload_n K1 4 dX2_fit_58 rfl ?_
    refine g_iconst K1 2 dX2_fit_59 rfl ?_
    refine g_iadd K1 dX2_fit_60 ?_
    obtain ⟨hp, hg, h⟩ := h
    refine h_laloadV K1 hp hg dX2_fit_61 ?_
    refine g_lcmp K1 dX2_fit_62 ?_
    refine g_if_eq K1 68 dX2_fit_63 rfl (fun hc => ?_) (fun hc => ?_)
    · replace h := h.1 hc
      refine g_iinc K1 (x3 + 3) 4 dX2_fit_68 rfl rfl (by decide) rfl ?_
      refine g_goto K1 12 dX2_fit_71 rfl ?_
      exact g_perm [2, 3, 4, 0] rfl (h w g K)
    · replace h := h.2 hc
      refine g_iconst K1 0 dX2_fit_66 rfl ?_
      obtain ⟨hr, hI, hL⟩ := h
      subst hr hI hL
      exact g_zreturn K rfl (by decide) dX2_fit_67
theorem c0_X2_fit {r : Option Value} {I I' : Nat → Nat → Int32} {L L' : Nat → Nat → Int64} {x1 : Int32} (h : v_X2_fit_0 r I' L' I L x1) : q_C kX2_fit [.ref 92, .int x1] I L r I' L' := fun w l => q_ct (by decide) (Nat.le_of_ble_eq_true rfl) (Nat.le_refl _) (fun g _ K => h w g K)
abbrev v_X2_fittingLaws_0 (r : Option Value) (I' : Nat → Nat → Int32) (L' : Nat → Nat → Int64) (I : Nat → Nat → Int32) (L : Nat → Nat → Int64) (x1 : Int32) : Prop := q_W kX2_fittingLaws 0 [(0, .ref 92), (1, .int x1)] [] I L r I' L'
abbrev v_X2_fittingLaws_4 (r : Option Value) (I' : Nat → Nat → Int32) (L' : Nat → Nat → Int64) (I : Nat → Nat → Int32) (L : Nat → Nat → Int64) (x1 : Int32) (x2 : Int32) (x3 : Int32) : Prop := q_W kX2_fittingLaws 4 [(0, .ref 92), (1, .int x1), (2, .int x2), (3, .int x3)] [] I L r I' L'
set_option maxRecDepth 20000 in
set_option maxHeartbeats 2000000 in
theorem vc_X2_fittingLaws_0 {r : Option Value} {I' : Nat → Nat → Int32} {L' : Nat → Nat → Int64} {I : Nat → Nat → Int32} {L : Nat → Nat → Int64} {x1 : Int32} (h : (v_X2_fittingLaws_4 r I' L' I L x1 0 0)) : v_X2_fittingLaws_0 r I' L' I L x1 := by
  intro w g K
  have K1 := K.1
  refine g_iconst K1 0 dX2_fittingLaws_0 rfl ?_
  refine g_istore_n K1 dX2_fittingLaws_1 rfl (by decide) rfl ?_
  refine g_iconst K1 0 dX2_fittingLaws_2 rfl ?_
  refine g_istore_n K1 dX2_fittingLaws_3 rfl (by decide) rfl ?_
  exact g_perm [2, 3, 1, 0] rfl (h w g K)
set_option maxRecDepth 20000 in
set_option maxHeartbeats 2000000 in
theorem vc_X2_fittingLaws_4 {r : Option Value} {I' : Nat → Nat → Int32} {L' : Nat → Nat → Int64} {I : Nat → Nat → Int32} {L : Nat → Nat → Int64} {x1 : Int32} {x2 : Int32} {x3 : Int32} (h : ((4 ≤ x3 → (r = some (.int x2) ∧ I' = I ∧ L' = L)) ∧ (¬ 4 ≤ x3 → (∃ I1, q_C kX3_byLaw [.ref 81, .int x3] I L none I1 L ∧ (∃ r2 I3, q_C kX3_run [.ref 81, .int 0, .int (I1 12 1)] I1 L (some (.int r2)) I3 L ∧ (∃ r4, q_C kX2_fit [.ref 92, .int x1] I3 L (some (.int r4)) I3 L ∧ ((r4 = 0 → (v_X2_fittingLaws_4 r I' L' I3 L x1 x2 (x3 + 1))) ∧ (¬ r4 = 0 → (v_X2_fittingLaws_4 r I' L' I3 L x1 (x2 ||| ((1 : Int32) <<< (x3 &&& 31))) (x3 + 1)))))))))) : v_X2_fittingLaws_4 r I' L' I L x1 x2 x3 := by
  intro w g K
  have K1 := K.1
  refine g_iload_n K1 3 dX2_fittingLaws_4 rfl ?_
  refine g_iconst K1 4 dX2_fittingLaws_5 rfl ?_
  refine g_icmp_ge K1 53 dX2_fittingLaws_6 rfl (fun hc => ?_) (fun hc => ?_)
  · replace h := h.1 hc
    refine g_iload_n K1 2 dX2_fittingLaws_53 rfl ?_
    obtain ⟨hr, hI, hL⟩ := h
    subst hr hI hL
    exact g_ireturn K rfl dX2_fittingLaws_54
  · replace h := h.2 hc
    refine g_aload_n K1 0 dX2_fittingLaws_9 rfl ?_
    refine h_getO K1 q_clX2 5 81 lyp_92 fkX2_5 rfl fl_X2_22 dX2_fittingLaws_10 ?_
    refine g_iload_n K1 3 dX2_fittingLaws_13 rfl ?_
    obtain ⟨I1, hct, h⟩ := h
    refine h_callV K1 (st := []) [.int x3] (hct w (gl g)) q_clX3 lyp_81 rfl ok_X3_byLaw ml_X2_99 ⟨Nat.le_of_ble_eq_true rfl, Nat.le_of_ble_eq_true rfl⟩ (Nat.le_of_ble_eq_true rfl) dX2_fittingLaws_14 ?_
    show q_Gs w g 17 [(0, .ref 92), (1, .int x1), (2, .int x2), (3, .int x3)] [] (q_mm I1 L)
    refine g_aload_n K1 0 dX2_fittingLaws_17 rfl ?_
    refine h_getO K1 q_clX2 5 81 lyp_92 fkX2_5 rfl fl_X2_22 dX2_fittingLaws_18 ?_
    refine g_iconst K1 0 dX2_fittingLaws_21 rfl ?_
    refine g_aload_n K1 0 dX2_fittingLaws_22 rfl ?_
    refine h_getO K1 q_clX2 4 12 lyp_92 fkX2_4 rfl fl_X2_18 dX2_fittingLaws_23 ?_
    refine h_getI K1 q_clX5 1 lyp_12 fkX5_1 fl_X2_45 dX2_fittingLaws_26 ?_
    obtain ⟨r2, I3, hct, h⟩ := h
    refine h_callV K1 (st := []) [.int 0, .int (I1 12 1)] (hct w (gl g)) q_clX3 lyp_81 rfl ok_X3_run ml_X2_68 ⟨Nat.le_of_ble_eq_true rfl, Nat.le_of_ble_eq_true rfl⟩ (Nat.le_of_ble_eq_true rfl) dX2_fittingLaws_29 ?_
    show q_Gs w g 32 [(0, .ref 92), (1, .int x1), (2, .int x2), (3, .int x3)] [.int r2] (q_mm I3 L)
    refine g_pop K1 dX2_fittingLaws_32 rfl ?_
    refine g_aload_n K1 0 dX2_fittingLaws_33 rfl ?_
    refine g_iload_n K1 1 dX2_fittingLaws_34 rfl ?_
    obtain ⟨r4, hct, h⟩ := h
    refine h_callV K1 (st := []) [.int x1] (hct w (gl g)) q_clX2 lyp_92 rfl ok_X2_fit ml_X2_72 ⟨Nat.le_of_ble_eq_true rfl, Nat.le_of_ble_eq_true rfl⟩ (Nat.le_of_ble_eq_true rfl) dX2_fittingLaws_35 ?_
    show q_Gs w g 38 [(0, .ref 92), (1, .int x1), (2, .int x2), (3, .int x3)] [.int r4] (q_mm I3 L)
    refine g_if_eq K1 47 dX2_fittingLaws_38 rfl (fun hc => ?_) (fun hc => ?_)
    · replace h := h.1 hc
      refine g_iinc K1 (x3 + 1) 3 dX2_fittingLaws_47 rfl rfl (by decide) rfl ?_
      refine g_goto K1 4 dX2_fittingLaws_50 rfl ?_
      exact g_perm [1, 2, 3, 0] rfl (h w g K)
    · replace h := h.2 hc
      refine g_iload_n K1 2 dX2_fittingLaws_41 rfl ?_
      refine g_iconst K1 1 dX2_fittingLaws_42 rfl ?_
      refine g_iload_n K1 3 dX2_fittingLaws_43 rfl ?_
      refine g_ishl K1 dX2_fittingLaws_44 ?_
      refine g_ior K1 dX2_fittingLaws_45 ?_
      refine g_istore_n K1 dX2_fittingLaws_46 rfl (by decide) rfl ?_
      refine g_iinc K1 (x3 + 1) 3 dX2_fittingLaws_47 rfl rfl (by decide) rfl ?_
      refine g_goto K1 4 dX2_fittingLaws_50 rfl ?_
      exact g_perm [2, 3, 1, 0] rfl (h w g K)
theorem c0_X2_fittingLaws {r : Option Value} {I I' : Nat → Nat → Int32} {L L' : Nat → Nat → Int64} {x1 : Int32} (h : v_X2_fittingLaws_0 r I' L' I L x1) : q_C kX2_fittingLaws [.ref 92, .int x1] I L r I' L' := fun w l => q_ct (by decide) (Nat.le_of_ble_eq_true rfl) (Nat.le_refl _) (fun g _ K => h w g K)
abbrev v_X2_leftAtWorst_0 (r : Option Value) (I' : Nat → Nat → Int32) (L' : Nat → Nat → Int64) (I : Nat → Nat → Int32) (L : Nat → Nat → Int64) (x1 : Int32) (x2 : Int32) : Prop := q_W kX2_leftAtWorst 0 [(0, .ref 92), (1, .int x1), (2, .int x2)] [] I L r I' L'
abbrev v_X2_leftAtWorst_2 (r : Option Value) (I' : Nat → Nat → Int32) (L' : Nat → Nat → Int64) (I : Nat → Nat → Int32) (L : Nat → Nat → Int64) (x1 : Int32) (x2 : Int32) (x3 : Int32) : Prop := q_W kX2_leftAtWorst 2 [(0, .ref 92), (1, .int x1), (2, .int x2), (3, .int x3)] [] I L r I' L'
abbrev v_X2_leftAtWorst_26 (r : Option Value) (I' : Nat → Nat → Int32) (L' : Nat → Nat → Int64) (I : Nat → Nat → Int32) (L : Nat → Nat → Int64) (x1 : Int32) (x2 : Int32) (x3 : Int32) (x4 : Int32) : Prop := q_W kX2_leftAtWorst 26 [(0, .ref 92), (1, .int x1), (2, .int x2), (3, .int x3), (4, .int x4)] [] I L r I' L'
set_option maxRecDepth 20000 in
set_option maxHeartbeats 2000000 in
theorem vc_X2_leftAtWorst_0 {r : Option Value} {I' : Nat → Nat → Int32} {L' : Nat → Nat → Int64} {I : Nat → Nat → Int32} {L : Nat → Nat → Int64} {x1 : Int32} {x2 : Int32} (h : (v_X2_leftAtWorst_2 r I' L' I L x1 x2 0)) : v_X2_leftAtWorst_0 r I' L' I L x1 x2 := by
  intro w g K
  have K1 := K.1
  refine g_iconst K1 0 dX2_leftAtWorst_0 rfl ?_
  refine g_istore_n K1 dX2_leftAtWorst_1 rfl (by decide) rfl ?_
  exact g_perm [1, 2, 3, 0] rfl (h w g K)
set_option maxRecDepth 20000 in
set_option maxHeartbeats 2000000 in
theorem vc_X2_leftAtWorst_2 {r : Option Value} {I' : Nat → Nat → Int32} {L' : Nat → Nat → Int64} {I : Nat → Nat → Int32} {L : Nat → Nat → Int64} {x1 : Int32} {x2 : Int32} {x3 : Int32} (h : ((6 < x3 → (v_X2_leftAtWorst_26 r I' L' I L x1 x2 0 0)) ∧ (¬ 6 < x3 → (vp_in x3 7 ∧ (v_X2_leftAtWorst_2 r I' L' (up2 I 94 x3.toNatClampNeg 0) L x1 x2 (x3 + 1)))))) : v_X2_leftAtWorst_2 r I' L' I L x1 x2 x3 := by
  intro w g K
  have K1 := K.1
  refine g_iload_n K1 3 dX2_leftAtWorst_2 rfl ?_
  refine g_bipush K1 6 dX2_leftAtWorst_3 rfl ?_
  refine g_icmp_gt K1 21 dX2_leftAtWorst_5 rfl (fun hc => ?_) (fun hc => ?_)
  · replace h := h.1 hc
    refine g_iconst K1 0 dX2_leftAtWorst_21 rfl ?_
    refine g_istore_n K1 dX2_leftAtWorst_22 rfl (by decide) rfl ?_
    refine g_iconst K1 0 dX2_leftAtWorst_23 rfl ?_
    refine g_istore K1 dX2_leftAtWorst_24 (by decide) rfl ?_
    exact g_perm [2, 3, 4, 1, 0] rfl (h w g K)
  · replace h := h.2 hc
    refine g_aload_n K1 0 dX2_leftAtWorst_8 rfl ?_
    refine h_getO K1 q_clX2 3 94 lyp_92 fkX2_3 rfl fl_X2_15 dX2_leftAtWorst_9 ?_
    refine g_iload_n K1 3 dX2_leftAtWorst_12 rfl ?_
    refine g_iconst K1 0 dX2_leftAtWorst_13 rfl ?_
    obtain ⟨hg, h⟩ := h
    refine h_iastore K1 lyp_94 hg dX2_leftAtWorst_14 ?_
    refine g_iinc K1 (x3 + 1) 3 dX2_leftAtWorst_15 rfl rfl (by decide) rfl ?_
    refine g_goto K1 2 dX2_leftAtWorst_18 rfl ?_
    exact g_perm [1, 2, 3, 0] rfl (h w g K)
set_option maxRecDepth 20000 in
set_option maxHeartbeats 2000000 in
theorem vc_X2_leftAtWorst_26 {r : Option Value} {I' : Nat → Nat → Int32} {L' : Nat → Nat → Int64} {I : Nat → Nat → Int32} {L : Nat → Nat → Int64} {x1 : Int32} {x2 : Int32} {x3 : Int32} {x4 : Int32} (h : (((I 12 4) ≤ x4 → (r = some (.int x3) ∧ I' = I ∧ L' = L)) ∧ (¬ (I 12 4) ≤ x4 → ((((x1 >>> (x4 &&& 31)) &&& 1) = 0 → (v_X2_leftAtWorst_26 r I' L' I L x1 x2 x3 (x4 + 1))) ∧ (¬ ((x1 >>> (x4 &&& 31)) &&& 1) = 0 → (vp_in ((x4 * 91) + x2) 637 ∧ (vp_in (I 93 (((x4 * 91) + x2) : Int32).toNatClampNeg) 7 ∧ (vp_in (I 93 (((x4 * 91) + x2) : Int32).toNatClampNeg) 7 ∧ ∀ I1, I1 = (up2 I 94 ((I 93 (((x4 * 91) + x2) : Int32).toNatClampNeg) : Int32).toNatClampNeg ((I 94 ((I 93 (((x4 * 91) + x2) : Int32).toNatClampNeg) : Int32).toNatClampNeg) + 1)) → (vp_in (I 93 (((x4 * 91) + x2) : Int32).toNatClampNeg) 7 ∧ ∀ z2 : Int32, z2 = (if x3 < (I1 94 ((I 93 (((x4 * 91) + x2) : Int32).toNatClampNeg) : Int32).toNatClampNeg) then (I1 94 ((I 93 (((x4 * 91) + x2) : Int32).toNatClampNeg) : Int32).toNatClampNeg) else x3) → (v_X2_leftAtWorst_26 r I' L' I1 L x1 x2 z2 (x4 + 1))))))))))) : v_X2_leftAtWorst_26 r I' L' I L x1 x2 x3 x4 := by
  intro w g K
  have K1 := K.1
  refine g_iload K1 4 dX2_leftAtWorst_26 rfl ?_
  refine g_aload_n K1 0 dX2_leftAtWorst_28 rfl ?_
  refine h_getO K1 q_clX2 4 12 lyp_92 fkX2_4 rfl fl_X2_18 dX2_leftAtWorst_29 ?_
  refine h_getI K1 q_clX5 4 lyp_12 fkX5_4 fl_X2_39 dX2_leftAtWorst_32 ?_
  refine g_icmp_ge K1 90 dX2_leftAtWorst_35 rfl (fun hc => ?_) (fun hc => ?_)
  · replace h := h.1 hc
    refine g_iload_n K1 3 dX2_leftAtWorst_90 rfl ?_
    obtain ⟨hr, hI, hL⟩ := h
    subst hr hI hL
    exact g_ireturn K rfl dX2_leftAtWorst_91
  · replace h := h.2 hc
    refine g_iload_n K1 1 dX2_leftAtWorst_38 rfl ?_
    refine g_iload K1 4 dX2_leftAtWorst_39 rfl ?_
    refine g_ishr K1 dX2_leftAtWorst_41 ?_
    refine g_iconst K1 1 dX2_leftAtWorst_42 rfl ?_
    refine g_iand K1 dX2_leftAtWorst_43 ?_
    refine g_if_eq K1 84 dX2_leftAtWorst_44 rfl (fun hc => ?_) (fun hc => ?_)
    · replace h := h.1 hc
      refine g_iinc K1 (x4 + 1) 4 dX2_leftAtWorst_84 rfl rfl (by decide) rfl ?_
      refine g_goto K1 26 dX2_leftAtWorst_87 rfl ?_
      exact g_perm [1, 2, 3, 4, 0] rfl (h w g K)
    · replace h := h.2 hc
      refine g_aload_n K1 0 dX2_leftAtWorst_47 rfl ?_
      refine h_getO K1 q_clX2 2 93 lyp_92 fkX2_2 rfl fl_X2_9 dX2_leftAtWorst_48 ?_
      refine g_iload K1 4 dX2_leftAtWorst_51 rfl ?_
      refine g_bipush K1 91 dX2_leftAtWorst_53 rfl ?_
      refine g_imul K1 dX2_leftAtWorst_55 ?_
      refine g_iload_n K1 2 dX2_leftAtWorst_56 rfl ?_
      refine g_iadd K1 dX2_leftAtWorst_57 ?_
      obtain ⟨hg, h⟩ := h
      refine h_iaload K1 lyp_93 hg dX2_leftAtWorst_58 ?_
      refine g_istore K1 dX2_leftAtWorst_59 (by decide) rfl ?_
      refine g_aload_n K1 1 dX2_leftAtWorst_61 rfl ?_
      refine h_getO K1 q_clX2 3 94 lyp_92 fkX2_3 rfl fl_X2_15 dX2_leftAtWorst_62 ?_
      refine g_iload K1 0 dX2_leftAtWorst_65 rfl ?_
      refine g_dup2 K1 dX2_leftAtWorst_67 rfl rfl ?_
      obtain ⟨hg, h⟩ := h
      refine h_iaload K1 lyp_94 hg dX2_leftAtWorst_68 ?_
      refine g_iconst K1 1 dX2_leftAtWorst_69 rfl ?_
      refine g_iadd K1 dX2_leftAtWorst_70 ?_
      obtain ⟨hg, h⟩ := h
      refine h_iastore K1 lyp_94 hg dX2_leftAtWorst_71 ?_
      refine g_nameMI (fun I1 hI1 => ?_)
      replace h := h I1 hI1
      refine g_iload_n K1 4 dX2_leftAtWorst_72 rfl ?_
      refine g_aload_n K1 1 dX2_leftAtWorst_73 rfl ?_
      refine h_getO K1 q_clX2 3 94 lyp_92 fkX2_3 rfl fl_X2_15 dX2_leftAtWorst_74 ?_
      refine g_iload K1 0 dX2_leftAtWorst_77 rfl ?_
      obtain ⟨hg, h⟩ := h
      refine h_iaload K1 lyp_94 hg dX2_leftAtWorst_79 ?_
      refine h_mmax K1 (by exact Nat.le_of_ble_eq_true rfl) ⟨Nat.le_of_ble_eq_true rfl, Nat.le_of_ble_eq_true rfl⟩ ml_X2_94 dX2_leftAtWorst_80 ?_
      refine g_nameI (fun z2 hz2 => ?_)
      replace h := h z2 hz2
      refine g_istore_n K1 dX2_leftAtWorst_83 rfl (by decide) rfl ?_
      refine g_iinc K1 (x4 + 1) 5 dX2_leftAtWorst_84 rfl rfl (by decide) rfl ?_
      refine g_goto K1 26 dX2_leftAtWorst_87 rfl ?_
      exact g_perm [3, 4, 5, 1, 0] rfl (h w g K)
theorem c0_X2_leftAtWorst {r : Option Value} {I I' : Nat → Nat → Int32} {L L' : Nat → Nat → Int64} {x1 : Int32} {x2 : Int32} (h : v_X2_leftAtWorst_0 r I' L' I L x1 x2) : q_C kX2_leftAtWorst [.ref 92, .int x1, .int x2] I L r I' L' := fun w l => q_ct (by decide) (Nat.le_of_ble_eq_true rfl) (Nat.le_refl _) (fun g _ K => h w g K)
abbrev v_X2_noteSizes_0 (r : Option Value) (I' : Nat → Nat → Int32) (L' : Nat → Nat → Int64) (I : Nat → Nat → Int32) (L : Nat → Nat → Int64) (x1 : Int32) : Prop := q_W kX2_noteSizes 0 [(0, .ref 92), (1, .int x1)] [] I L r I' L'
abbrev v_X2_noteSizes_2 (r : Option Value) (I' : Nat → Nat → Int32) (L' : Nat → Nat → Int64) (I : Nat → Nat → Int32) (L : Nat → Nat → Int64) (x1 : Int32) (x2 : Int32) : Prop := q_W kX2_noteSizes 2 [(0, .ref 92), (1, .int x1), (2, .int x2)] [] I L r I' L'
set_option maxRecDepth 20000 in
set_option maxHeartbeats 2000000 in
theorem vc_X2_noteSizes_0 {r : Option Value} {I' : Nat → Nat → Int32} {L' : Nat → Nat → Int64} {I : Nat → Nat → Int32} {L : Nat → Nat → Int64} {x1 : Int32} (h : (v_X2_noteSizes_2 r I' L' I L x1 0)) : v_X2_noteSizes_0 r I' L' I L x1 := by
  intro w g K
  have K1 := K.1
  refine g_iconst K1 0 dX2_noteSizes_0 rfl ?_
  refine g_istore_n K1 dX2_noteSizes_1 rfl (by decide) rfl ?_
  exact g_perm [1, 2, 0] rfl (h w g K)
set_option maxRecDepth 20000 in
set_option maxHeartbeats 2000000 in
theorem vc_X2_noteSizes_2 {r : Option Value} {I' : Nat → Nat → Int32} {L' : Nat → Nat → Int64} {I : Nat → Nat → Int32} {L : Nat → Nat → Int64} {x1 : Int32} {x2 : Int32} (h : (((((I 12 1) + 1) * 7) ≤ x2 → (r = none ∧ I' = I ∧ L' = L)) ∧ (¬ (((I 12 1) + 1) * 7) ≤ x2 → (((I 12 4) ≤ (x2 - x2 / 7 * 7) → (v_X2_noteSizes_2 r I' L' I L x1 (x2 + 1))) ∧ (¬ (I 12 4) ≤ (x2 - x2 / 7 * 7) → (vp_in x2 91 ∧ (∃ r1, q_C kX7_size [.int (I 83 x2.toNatClampNeg)] I L (some (.int r1)) I L ∧ (vp_in ((x1 * 91) + x2) 637 ∧ (v_X2_noteSizes_2 r I' L' (up2 I 93 (((x1 * 91) + x2) : Int32).toNatClampNeg r1) L x1 (x2 + 1)))))))))) : v_X2_noteSizes_2 r I' L' I L x1 x2 := by
  intro w g K
  have K1 := K.1
  refine g_iload_n K1 2 dX2_noteSizes_2 rfl ?_
  refine g_aload_n K1 0 dX2_noteSizes_3 rfl ?_
  refine h_getO K1 q_clX2 4 12 lyp_92 fkX2_4 rfl fl_X2_18 dX2_noteSizes_4 ?_
  refine h_getI K1 q_clX5 1 lyp_12 fkX5_1 fl_X2_45 dX2_noteSizes_7 ?_
  refine g_iconst K1 1 dX2_noteSizes_10 rfl ?_
  refine g_iadd K1 dX2_noteSizes_11 ?_
  refine g_bipush K1 7 dX2_noteSizes_12 rfl ?_
  refine g_imul K1 dX2_noteSizes_14 ?_
  refine g_icmp_ge K1 61 dX2_noteSizes_15 rfl (fun hc => ?_) (fun hc => ?_)
  · replace h := h.1 hc
    obtain ⟨hr, hI, hL⟩ := h
    subst hr hI hL
    exact g_vreturn K rfl dX2_noteSizes_61
  · replace h := h.2 hc
    refine g_iload_n K1 2 dX2_noteSizes_18 rfl ?_
    refine g_bipush K1 7 dX2_noteSizes_19 rfl ?_
    refine g_irem K1 dX2_noteSizes_21 (by decide) ?_
    refine g_aload_n K1 0 dX2_noteSizes_22 rfl ?_
    refine h_getO K1 q_clX2 4 12 lyp_92 fkX2_4 rfl fl_X2_18 dX2_noteSizes_23 ?_
    refine h_getI K1 q_clX5 4 lyp_12 fkX5_4 fl_X2_39 dX2_noteSizes_26 ?_
    refine g_icmp_ge K1 55 dX2_noteSizes_29 rfl (fun hc => ?_) (fun hc => ?_)
    · replace h := h.1 hc
      refine g_iinc K1 (x2 + 1) 2 dX2_noteSizes_55 rfl rfl (by decide) rfl ?_
      refine g_goto K1 2 dX2_noteSizes_58 rfl ?_
      exact g_perm [1, 2, 0] rfl (h w g K)
    · replace h := h.2 hc
      refine g_aload_n K1 0 dX2_noteSizes_32 rfl ?_
      refine h_getO K1 q_clX2 2 93 lyp_92 fkX2_2 rfl fl_X2_9 dX2_noteSizes_33 ?_
      refine g_iload_n K1 1 dX2_noteSizes_36 rfl ?_
      refine g_bipush K1 91 dX2_noteSizes_37 rfl ?_
      refine g_imul K1 dX2_noteSizes_39 ?_
      refine g_iload_n K1 2 dX2_noteSizes_40 rfl ?_
      refine g_iadd K1 dX2_noteSizes_41 ?_
      refine g_aload_n K1 0 dX2_noteSizes_42 rfl ?_
      refine h_getO K1 q_clX2 5 81 lyp_92 fkX2_5 rfl fl_X2_22 dX2_noteSizes_43 ?_
      refine h_getO K1 q_clX3 1 83 lyp_81 fkX3_1 rfl fl_X2_50 dX2_noteSizes_46 ?_
      refine g_iload_n K1 2 dX2_noteSizes_49 rfl ?_
      obtain ⟨hg, h⟩ := h
      refine h_iaload K1 lyp_83 hg dX2_noteSizes_50 ?_
      obtain ⟨r1, hct, h⟩ := h
      refine h_callS K1 (st := [.int ((x1 * 91) + x2), .ref 93]) [.int (I 83 x2.toNatClampNeg)] (hct w (gl g)) ok_X7_size ml_X2_55 ⟨Nat.le_of_ble_eq_true rfl, Nat.le_of_ble_eq_true rfl⟩ (Nat.le_of_ble_eq_true rfl) dX2_noteSizes_51 ?_
      show q_Gs w g 54 [(0, .ref 92), (1, .int x1), (2, .int x2)] [.int r1, .int ((x1 * 91) + x2), .ref 93] (q_mm I L)
      obtain ⟨hg, h⟩ := h
      refine h_iastore K1 lyp_93 hg dX2_noteSizes_54 ?_
      refine g_iinc K1 (x2 + 1) 2 dX2_noteSizes_55 rfl rfl (by decide) rfl ?_
      refine g_goto K1 2 dX2_noteSizes_58 rfl ?_
      exact g_perm [1, 2, 0] rfl (h w g K)
theorem c0_X2_noteSizes {r : Option Value} {I I' : Nat → Nat → Int32} {L L' : Nat → Nat → Int64} {x1 : Int32} (h : v_X2_noteSizes_0 r I' L' I L x1) : q_C kX2_noteSizes [.ref 92, .int x1] I L r I' L' := fun w l => q_ct (by decide) (Nat.le_of_ble_eq_true rfl) (Nat.le_refl _) (fun g _ K => h w g K)
abbrev v_X2_origins_0 (r : Option Value) (I' : Nat → Nat → Int32) (L' : Nat → Nat → Int64) (I : Nat → Nat → Int32) (L : Nat → Nat → Int64) (x1 : Int32) : Prop := q_W kX2_origins 0 [(0, .ref 92), (1, .int x1)] [] I L r I' L'
abbrev v_X2_origins_4 (r : Option Value) (I' : Nat → Nat → Int32) (L' : Nat → Nat → Int64) (I : Nat → Nat → Int32) (L : Nat → Nat → Int64) (x1 : Int32) (x2 : Int32) (x3 : Int32) : Prop := q_W kX2_origins 4 [(0, .ref 92), (1, .int x1), (2, .int x2), (3, .int x3)] [] I L r I' L'
set_option maxRecDepth 20000 in
set_option maxHeartbeats 2000000 in
theorem vc_X2_origins_0 {r : Option Value} {I' : Nat → Nat → Int32} {L' : Nat → Nat → Int64} {I : Nat → Nat → Int32} {L : Nat → Nat → Int64} {x1 : Int32} (h : (v_X2_origins_4 r I' L' I L x1 0 0)) : v_X2_origins_0 r I' L' I L x1 := by
  intro w g K
  have K1 := K.1
  refine g_iconst K1 0 dX2_origins_0 rfl ?_
  refine g_istore_n K1 dX2_origins_1 rfl (by decide) rfl ?_
  refine g_iconst K1 0 dX2_origins_2 rfl ?_
  refine g_istore_n K1 dX2_origins_3 rfl (by decide) rfl ?_
  exact g_perm [2, 3, 1, 0] rfl (h w g K)
set_option maxRecDepth 20000 in
set_option maxHeartbeats 2000000 in
theorem vc_X2_origins_4 {r : Option Value} {I' : Nat → Nat → Int32} {L' : Nat → Nat → Int64} {I : Nat → Nat → Int32} {L : Nat → Nat → Int64} {x1 : Int32} {x2 : Int32} {x3 : Int32} (h : (((I 12 4) ≤ x3 → (r = some (.int x2) ∧ I' = I ∧ L' = L)) ∧ (¬ (I 12 4) ≤ x3 → (vp_in 0 4 ∧ (∃ I1, q_C kX3_tellAlone [.ref 81, .int ((1 : Int32) <<< (x3 &&& 31)), .int (I 18 (0 : Int32).toNatClampNeg)] I L none I1 L ∧ (∃ r2 I3, q_C kX3_run [.ref 81, .int 0, .int (I1 12 1)] I1 L (some (.int r2)) I3 L ∧ (∃ r4, q_C kX2_fit [.ref 92, .int x1] I3 L (some (.int r4)) I3 L ∧ ((r4 = 0 → (v_X2_origins_4 r I' L' I3 L x1 x2 (x3 + 1))) ∧ (¬ r4 = 0 → (∃ I5, q_C kX2_noteSizes [.ref 92, .int x3] I3 L none I5 L ∧ (v_X2_origins_4 r I' L' I5 L x1 (x2 ||| ((1 : Int32) <<< (x3 &&& 31))) (x3 + 1)))))))))))) : v_X2_origins_4 r I' L' I L x1 x2 x3 := by
  intro w g K
  have K1 := K.1
  refine g_iload_n K1 3 dX2_origins_4 rfl ?_
  refine g_aload_n K1 0 dX2_origins_5 rfl ?_
  refine h_getO K1 q_clX2 4 12 lyp_92 fkX2_4 rfl fl_X2_18 dX2_origins_6 ?_
  refine h_getI K1 q_clX5 4 lyp_12 fkX5_4 fl_X2_39 dX2_origins_9 ?_
  refine g_icmp_ge K1 75 dX2_origins_12 rfl (fun hc => ?_) (fun hc => ?_)
  · replace h := h.1 hc
    refine g_iload_n K1 2 dX2_origins_75 rfl ?_
    obtain ⟨hr, hI, hL⟩ := h
    subst hr hI hL
    exact g_ireturn K rfl dX2_origins_76
  · replace h := h.2 hc
    refine g_aload_n K1 0 dX2_origins_15 rfl ?_
    refine h_getO K1 q_clX2 5 81 lyp_92 fkX2_5 rfl fl_X2_22 dX2_origins_16 ?_
    refine g_iconst K1 1 dX2_origins_19 rfl ?_
    refine g_iload_n K1 3 dX2_origins_20 rfl ?_
    refine g_ishl K1 dX2_origins_21 ?_
    refine g_aload_n K1 0 dX2_origins_22 rfl ?_
    refine h_getO K1 q_clX2 4 12 lyp_92 fkX2_4 rfl fl_X2_18 dX2_origins_23 ?_
    refine h_getO K1 q_clX5 13 18 lyp_12 fkX5_13 rfl fl_X2_61 dX2_origins_26 ?_
    refine g_iconst K1 0 dX2_origins_29 rfl ?_
    obtain ⟨hg, h⟩ := h
    refine h_iaload K1 lyp_18 hg dX2_origins_30 ?_
    obtain ⟨I1, hct, h⟩ := h
    refine h_callV K1 (st := []) [.int ((1 : Int32) <<< (x3 &&& 31)), .int (I 18 (0 : Int32).toNatClampNeg)] (hct w (gl g)) q_clX3 lyp_81 rfl ok_X3_tellAlone ml_X2_64 ⟨Nat.le_of_ble_eq_true rfl, Nat.le_of_ble_eq_true rfl⟩ (Nat.le_of_ble_eq_true rfl) dX2_origins_31 ?_
    show q_Gs w g 34 [(0, .ref 92), (1, .int x1), (2, .int x2), (3, .int x3)] [] (q_mm I1 L)
    refine g_aload_n K1 0 dX2_origins_34 rfl ?_
    refine h_getO K1 q_clX2 5 81 lyp_92 fkX2_5 rfl fl_X2_22 dX2_origins_35 ?_
    refine g_iconst K1 0 dX2_origins_38 rfl ?_
    refine g_aload_n K1 0 dX2_origins_39 rfl ?_
    refine h_getO K1 q_clX2 4 12 lyp_92 fkX2_4 rfl fl_X2_18 dX2_origins_40 ?_
    refine h_getI K1 q_clX5 1 lyp_12 fkX5_1 fl_X2_45 dX2_origins_43 ?_
    obtain ⟨r2, I3, hct, h⟩ := h
    refine h_callV K1 (st := []) [.int 0, .int (I1 12 1)] (hct w (gl g)) q_clX3 lyp_81 rfl ok_X3_run ml_X2_68 ⟨Nat.le_of_ble_eq_true rfl, Nat.le_of_ble_eq_true rfl⟩ (Nat.le_of_ble_eq_true rfl) dX2_origins_46 ?_
    show q_Gs w g 49 [(0, .ref 92), (1, .int x1), (2, .int x2), (3, .int x3)] [.int r2] (q_mm I3 L)
    refine g_pop K1 dX2_origins_49 rfl ?_
    refine g_aload_n K1 0 dX2_origins_50 rfl ?_
    refine g_iload_n K1 1 dX2_origins_51 rfl ?_
    obtain ⟨r4, hct, h⟩ := h
    refine h_callV K1 (st := []) [.int x1] (hct w (gl g)) q_clX2 lyp_92 rfl ok_X2_fit ml_X2_72 ⟨Nat.le_of_ble_eq_true rfl, Nat.le_of_ble_eq_true rfl⟩ (Nat.le_of_ble_eq_true rfl) dX2_origins_52 ?_
    show q_Gs w g 55 [(0, .ref 92), (1, .int x1), (2, .int x2), (3, .int x3)] [.int r4] (q_mm I3 L)
    refine g_if_eq K1 69 dX2_origins_55 rfl (fun hc => ?_) (fun hc => ?_)
    · replace h := h.1 hc
      refine g_iinc K1 (x3 + 1) 3 dX2_origins_69 rfl rfl (by decide) rfl ?_
      refine g_goto K1 4 dX2_origins_72 rfl ?_
      exact g_perm [1, 2, 3, 0] rfl (h w g K)
    · replace h := h.2 hc
      refine g_iload_n K1 2 dX2_origins_58 rfl ?_
      refine g_iconst K1 1 dX2_origins_59 rfl ?_
      refine g_iload_n K1 3 dX2_origins_60 rfl ?_
      refine g_ishl K1 dX2_origins_61 ?_
      refine g_ior K1 dX2_origins_62 ?_
      refine g_istore_n K1 dX2_origins_63 rfl (by decide) rfl ?_
      refine g_aload_n K1 1 dX2_origins_64 rfl ?_
      refine g_iload_n K1 3 dX2_origins_65 rfl ?_
      obtain ⟨I5, hct, h⟩ := h
      refine h_callV K1 (st := []) [.int x3] (hct w (gl g)) q_clX2 lyp_92 rfl ok_X2_noteSizes ml_X2_76 ⟨Nat.le_of_ble_eq_true rfl, Nat.le_of_ble_eq_true rfl⟩ (Nat.le_of_ble_eq_true rfl) dX2_origins_66 ?_
      show q_Gs w g 69 [(2, .int (x2 ||| ((1 : Int32) <<< (x3 &&& 31)))), (0, .ref 92), (1, .int x1), (3, .int x3)] [] (q_mm I5 L)
      refine g_iinc K1 (x3 + 1) 3 dX2_origins_69 rfl rfl (by decide) rfl ?_
      refine g_goto K1 4 dX2_origins_72 rfl ?_
      exact g_perm [2, 3, 1, 0] rfl (h w g K)
theorem c0_X2_origins {r : Option Value} {I I' : Nat → Nat → Int32} {L L' : Nat → Nat → Int64} {x1 : Int32} (h : v_X2_origins_0 r I' L' I L x1) : q_C kX2_origins [.ref 92, .int x1] I L r I' L' := fun w l => q_ct (by decide) (Nat.le_of_ble_eq_true rfl) (Nat.le_refl _) (fun g _ K => h w g K)
abbrev v_X4_carried_0 (r : Option Value) (I' : Nat → Nat → Int32) (L' : Nat → Nat → Int64) (I : Nat → Nat → Int32) (L : Nat → Nat → Int64) (x1 : Int32) : Prop := q_W kX4_carried 0 [(0, .ref 90), (1, .int x1)] [] I L r I' L'
abbrev v_X4_carried_9 (r : Option Value) (I' : Nat → Nat → Int32) (L' : Nat → Nat → Int64) (I : Nat → Nat → Int32) (L : Nat → Nat → Int64) (x2 : Int32) (x3 : Int32) : Prop := q_W kX4_carried 9 [(0, .ref 90), (2, .int x2), (3, .int x3)] [] I L r I' L'
set_option maxRecDepth 20000 in
set_option maxHeartbeats 2000000 in
theorem vc_X4_carried_0 {r : Option Value} {I' : Nat → Nat → Int32} {L' : Nat → Nat → Int64} {I : Nat → Nat → Int32} {L : Nat → Nat → Int64} {x1 : Int32} (h : (v_X4_carried_9 r I' L' I L x1 ((I 90 3) - 1))) : v_X4_carried_0 r I' L' I L x1 := by
  intro w g K
  have K1 := K.1
  refine g_iload_n K1 1 dX4_carried_0 rfl ?_
  refine g_istore_n K1 dX4_carried_1 rfl (by decide) rfl ?_
  refine g_aload_n K1 1 dX4_carried_2 rfl ?_
  refine h_getI K1 q_clX4 3 lyp_90 fkX4_3 fl_X4_64 dX4_carried_3 ?_
  refine g_iconst K1 1 dX4_carried_6 rfl ?_
  refine g_isub K1 dX4_carried_7 ?_
  refine g_istore_n K1 dX4_carried_8 rfl (by decide) rfl ?_
  exact g_perm [2, 1, 0] rfl (h w g K)
set_option maxRecDepth 20000 in
set_option maxHeartbeats 2000000 in
theorem vc_X4_carried_9 {r : Option Value} {I' : Nat → Nat → Int32} {L' : Nat → Nat → Int64} {I : Nat → Nat → Int32} {L : Nat → Nat → Int64} {x2 : Int32} {x3 : Int32} (h : ((x3 < 0 → (r = some (.int x2) ∧ I' = I ∧ L' = L)) ∧ (¬ x3 < 0 → (vp_in x3 13 ∧ (∃ r1, q_C kX5_heardBy [.ref 12, .int (I 91 x3.toNatClampNeg), .int x2] I L (some (.int r1)) I L ∧ (v_X4_carried_9 r I' L' I L r1 (x3 + (-1)))))))) : v_X4_carried_9 r I' L' I L x2 x3 := by
  intro w g K
  have K1 := K.1
  refine g_iload_n K1 2 dX4_carried_9 rfl ?_
  refine g_if_lt K1 34 dX4_carried_10 rfl (fun hc => ?_) (fun hc => ?_)
  · replace h := h.1 hc
    refine g_iload_n K1 1 dX4_carried_34 rfl ?_
    obtain ⟨hr, hI, hL⟩ := h
    subst hr hI hL
    exact g_ireturn K rfl dX4_carried_35
  · replace h := h.2 hc
    refine g_aload_n K1 0 dX4_carried_13 rfl ?_
    refine h_getO K1 q_clX4 4 12 lyp_90 fkX4_4 rfl fl_X4_15 dX4_carried_14 ?_
    refine g_aload_n K1 0 dX4_carried_17 rfl ?_
    refine h_getO K1 q_clX4 2 91 lyp_90 fkX4_2 rfl fl_X4_9 dX4_carried_18 ?_
    refine g_iload_n K1 2 dX4_carried_21 rfl ?_
    obtain ⟨hg, h⟩ := h
    refine h_iaload K1 lyp_91 hg dX4_carried_22 ?_
    refine g_iload_n K1 1 dX4_carried_23 rfl ?_
    obtain ⟨r1, hct, h⟩ := h
    refine h_callV K1 (st := []) [.int (I 91 x3.toNatClampNeg), .int x2] (hct w (gl g)) q_clX5 lyp_12 rfl ok_X5_heardBy ml_X4_80 ⟨Nat.le_of_ble_eq_true rfl, Nat.le_of_ble_eq_true rfl⟩ (Nat.le_of_ble_eq_true rfl) dX4_carried_24 ?_
    show q_Gs w g 27 [(0, .ref 90), (2, .int x2), (3, .int x3)] [.int r1] (q_mm I L)
    refine g_istore_n K1 dX4_carried_27 rfl (by decide) rfl ?_
    refine g_iinc K1 (x3 + (-1)) 2 dX4_carried_28 rfl rfl (by decide) rfl ?_
    refine g_goto K1 9 dX4_carried_31 rfl ?_
    exact g_perm [2, 1, 0] rfl (h w g K)
theorem c0_X4_carried {r : Option Value} {I I' : Nat → Nat → Int32} {L L' : Nat → Nat → Int64} {x1 : Int32} (h : v_X4_carried_0 r I' L' I L x1) : q_C kX4_carried [.ref 90, .int x1] I L r I' L' := fun w l => q_ct (by decide) (Nat.le_of_ble_eq_true rfl) (Nat.le_refl _) (fun g _ K => h w g K)
abbrev v_X4_followTrail_0 (r : Option Value) (I' : Nat → Nat → Int32) (L' : Nat → Nat → Int64) (I : Nat → Nat → Int32) (L : Nat → Nat → Int64) (x1 : Int32) : Prop := q_W kX4_followTrail 0 [(0, .ref 90), (1, .int x1)] [] I L r I' L'
abbrev v_X4_followTrail_18 (r : Option Value) (I' : Nat → Nat → Int32) (L' : Nat → Nat → Int64) (I : Nat → Nat → Int32) (L : Nat → Nat → Int64) (x2 : Int32) : Prop := q_W kX4_followTrail 18 [(0, .ref 90), (2, .int x2)] [] I L r I' L'
set_option maxRecDepth 20000 in
set_option maxHeartbeats 2000000 in
theorem vc_X4_followTrail_0 {r : Option Value} {I' : Nat → Nat → Int32} {L' : Nat → Nat → Int64} {I : Nat → Nat → Int32} {L : Nat → Nat → Int64} {x1 : Int32} (h : (v_X4_followTrail_18 r I' L' (up2 I 90 3 0) L ((((up2 I 90 3 0) 12 1) * 7) + x1))) : v_X4_followTrail_0 r I' L' I L x1 := by
  intro w g K
  have K1 := K.1
  refine g_aload_n K1 0 dX4_followTrail_0 rfl ?_
  refine g_iconst K1 0 dX4_followTrail_1 rfl ?_
  refine h_putI K1 q_clX4 3 lyp_90 fkX4_3 fl_X4_64 rfl rfl rfl dX4_followTrail_2 ?_
  refine g_aload_n K1 0 dX4_followTrail_5 rfl ?_
  refine h_getO K1 q_clX4 4 12 lyp_90 fkX4_4 rfl fl_X4_15 dX4_followTrail_6 ?_
  refine h_getI K1 q_clX5 1 lyp_12 fkX5_1 fl_X4_42 dX4_followTrail_9 ?_
  refine g_bipush K1 7 dX4_followTrail_12 rfl ?_
  refine g_imul K1 dX4_followTrail_14 ?_
  refine g_iload_n K1 1 dX4_followTrail_15 rfl ?_
  refine g_iadd K1 dX4_followTrail_16 ?_
  refine g_istore_n K1 dX4_followTrail_17 rfl (by decide) rfl ?_
  exact g_perm [1, 0] rfl (h w g K)
set_option maxRecDepth 20000 in
set_option maxHeartbeats 2000000 in
theorem vc_X4_followTrail_18 {r : Option Value} {I' : Nat → Nat → Int32} {L' : Nat → Nat → Int64} {I : Nat → Nat → Int32} {L : Nat → Nat → Int64} {x2 : Int32} (h : ((12 ≤ (I 90 3) → (r = none ∧ I' = I ∧ L' = L)) ∧ (¬ 12 ≤ (I 90 3) → (vp_in x2 91 ∧ (((I 84 x2.toNatClampNeg) = (-1) → (r = none ∧ I' = I ∧ L' = L)) ∧ (¬ (I 84 x2.toNatClampNeg) = (-1) → (vp_in (I 90 3) 13 ∧ ∀ I1, I1 = (up2 (up2 I 91 ((I 90 3) : Int32).toNatClampNeg (x2 - x2 / 7 * 7)) 90 3 (((up2 I 91 ((I 90 3) : Int32).toNatClampNeg (x2 - x2 / 7 * 7)) 90 3) + 1)) → (vp_in x2 91 ∧ (vp_in x2 91 ∧ ∀ z2 : Int32, z2 = ((((I1 85 x2.toNatClampNeg) - 1) * 7) + (I1 84 x2.toNatClampNeg)) → (v_X4_followTrail_18 r I' L' I1 L z2)))))))))) : v_X4_followTrail_18 r I' L' I L x2 := by
  intro w g K
  have K1 := K.1
  refine g_aload_n K1 0 dX4_followTrail_18 rfl ?_
  refine h_getI K1 q_clX4 3 lyp_90 fkX4_3 fl_X4_64 dX4_followTrail_19 ?_
  refine g_bipush K1 12 dX4_followTrail_22 rfl ?_
  refine g_icmp_ge K1 91 dX4_followTrail_24 rfl (fun hc => ?_) (fun hc => ?_)
  · replace h := h.1 hc
    obtain ⟨hr, hI, hL⟩ := h
    subst hr hI hL
    exact g_vreturn K rfl dX4_followTrail_91
  · replace h := h.2 hc
    refine g_aload_n K1 0 dX4_followTrail_27 rfl ?_
    refine h_getO K1 q_clX4 5 81 lyp_90 fkX4_5 rfl fl_X4_19 dX4_followTrail_28 ?_
    refine h_getO K1 q_clX3 2 84 lyp_81 fkX3_2 rfl fl_X4_67 dX4_followTrail_31 ?_
    refine g_iload_n K1 1 dX4_followTrail_34 rfl ?_
    obtain ⟨hg, h⟩ := h
    refine h_iaload K1 lyp_84 hg dX4_followTrail_35 ?_
    refine g_iconst K1 (-1) dX4_followTrail_36 rfl ?_
    refine g_icmp_eq K1 91 dX4_followTrail_37 rfl (fun hc => ?_) (fun hc => ?_)
    · replace h := h.1 hc
      obtain ⟨hr, hI, hL⟩ := h
      subst hr hI hL
      exact g_vreturn K rfl dX4_followTrail_91
    · replace h := h.2 hc
      refine g_aload_n K1 0 dX4_followTrail_40 rfl ?_
      refine h_getO K1 q_clX4 2 91 lyp_90 fkX4_2 rfl fl_X4_9 dX4_followTrail_41 ?_
      refine g_aload_n K1 0 dX4_followTrail_44 rfl ?_
      refine h_getI K1 q_clX4 3 lyp_90 fkX4_3 fl_X4_64 dX4_followTrail_45 ?_
      refine g_iload_n K1 1 dX4_followTrail_48 rfl ?_
      refine g_bipush K1 7 dX4_followTrail_49 rfl ?_
      refine g_irem K1 dX4_followTrail_51 (by decide) ?_
      obtain ⟨hg, h⟩ := h
      refine h_iastore K1 lyp_91 hg dX4_followTrail_52 ?_
      refine g_aload_n K1 0 dX4_followTrail_53 rfl ?_
      refine g_dup K1 dX4_followTrail_54 rfl ?_
      refine h_getI K1 q_clX4 3 lyp_90 fkX4_3 fl_X4_64 dX4_followTrail_55 ?_
      refine g_iconst K1 1 dX4_followTrail_58 rfl ?_
      refine g_iadd K1 dX4_followTrail_59 ?_
      refine h_putI K1 q_clX4 3 lyp_90 fkX4_3 fl_X4_64 rfl rfl rfl dX4_followTrail_60 ?_
      refine g_nameMI (fun I1 hI1 => ?_)
      replace h := h I1 hI1
      refine g_aload_n K1 0 dX4_followTrail_63 rfl ?_
      refine h_getO K1 q_clX4 5 81 lyp_90 fkX4_5 rfl fl_X4_19 dX4_followTrail_64 ?_
      refine h_getO K1 q_clX3 3 85 lyp_81 fkX3_3 rfl fl_X4_70 dX4_followTrail_67 ?_
      refine g_iload_n K1 1 dX4_followTrail_70 rfl ?_
      obtain ⟨hg, h⟩ := h
      refine h_iaload K1 lyp_85 hg dX4_followTrail_71 ?_
      refine g_iconst K1 1 dX4_followTrail_72 rfl ?_
      refine g_isub K1 dX4_followTrail_73 ?_
      refine g_bipush K1 7 dX4_followTrail_74 rfl ?_
      refine g_imul K1 dX4_followTrail_76 ?_
      refine g_aload_n K1 0 dX4_followTrail_77 rfl ?_
      refine h_getO K1 q_clX4 5 81 lyp_90 fkX4_5 rfl fl_X4_19 dX4_followTrail_78 ?_
      refine h_getO K1 q_clX3 2 84 lyp_81 fkX3_2 rfl fl_X4_67 dX4_followTrail_81 ?_
      refine g_iload_n K1 1 dX4_followTrail_84 rfl ?_
      obtain ⟨hg, h⟩ := h
      refine h_iaload K1 lyp_84 hg dX4_followTrail_85 ?_
      refine g_iadd K1 dX4_followTrail_86 ?_
      refine g_nameI (fun z2 hz2 => ?_)
      replace h := h z2 hz2
      refine g_istore_n K1 dX4_followTrail_87 rfl (by decide) rfl ?_
      refine g_goto K1 18 dX4_followTrail_88 rfl ?_
      exact g_perm [1, 0] rfl (h w g K)
theorem c0_X4_followTrail {r : Option Value} {I I' : Nat → Nat → Int32} {L L' : Nat → Nat → Int64} {x1 : Int32} (h : v_X4_followTrail_0 r I' L' I L x1) : q_C kX4_followTrail [.ref 90, .int x1] I L r I' L' := fun w l => q_ct (by decide) (Nat.le_of_ble_eq_true rfl) (Nat.le_refl _) (fun g _ K => h w g K)
abbrev v_X4_seek_0 (r : Option Value) (I' : Nat → Nat → Int32) (L' : Nat → Nat → Int64) (I : Nat → Nat → Int32) (L : Nat → Nat → Int64) (x1 : Int32) (x2 : Int32) (x3 : Int32) : Prop := q_W kX4_seek 0 [(0, .ref 90), (1, .int x1), (2, .int x2), (3, .int x3)] [] I L r I' L'
abbrev v_X4_seek_13 (r : Option Value) (I' : Nat → Nat → Int32) (L' : Nat → Nat → Int64) (I : Nat → Nat → Int32) (L : Nat → Nat → Int64) (x1 : Int32) (x2 : Int32) (x3 : Int32) (x4 : Int32) : Prop := q_W kX4_seek 13 [(0, .ref 90), (1, .int x1), (2, .int x2), (3, .int x3), (4, .int x4)] [] I L r I' L'
set_option maxRecDepth 20000 in
set_option maxHeartbeats 2000000 in
theorem vc_X4_seek_0 {r : Option Value} {I' : Nat → Nat → Int32} {L' : Nat → Nat → Int64} {I : Nat → Nat → Int32} {L : Nat → Nat → Int64} {x1 : Int32} {x2 : Int32} {x3 : Int32} (h : (v_X4_seek_13 r I' L' (up2 (up2 I 90 0 0) 90 1 0) L x1 x2 x3 1)) : v_X4_seek_0 r I' L' I L x1 x2 x3 := by
  intro w g K
  have K1 := K.1
  refine g_aload_n K1 0 dX4_seek_0 rfl ?_
  refine g_iconst K1 0 dX4_seek_1 rfl ?_
  refine h_putI K1 q_clX4 0 lyp_90 fkX4_0 fl_X4_25 rfl rfl rfl dX4_seek_2 ?_
  refine g_aload_n K1 0 dX4_seek_5 rfl ?_
  refine g_iconst K1 0 dX4_seek_6 rfl ?_
  refine h_putI K1 q_clX4 1 lyp_90 fkX4_1 fl_X4_29 rfl rfl rfl dX4_seek_7 ?_
  refine g_iconst K1 1 dX4_seek_10 rfl ?_
  refine g_istore K1 dX4_seek_11 (by decide) rfl ?_
  exact g_perm [1, 2, 3, 4, 0] rfl (h w g K)
set_option maxRecDepth 20000 in
set_option maxHeartbeats 2000000 in
theorem vc_X4_seek_13 {r : Option Value} {I' : Nat → Nat → Int32} {L' : Nat → Nat → Int64} {I : Nat → Nat → Int32} {L : Nat → Nat → Int64} {x1 : Int32} {x2 : Int32} {x3 : Int32} {x4 : Int32} (h : ((4 < x4 → (r = none ∧ I' = I ∧ L' = L)) ∧ (¬ 4 < x4 → (((I 90 1) = 0 → (∃ r1, q_C kX4_spelled [.int 0, .int x4] I L (some (.int r1)) I L ∧ (∃ I2, q_C kX3_tellAlone [.ref 81, .int ((1 : Int32) <<< (x2 &&& 31)), .int r1] I L none I2 L ∧ (∃ r3 I4, q_C kX3_run [.ref 81, .int 0, .int (I2 12 1)] I2 L (some (.int r3)) I4 L ∧ (vp_in (((I4 12 1) * 7) + x3) 91 ∧ ∀ z5 : Int32, z5 = (I4 83 ((((I4 12 1) * 7) + x3) : Int32).toNatClampNeg) → (∃ r6, q_C kX7_size [.int z5] I4 L (some (.int r6)) I4 L ∧ (∃ r7, q_C kX7_size [.int x1] I4 L (some (.int r7)) I4 L ∧ ((r6 = r7 → (∃ I8, q_C kX4_followTrail [.ref 90, .int x3] I4 L none I8 L ∧ (∃ I9, q_C kX4_tryAll [.ref 90, .int x1, .int x4] I8 L none I9 L ∧ (v_X4_seek_13 r I' L' I9 L x1 x2 x3 (x4 + 1))))) ∧ (¬ r6 = r7 → (v_X4_seek_13 r I' L' I4 L x1 x2 x3 (x4 + 1))))))))))) ∧ (¬ (I 90 1) = 0 → (r = none ∧ I' = I ∧ L' = L)))))) : v_X4_seek_13 r I' L' I L x1 x2 x3 x4 := by
  intro w g K
  have K1 := K.1
  refine g_iload K1 4 dX4_seek_13 rfl ?_
  refine g_iconst K1 4 dX4_seek_15 rfl ?_
  refine g_icmp_gt K1 110 dX4_seek_16 rfl (fun hc => ?_) (fun hc => ?_)
  · replace h := h.1 hc
    obtain ⟨hr, hI, hL⟩ := h
    subst hr hI hL
    exact g_vreturn K rfl dX4_seek_110
  · replace h := h.2 hc
    refine g_aload_n K1 0 dX4_seek_19 rfl ?_
    refine h_getI K1 q_clX4 1 lyp_90 fkX4_1 fl_X4_29 dX4_seek_20 ?_
    refine g_if_ne K1 110 dX4_seek_23 rfl (fun hc => ?_) (fun hc => ?_)
    · replace h := h.2 hc
      obtain ⟨hr, hI, hL⟩ := h
      subst hr hI hL
      exact g_vreturn K rfl dX4_seek_110
    · replace h := h.1 hc
      refine g_aload_n K1 0 dX4_seek_26 rfl ?_
      refine h_getO K1 q_clX4 5 81 lyp_90 fkX4_5 rfl fl_X4_19 dX4_seek_27 ?_
      refine g_iconst K1 1 dX4_seek_30 rfl ?_
      refine g_iload_n K1 2 dX4_seek_31 rfl ?_
      refine g_ishl K1 dX4_seek_32 ?_
      refine g_iconst K1 0 dX4_seek_33 rfl ?_
      refine g_iload K1 4 dX4_seek_34 rfl ?_
      obtain ⟨r1, hct, h⟩ := h
      refine h_callS K1 (st := [.int ((1 : Int32) <<< (x2 &&& 31)), .ref 81]) [.int 0, .int x4] (hct w (gl g)) ok_X4_spelled ml_X4_32 ⟨Nat.le_of_ble_eq_true rfl, Nat.le_of_ble_eq_true rfl⟩ (Nat.le_of_ble_eq_true rfl) dX4_seek_36 ?_
      show q_Gs w g 39 [(0, .ref 90), (1, .int x1), (2, .int x2), (3, .int x3), (4, .int x4)] [.int r1, .int ((1 : Int32) <<< (x2 &&& 31)), .ref 81] (q_mm I L)
      obtain ⟨I2, hct, h⟩ := h
      refine h_callV K1 (st := []) [.int ((1 : Int32) <<< (x2 &&& 31)), .int r1] (hct w (gl g)) q_clX3 lyp_81 rfl ok_X3_tellAlone ml_X4_36 ⟨Nat.le_of_ble_eq_true rfl, Nat.le_of_ble_eq_true rfl⟩ (Nat.le_of_ble_eq_true rfl) dX4_seek_39 ?_
      show q_Gs w g 42 [(0, .ref 90), (1, .int x1), (2, .int x2), (3, .int x3), (4, .int x4)] [] (q_mm I2 L)
      refine g_aload_n K1 0 dX4_seek_42 rfl ?_
      refine h_getO K1 q_clX4 5 81 lyp_90 fkX4_5 rfl fl_X4_19 dX4_seek_43 ?_
      refine g_iconst K1 0 dX4_seek_46 rfl ?_
      refine g_aload_n K1 0 dX4_seek_47 rfl ?_
      refine h_getO K1 q_clX4 4 12 lyp_90 fkX4_4 rfl fl_X4_15 dX4_seek_48 ?_
      refine h_getI K1 q_clX5 1 lyp_12 fkX5_1 fl_X4_42 dX4_seek_51 ?_
      obtain ⟨r3, I4, hct, h⟩ := h
      refine h_callV K1 (st := []) [.int 0, .int (I2 12 1)] (hct w (gl g)) q_clX3 lyp_81 rfl ok_X3_run ml_X4_47 ⟨Nat.le_of_ble_eq_true rfl, Nat.le_of_ble_eq_true rfl⟩ (Nat.le_of_ble_eq_true rfl) dX4_seek_54 ?_
      show q_Gs w g 57 [(0, .ref 90), (1, .int x1), (2, .int x2), (3, .int x3), (4, .int x4)] [.int r3] (q_mm I4 L)
      refine g_pop K1 dX4_seek_57 rfl ?_
      refine g_aload_n K1 0 dX4_seek_58 rfl ?_
      refine h_getO K1 q_clX4 5 81 lyp_90 fkX4_5 rfl fl_X4_19 dX4_seek_59 ?_
      refine h_getO K1 q_clX3 1 83 lyp_81 fkX3_1 rfl fl_X4_50 dX4_seek_62 ?_
      refine g_aload_n K1 0 dX4_seek_65 rfl ?_
      refine h_getO K1 q_clX4 4 12 lyp_90 fkX4_4 rfl fl_X4_15 dX4_seek_66 ?_
      refine h_getI K1 q_clX5 1 lyp_12 fkX5_1 fl_X4_42 dX4_seek_69 ?_
      refine g_bipush K1 7 dX4_seek_72 rfl ?_
      refine g_imul K1 dX4_seek_74 ?_
      refine g_iload_n K1 3 dX4_seek_75 rfl ?_
      refine g_iadd K1 dX4_seek_76 ?_
      obtain ⟨hg, h⟩ := h
      refine h_iaload K1 lyp_83 hg dX4_seek_77 ?_
      refine g_nameI (fun z5 hz5 => ?_)
      replace h := h z5 hz5
      refine g_istore K1 dX4_seek_78 (by decide) rfl ?_
      refine g_iload K1 0 dX4_seek_80 rfl ?_
      obtain ⟨r6, hct, h⟩ := h
      refine h_callS K1 (st := []) [.int z5] (hct w (gl g)) ok_X7_size ml_X4_53 ⟨Nat.le_of_ble_eq_true rfl, Nat.le_of_ble_eq_true rfl⟩ (Nat.le_of_ble_eq_true rfl) dX4_seek_82 ?_
      show q_Gs w g 85 [(5, .int z5), (0, .ref 90), (1, .int x1), (2, .int x2), (3, .int x3), (4, .int x4)] [.int r6] (q_mm I4 L)
      refine g_iload_n K1 2 dX4_seek_85 rfl ?_
      obtain ⟨r7, hct, h⟩ := h
      refine h_callS K1 (st := [.int r6]) [.int x1] (hct w (gl g)) ok_X7_size ml_X4_53 ⟨Nat.le_of_ble_eq_true rfl, Nat.le_of_ble_eq_true rfl⟩ (Nat.le_of_ble_eq_true rfl) dX4_seek_86 ?_
      show q_Gs w g 89 [(5, .int z5), (0, .ref 90), (1, .int x1), (2, .int x2), (3, .int x3), (4, .int x4)] [.int r7, .int r6] (q_mm I4 L)
      refine g_icmp_ne K1 104 dX4_seek_89 rfl (fun hc => ?_) (fun hc => ?_)
      · replace h := h.2 hc
        refine g_iinc K1 (x4 + 1) 5 dX4_seek_104 rfl rfl (by decide) rfl ?_
        refine g_goto K1 13 dX4_seek_107 rfl ?_
        exact g_perm [2, 3, 4, 5, 0] rfl (h w g K)
      · replace h := h.1 hc
        refine g_aload_n K1 1 dX4_seek_92 rfl ?_
        refine g_iload_n K1 4 dX4_seek_93 rfl ?_
        obtain ⟨I8, hct, h⟩ := h
        refine h_callV K1 (st := []) [.int x3] (hct w (gl g)) q_clX4 lyp_90 rfl ok_X4_followTrail ml_X4_57 ⟨Nat.le_of_ble_eq_true rfl, Nat.le_of_ble_eq_true rfl⟩ (Nat.le_of_ble_eq_true rfl) dX4_seek_94 ?_
        show q_Gs w g 97 [(5, .int z5), (0, .ref 90), (1, .int x1), (2, .int x2), (3, .int x3), (4, .int x4)] [] (q_mm I8 L)
        refine g_aload_n K1 1 dX4_seek_97 rfl ?_
        refine g_iload_n K1 2 dX4_seek_98 rfl ?_
        refine g_iload K1 5 dX4_seek_99 rfl ?_
        obtain ⟨I9, hct, h⟩ := h
        refine h_callV K1 (st := []) [.int x1, .int x4] (hct w (gl g)) q_clX4 lyp_90 rfl ok_X4_tryAll ml_X4_61 ⟨Nat.le_of_ble_eq_true rfl, Nat.le_of_ble_eq_true rfl⟩ (Nat.le_of_ble_eq_true rfl) dX4_seek_101 ?_
        show q_Gs w g 104 [(5, .int z5), (0, .ref 90), (1, .int x1), (2, .int x2), (3, .int x3), (4, .int x4)] [] (q_mm I9 L)
        refine g_iinc K1 (x4 + 1) 5 dX4_seek_104 rfl rfl (by decide) rfl ?_
        refine g_goto K1 13 dX4_seek_107 rfl ?_
        exact g_perm [2, 3, 4, 5, 0] rfl (h w g K)
theorem c0_X4_seek {r : Option Value} {I I' : Nat → Nat → Int32} {L L' : Nat → Nat → Int64} {x1 : Int32} {x2 : Int32} {x3 : Int32} (h : v_X4_seek_0 r I' L' I L x1 x2 x3) : q_C kX4_seek [.ref 90, .int x1, .int x2, .int x3] I L r I' L' := fun w l => q_ct (by decide) (Nat.le_of_ble_eq_true rfl) (Nat.le_refl _) (fun g _ K => h w g K)
abbrev v_X4_spelled_0 (r : Option Value) (I' : Nat → Nat → Int32) (L' : Nat → Nat → Int64) (I : Nat → Nat → Int32) (L : Nat → Nat → Int64) (x0 : Int32) (x1 : Int32) : Prop := q_W kX4_spelled 0 [(0, .int x0), (1, .int x1)] [] I L r I' L'
abbrev v_X4_spelled_4 (r : Option Value) (I' : Nat → Nat → Int32) (L' : Nat → Nat → Int64) (I : Nat → Nat → Int32) (L : Nat → Nat → Int64) (x0 : Int32) (x1 : Int32) (x2 : Int32) (x3 : Int32) : Prop := q_W kX4_spelled 4 [(0, .int x0), (1, .int x1), (2, .int x2), (3, .int x3)] [] I L r I' L'
set_option maxRecDepth 20000 in
set_option maxHeartbeats 2000000 in
theorem vc_X4_spelled_0 {r : Option Value} {I' : Nat → Nat → Int32} {L' : Nat → Nat → Int64} {I : Nat → Nat → Int32} {L : Nat → Nat → Int64} {x0 : Int32} {x1 : Int32} (h : (v_X4_spelled_4 r I' L' I L x0 x1 0 0)) : v_X4_spelled_0 r I' L' I L x0 x1 := by
  intro w g K
  have K1 := K.1
  refine g_iconst K1 0 dX4_spelled_0 rfl ?_
  refine g_istore_n K1 dX4_spelled_1 rfl (by decide) rfl ?_
  refine g_iconst K1 0 dX4_spelled_2 rfl ?_
  refine g_istore_n K1 dX4_spelled_3 rfl (by decide) rfl ?_
  exact g_perm [2, 3, 1, 0] rfl (h w g K)
set_option maxRecDepth 20000 in
set_option maxHeartbeats 2000000 in
theorem vc_X4_spelled_4 {r : Option Value} {I' : Nat → Nat → Int32} {L' : Nat → Nat → Int64} {I : Nat → Nat → Int32} {L : Nat → Nat → Int64} {x0 : Int32} {x1 : Int32} {x2 : Int32} {x3 : Int32} (h : ((x1 ≤ x3 → (r = some (.int x2) ∧ I' = I ∧ L' = L)) ∧ (¬ x1 ≤ x3 → (∃ r1, q_C kX7_with [.int x2, .int x3, .int (((x0 >>> ((2 * ((x1 - 1) - x3)) &&& 31)) &&& 3) + 1)] I L (some (.int r1)) I L ∧ (v_X4_spelled_4 r I' L' I L x0 x1 r1 (x3 + 1)))))) : v_X4_spelled_4 r I' L' I L x0 x1 x2 x3 := by
  intro w g K
  have K1 := K.1
  refine g_iload_n K1 3 dX4_spelled_4 rfl ?_
  refine g_iload_n K1 1 dX4_spelled_5 rfl ?_
  refine g_icmp_ge K1 34 dX4_spelled_6 rfl (fun hc => ?_) (fun hc => ?_)
  · replace h := h.1 hc
    refine g_iload_n K1 2 dX4_spelled_34 rfl ?_
    obtain ⟨hr, hI, hL⟩ := h
    subst hr hI hL
    exact g_ireturn K rfl dX4_spelled_35
  · replace h := h.2 hc
    refine g_iload_n K1 2 dX4_spelled_9 rfl ?_
    refine g_iload_n K1 3 dX4_spelled_10 rfl ?_
    refine g_iload_n K1 0 dX4_spelled_11 rfl ?_
    refine g_iconst K1 2 dX4_spelled_12 rfl ?_
    refine g_iload_n K1 1 dX4_spelled_13 rfl ?_
    refine g_iconst K1 1 dX4_spelled_14 rfl ?_
    refine g_isub K1 dX4_spelled_15 ?_
    refine g_iload_n K1 3 dX4_spelled_16 rfl ?_
    refine g_isub K1 dX4_spelled_17 ?_
    refine g_imul K1 dX4_spelled_18 ?_
    refine g_ishr K1 dX4_spelled_19 ?_
    refine g_iconst K1 3 dX4_spelled_20 rfl ?_
    refine g_iand K1 dX4_spelled_21 ?_
    refine g_iconst K1 1 dX4_spelled_22 rfl ?_
    refine g_iadd K1 dX4_spelled_23 ?_
    obtain ⟨r1, hct, h⟩ := h
    refine h_callS K1 (st := []) [.int x2, .int x3, .int (((x0 >>> ((2 * ((x1 - 1) - x3)) &&& 31)) &&& 3) + 1)] (hct w (gl g)) ok_X7_with ml_X4_76 ⟨Nat.le_of_ble_eq_true rfl, Nat.le_of_ble_eq_true rfl⟩ (Nat.le_of_ble_eq_true rfl) dX4_spelled_24 ?_
    show q_Gs w g 27 [(0, .int x0), (1, .int x1), (2, .int x2), (3, .int x3)] [.int r1] (q_mm I L)
    refine g_istore_n K1 dX4_spelled_27 rfl (by decide) rfl ?_
    refine g_iinc K1 (x3 + 1) 3 dX4_spelled_28 rfl rfl (by decide) rfl ?_
    refine g_goto K1 4 dX4_spelled_31 rfl ?_
    exact g_perm [2, 3, 1, 0] rfl (h w g K)
theorem c0_X4_spelled {r : Option Value} {I I' : Nat → Nat → Int32} {L L' : Nat → Nat → Int64} {x0 : Int32} {x1 : Int32} (h : v_X4_spelled_0 r I' L' I L x0 x1) : q_C kX4_spelled [.int x0, .int x1] I L r I' L' := fun w l => q_ct (by decide) (Nat.le_of_ble_eq_true rfl) (Nat.le_refl _) (fun g _ K => h w g K)
abbrev v_X4_tryAll_0 (r : Option Value) (I' : Nat → Nat → Int32) (L' : Nat → Nat → Int64) (I : Nat → Nat → Int32) (L : Nat → Nat → Int64) (x1 : Int32) (x2 : Int32) : Prop := q_W kX4_tryAll 0 [(0, .ref 90), (1, .int x1), (2, .int x2)] [] I L r I' L'
abbrev v_X4_tryAll_2 (r : Option Value) (I' : Nat → Nat → Int32) (L' : Nat → Nat → Int64) (I : Nat → Nat → Int32) (L : Nat → Nat → Int64) (x1 : Int32) (x2 : Int32) (x3 : Int32) : Prop := q_W kX4_tryAll 2 [(0, .ref 90), (1, .int x1), (2, .int x2), (3, .int x3)] [] I L r I' L'
set_option maxRecDepth 20000 in
set_option maxHeartbeats 2000000 in
theorem vc_X4_tryAll_0 {r : Option Value} {I' : Nat → Nat → Int32} {L' : Nat → Nat → Int64} {I : Nat → Nat → Int32} {L : Nat → Nat → Int64} {x1 : Int32} {x2 : Int32} (h : (v_X4_tryAll_2 r I' L' I L x1 x2 0)) : v_X4_tryAll_0 r I' L' I L x1 x2 := by
  intro w g K
  have K1 := K.1
  refine g_iconst K1 0 dX4_tryAll_0 rfl ?_
  refine g_istore_n K1 dX4_tryAll_1 rfl (by decide) rfl ?_
  exact g_perm [1, 2, 3, 0] rfl (h w g K)
set_option maxRecDepth 20000 in
set_option maxHeartbeats 2000000 in
theorem vc_X4_tryAll_2 {r : Option Value} {I' : Nat → Nat → Int32} {L' : Nat → Nat → Int64} {I : Nat → Nat → Int32} {L : Nat → Nat → Int64} {x1 : Int32} {x2 : Int32} {x3 : Int32} (h : ((((1 : Int32) <<< ((2 * x2) &&& 31)) ≤ x3 → (r = none ∧ I' = I ∧ L' = L)) ∧ (¬ ((1 : Int32) <<< ((2 * x2) &&& 31)) ≤ x3 → (∃ r1, q_C kX4_spelled [.int x3, .int x2] I L (some (.int r1)) I L ∧ (∃ r2, q_C kX4_carried [.ref 90, .int r1] I L (some (.int r2)) I L ∧ ((r2 = x1 → (((I 90 1) = 0 → (v_X4_tryAll_2 r I' L' (up2 (up2 I 90 0 r1) 90 1 (((up2 I 90 0 r1) 90 1) + 1)) L x1 x2 (x3 + 1))) ∧ (¬ (I 90 1) = 0 → (v_X4_tryAll_2 r I' L' (up2 (up2 I 90 0 (I 90 0)) 90 1 (((up2 I 90 0 (I 90 0)) 90 1) + 1)) L x1 x2 (x3 + 1))))) ∧ (¬ r2 = x1 → (v_X4_tryAll_2 r I' L' I L x1 x2 (x3 + 1))))))))) : v_X4_tryAll_2 r I' L' I L x1 x2 x3 := by
  intro w g K
  have K1 := K.1
  refine g_iload_n K1 3 dX4_tryAll_2 rfl ?_
  refine g_iconst K1 1 dX4_tryAll_3 rfl ?_
  refine g_iconst K1 2 dX4_tryAll_4 rfl ?_
  refine g_iload_n K1 2 dX4_tryAll_5 rfl ?_
  refine g_imul K1 dX4_tryAll_6 ?_
  refine g_ishl K1 dX4_tryAll_7 ?_
  refine g_icmp_ge K1 64 dX4_tryAll_8 rfl (fun hc => ?_) (fun hc => ?_)
  · replace h := h.1 hc
    obtain ⟨hr, hI, hL⟩ := h
    subst hr hI hL
    exact g_vreturn K rfl dX4_tryAll_64
  · replace h := h.2 hc
    refine g_iload_n K1 3 dX4_tryAll_11 rfl ?_
    refine g_iload_n K1 2 dX4_tryAll_12 rfl ?_
    obtain ⟨r1, hct, h⟩ := h
    refine h_callS K1 (st := []) [.int x3, .int x2] (hct w (gl g)) ok_X4_spelled ml_X4_32 ⟨Nat.le_of_ble_eq_true rfl, Nat.le_of_ble_eq_true rfl⟩ (Nat.le_of_ble_eq_true rfl) dX4_tryAll_13 ?_
    show q_Gs w g 16 [(0, .ref 90), (1, .int x1), (2, .int x2), (3, .int x3)] [.int r1] (q_mm I L)
    refine g_istore K1 dX4_tryAll_16 (by decide) rfl ?_
    refine g_aload_n K1 1 dX4_tryAll_18 rfl ?_
    refine g_iload K1 0 dX4_tryAll_19 rfl ?_
    obtain ⟨r2, hct, h⟩ := h
    refine h_callV K1 (st := []) [.int r1] (hct w (gl g)) q_clX4 lyp_90 rfl ok_X4_carried ml_X4_73 ⟨Nat.le_of_ble_eq_true rfl, Nat.le_of_ble_eq_true rfl⟩ (Nat.le_of_ble_eq_true rfl) dX4_tryAll_21 ?_
    show q_Gs w g 24 [(4, .int r1), (0, .ref 90), (1, .int x1), (2, .int x2), (3, .int x3)] [.int r2] (q_mm I L)
    refine g_iload_n K1 2 dX4_tryAll_24 rfl ?_
    refine g_icmp_ne K1 58 dX4_tryAll_25 rfl (fun hc => ?_) (fun hc => ?_)
    · replace h := h.2 hc
      refine g_iinc K1 (x3 + 1) 4 dX4_tryAll_58 rfl rfl (by decide) rfl ?_
      refine g_goto K1 2 dX4_tryAll_61 rfl ?_
      exact g_perm [2, 3, 4, 0] rfl (h w g K)
    · replace h := h.1 hc
      refine g_aload_n K1 1 dX4_tryAll_28 rfl ?_
      refine g_aload_n K1 1 dX4_tryAll_29 rfl ?_
      refine h_getI K1 q_clX4 1 lyp_90 fkX4_1 fl_X4_29 dX4_tryAll_30 ?_
      refine g_if_ne K1 41 dX4_tryAll_33 rfl (fun hc => ?_) (fun hc => ?_)
      · replace h := h.2 hc
        refine g_aload_n K1 1 dX4_tryAll_41 rfl ?_
        refine h_getI K1 q_clX4 0 lyp_90 fkX4_0 fl_X4_25 dX4_tryAll_42 ?_
        refine h_putI K1 q_clX4 0 lyp_90 fkX4_0 fl_X4_25 rfl rfl rfl dX4_tryAll_45 ?_
        refine g_aload_n K1 1 dX4_tryAll_48 rfl ?_
        refine g_dup K1 dX4_tryAll_49 rfl ?_
        refine h_getI K1 q_clX4 1 lyp_90 fkX4_1 fl_X4_29 dX4_tryAll_50 ?_
        refine g_iconst K1 1 dX4_tryAll_53 rfl ?_
        refine g_iadd K1 dX4_tryAll_54 ?_
        refine h_putI K1 q_clX4 1 lyp_90 fkX4_1 fl_X4_29 rfl rfl rfl dX4_tryAll_55 ?_
        refine g_iinc K1 (x3 + 1) 4 dX4_tryAll_58 rfl rfl (by decide) rfl ?_
        refine g_goto K1 2 dX4_tryAll_61 rfl ?_
        exact g_perm [2, 3, 4, 0] rfl (h w g K)
      · replace h := h.1 hc
        refine g_iload K1 0 dX4_tryAll_36 rfl ?_
        refine g_goto K1 45 dX4_tryAll_38 rfl ?_
        refine h_putI K1 q_clX4 0 lyp_90 fkX4_0 fl_X4_25 rfl rfl rfl dX4_tryAll_45 ?_
        refine g_aload_n K1 1 dX4_tryAll_48 rfl ?_
        refine g_dup K1 dX4_tryAll_49 rfl ?_
        refine h_getI K1 q_clX4 1 lyp_90 fkX4_1 fl_X4_29 dX4_tryAll_50 ?_
        refine g_iconst K1 1 dX4_tryAll_53 rfl ?_
        refine g_iadd K1 dX4_tryAll_54 ?_
        refine h_putI K1 q_clX4 1 lyp_90 fkX4_1 fl_X4_29 rfl rfl rfl dX4_tryAll_55 ?_
        refine g_iinc K1 (x3 + 1) 4 dX4_tryAll_58 rfl rfl (by decide) rfl ?_
        refine g_goto K1 2 dX4_tryAll_61 rfl ?_
        exact g_perm [2, 3, 4, 0] rfl (h w g K)
theorem c0_X4_tryAll {r : Option Value} {I I' : Nat → Nat → Int32} {L L' : Nat → Nat → Int64} {x1 : Int32} {x2 : Int32} (h : v_X4_tryAll_0 r I' L' I L x1 x2) : q_C kX4_tryAll [.ref 90, .int x1, .int x2] I L r I' L' := fun w l => q_ct (by decide) (Nat.le_of_ble_eq_true rfl) (Nat.le_refl _) (fun g _ K => h w g K)
abbrev v_X7_letterAt_0 (r : Option Value) (I' : Nat → Nat → Int32) (L' : Nat → Nat → Int64) (I : Nat → Nat → Int32) (L : Nat → Nat → Int64) (x0 : Int32) (x1 : Int32) : Prop := q_W kX7_letterAt 0 [(0, .int x0), (1, .int x1)] [] I L r I' L'
set_option maxRecDepth 20000 in
set_option maxHeartbeats 2000000 in
theorem vc_X7_letterAt_0 {r : Option Value} {I' : Nat → Nat → Int32} {L' : Nat → Nat → Int64} {I : Nat → Nat → Int32} {L : Nat → Nat → Int64} {x0 : Int32} {x1 : Int32} (h : ((x1 < 0 → (r = some (.int 0) ∧ I' = I ∧ L' = L)) ∧ (¬ x1 < 0 → ((x1 < 6 → (r = some (.int ((x0 >>> ((3 * x1) &&& 31)) &&& 7)) ∧ I' = I ∧ L' = L)) ∧ (¬ x1 < 6 → (r = some (.int 0) ∧ I' = I ∧ L' = L)))))) : v_X7_letterAt_0 r I' L' I L x0 x1 := by
  intro w g K
  have K1 := K.1
  refine g_iload_n K1 1 dX7_letterAt_0 rfl ?_
  refine g_if_lt K1 10 dX7_letterAt_1 rfl (fun hc => ?_) (fun hc => ?_)
  · replace h := h.1 hc
    refine g_iconst K1 0 dX7_letterAt_10 rfl ?_
    refine g_goto K1 22 dX7_letterAt_11 rfl ?_
    obtain ⟨hr, hI, hL⟩ := h
    subst hr hI hL
    exact g_ireturn K rfl dX7_letterAt_22
  · replace h := h.2 hc
    refine g_iload_n K1 1 dX7_letterAt_4 rfl ?_
    refine g_bipush K1 6 dX7_letterAt_5 rfl ?_
    refine g_icmp_lt K1 14 dX7_letterAt_7 rfl (fun hc => ?_) (fun hc => ?_)
    · replace h := h.1 hc
      refine g_iload_n K1 0 dX7_letterAt_14 rfl ?_
      refine g_iconst K1 3 dX7_letterAt_15 rfl ?_
      refine g_iload_n K1 1 dX7_letterAt_16 rfl ?_
      refine g_imul K1 dX7_letterAt_17 ?_
      refine g_ishr K1 dX7_letterAt_18 ?_
      refine g_bipush K1 7 dX7_letterAt_19 rfl ?_
      refine g_iand K1 dX7_letterAt_21 ?_
      obtain ⟨hr, hI, hL⟩ := h
      subst hr hI hL
      exact g_ireturn K rfl dX7_letterAt_22
    · replace h := h.2 hc
      refine g_iconst K1 0 dX7_letterAt_10 rfl ?_
      refine g_goto K1 22 dX7_letterAt_11 rfl ?_
      obtain ⟨hr, hI, hL⟩ := h
      subst hr hI hL
      exact g_ireturn K rfl dX7_letterAt_22
theorem c0_X7_letterAt {r : Option Value} {I I' : Nat → Nat → Int32} {L L' : Nat → Nat → Int64} {x0 : Int32} {x1 : Int32} (h : v_X7_letterAt_0 r I' L' I L x0 x1) : q_C kX7_letterAt [.int x0, .int x1] I L r I' L' := fun w l => q_ct (by decide) (Nat.le_of_ble_eq_true rfl) (Nat.le_refl _) (fun g _ K => h w g K)
abbrev v_X7_replaced_0 (r : Option Value) (I' : Nat → Nat → Int32) (L' : Nat → Nat → Int64) (I : Nat → Nat → Int32) (L : Nat → Nat → Int64) (x0 : Int32) (x1 : Int32) (x2 : Int32) : Prop := q_W kX7_replaced 0 [(0, .int x0), (1, .int x1), (2, .int x2)] [] I L r I' L'
abbrev v_X7_replaced_5 (r : Option Value) (I' : Nat → Nat → Int32) (L' : Nat → Nat → Int64) (I : Nat → Nat → Int32) (L : Nat → Nat → Int64) (x0 : Int32) (x1 : Int32) (x2 : Int32) (x3 : Int32) (x4 : Int32) : Prop := q_W kX7_replaced 5 [(0, .int x0), (1, .int x1), (2, .int x2), (3, .int x3), (4, .int x4)] [] I L r I' L'
set_option maxRecDepth 20000 in
set_option maxHeartbeats 2000000 in
theorem vc_X7_replaced_0 {r : Option Value} {I' : Nat → Nat → Int32} {L' : Nat → Nat → Int64} {I : Nat → Nat → Int32} {L : Nat → Nat → Int64} {x0 : Int32} {x1 : Int32} {x2 : Int32} (h : (v_X7_replaced_5 r I' L' I L x0 x1 x2 x0 0)) : v_X7_replaced_0 r I' L' I L x0 x1 x2 := by
  intro w g K
  have K1 := K.1
  refine g_iload_n K1 0 dX7_replaced_0 rfl ?_
  refine g_istore_n K1 dX7_replaced_1 rfl (by decide) rfl ?_
  refine g_iconst K1 0 dX7_replaced_2 rfl ?_
  refine g_istore K1 dX7_replaced_3 (by decide) rfl ?_
  exact g_perm [2, 3, 4, 1, 0] rfl (h w g K)
set_option maxRecDepth 20000 in
set_option maxHeartbeats 2000000 in
theorem vc_X7_replaced_5 {r : Option Value} {I' : Nat → Nat → Int32} {L' : Nat → Nat → Int64} {I : Nat → Nat → Int32} {L : Nat → Nat → Int64} {x0 : Int32} {x1 : Int32} {x2 : Int32} {x3 : Int32} {x4 : Int32} (h : ((6 ≤ x4 → (r = some (.int x3) ∧ I' = I ∧ L' = L)) ∧ (¬ 6 ≤ x4 → ((((x0 >>> ((3 * x4) &&& 31)) &&& 7) = x1 → (v_X7_replaced_5 r I' L' I L x0 x1 x2 (x3 ^^^ ((x1 ^^^ x2) <<< ((3 * x4) &&& 31))) (x4 + 1))) ∧ (¬ ((x0 >>> ((3 * x4) &&& 31)) &&& 7) = x1 → (v_X7_replaced_5 r I' L' I L x0 x1 x2 x3 (x4 + 1))))))) : v_X7_replaced_5 r I' L' I L x0 x1 x2 x3 x4 := by
  intro w g K
  have K1 := K.1
  refine g_iload K1 4 dX7_replaced_5 rfl ?_
  refine g_bipush K1 6 dX7_replaced_7 rfl ?_
  refine g_icmp_ge K1 42 dX7_replaced_9 rfl (fun hc => ?_) (fun hc => ?_)
  · replace h := h.1 hc
    refine g_iload_n K1 3 dX7_replaced_42 rfl ?_
    obtain ⟨hr, hI, hL⟩ := h
    subst hr hI hL
    exact g_ireturn K rfl dX7_replaced_43
  · replace h := h.2 hc
    refine g_iload_n K1 0 dX7_replaced_12 rfl ?_
    refine g_iconst K1 3 dX7_replaced_13 rfl ?_
    refine g_iload K1 4 dX7_replaced_14 rfl ?_
    refine g_imul K1 dX7_replaced_16 ?_
    refine g_ishr K1 dX7_replaced_17 ?_
    refine g_bipush K1 7 dX7_replaced_18 rfl ?_
    refine g_iand K1 dX7_replaced_20 ?_
    refine g_iload_n K1 1 dX7_replaced_21 rfl ?_
    refine g_icmp_ne K1 36 dX7_replaced_22 rfl (fun hc => ?_) (fun hc => ?_)
    · replace h := h.2 hc
      refine g_iinc K1 (x4 + 1) 4 dX7_replaced_36 rfl rfl (by decide) rfl ?_
      refine g_goto K1 5 dX7_replaced_39 rfl ?_
      exact g_perm [1, 2, 3, 4, 0] rfl (h w g K)
    · replace h := h.1 hc
      refine g_iload_n K1 3 dX7_replaced_25 rfl ?_
      refine g_iload_n K1 1 dX7_replaced_26 rfl ?_
      refine g_iload_n K1 2 dX7_replaced_27 rfl ?_
      refine g_ixor K1 dX7_replaced_28 ?_
      refine g_iconst K1 3 dX7_replaced_29 rfl ?_
      refine g_iload K1 4 dX7_replaced_30 rfl ?_
      refine g_imul K1 dX7_replaced_32 ?_
      refine g_ishl K1 dX7_replaced_33 ?_
      refine g_ixor K1 dX7_replaced_34 ?_
      refine g_istore_n K1 dX7_replaced_35 rfl (by decide) rfl ?_
      refine g_iinc K1 (x4 + 1) 4 dX7_replaced_36 rfl rfl (by decide) rfl ?_
      refine g_goto K1 5 dX7_replaced_39 rfl ?_
      exact g_perm [2, 3, 4, 1, 0] rfl (h w g K)
theorem c0_X7_replaced {r : Option Value} {I I' : Nat → Nat → Int32} {L L' : Nat → Nat → Int64} {x0 : Int32} {x1 : Int32} {x2 : Int32} (h : v_X7_replaced_0 r I' L' I L x0 x1 x2) : q_C kX7_replaced [.int x0, .int x1, .int x2] I L r I' L' := fun w l => q_ct (by decide) (Nat.le_of_ble_eq_true rfl) (Nat.le_refl _) (fun g _ K => h w g K)
abbrev v_X7_reversed_0 (r : Option Value) (I' : Nat → Nat → Int32) (L' : Nat → Nat → Int64) (I : Nat → Nat → Int32) (L : Nat → Nat → Int64) (x0 : Int32) : Prop := q_W kX7_reversed 0 [(0, .int x0)] [] I L r I' L'
abbrev v_X7_reversed_6 (r : Option Value) (I' : Nat → Nat → Int32) (L' : Nat → Nat → Int64) (I : Nat → Nat → Int32) (L : Nat → Nat → Int64) (x1 : Int32) (x2 : Int32) (x3 : Int32) : Prop := q_W kX7_reversed 6 [(1, .int x1), (2, .int x2), (3, .int x3)] [] I L r I' L'
set_option maxRecDepth 20000 in
set_option maxHeartbeats 2000000 in
theorem vc_X7_reversed_0 {r : Option Value} {I' : Nat → Nat → Int32} {L' : Nat → Nat → Int64} {I : Nat → Nat → Int32} {L : Nat → Nat → Int64} {x0 : Int32} (h : (v_X7_reversed_6 r I' L' I L 0 x0 0)) : v_X7_reversed_0 r I' L' I L x0 := by
  intro w g K
  have K1 := K.1
  refine g_iconst K1 0 dX7_reversed_0 rfl ?_
  refine g_istore_n K1 dX7_reversed_1 rfl (by decide) rfl ?_
  refine g_iload_n K1 1 dX7_reversed_2 rfl ?_
  refine g_istore_n K1 dX7_reversed_3 rfl (by decide) rfl ?_
  refine g_iconst K1 0 dX7_reversed_4 rfl ?_
  refine g_istore_n K1 dX7_reversed_5 rfl (by decide) rfl ?_
  exact g_perm [2, 1, 0] rfl (h w g K)
set_option maxRecDepth 20000 in
set_option maxHeartbeats 2000000 in
theorem vc_X7_reversed_6 {r : Option Value} {I' : Nat → Nat → Int32} {L' : Nat → Nat → Int64} {I : Nat → Nat → Int32} {L : Nat → Nat → Int64} {x1 : Int32} {x2 : Int32} {x3 : Int32} (h : ((6 ≤ x3 → (r = some (.int x1) ∧ I' = I ∧ L' = L)) ∧ (¬ 6 ≤ x3 → ((x2 = 0 → (r = some (.int x1) ∧ I' = I ∧ L' = L)) ∧ (¬ x2 = 0 → (v_X7_reversed_6 r I' L' I L ((x1 <<< ((3 : Int32) &&& 31)) ||| (x2 &&& 7)) (x2 >>> ((3 : Int32) &&& 31)) (x3 + 1))))))) : v_X7_reversed_6 r I' L' I L x1 x2 x3 := by
  intro w g K
  have K1 := K.1
  refine g_iload_n K1 2 dX7_reversed_6 rfl ?_
  refine g_bipush K1 6 dX7_reversed_7 rfl ?_
  refine g_icmp_ge K1 35 dX7_reversed_9 rfl (fun hc => ?_) (fun hc => ?_)
  · replace h := h.1 hc
    refine g_iload_n K1 0 dX7_reversed_35 rfl ?_
    obtain ⟨hr, hI, hL⟩ := h
    subst hr hI hL
    exact g_ireturn K rfl dX7_reversed_36
  · replace h := h.2 hc
    refine g_iload_n K1 1 dX7_reversed_12 rfl ?_
    refine g_if_eq K1 35 dX7_reversed_13 rfl (fun hc => ?_) (fun hc => ?_)
    · replace h := h.1 hc
      refine g_iload_n K1 0 dX7_reversed_35 rfl ?_
      obtain ⟨hr, hI, hL⟩ := h
      subst hr hI hL
      exact g_ireturn K rfl dX7_reversed_36
    · replace h := h.2 hc
      refine g_iload_n K1 0 dX7_reversed_16 rfl ?_
      refine g_iconst K1 3 dX7_reversed_17 rfl ?_
      refine g_ishl K1 dX7_reversed_18 ?_
      refine g_iload_n K1 1 dX7_reversed_19 rfl ?_
      refine g_bipush K1 7 dX7_reversed_20 rfl ?_
      refine g_iand K1 dX7_reversed_22 ?_
      refine g_ior K1 dX7_reversed_23 ?_
      refine g_istore_n K1 dX7_reversed_24 rfl (by decide) rfl ?_
      refine g_iload_n K1 1 dX7_reversed_25 rfl ?_
      refine g_iconst K1 3 dX7_reversed_26 rfl ?_
      refine g_ishr K1 dX7_reversed_27 ?_
      refine g_istore_n K1 dX7_reversed_28 rfl (by decide) rfl ?_
      refine g_iinc K1 (x3 + 1) 2 dX7_reversed_29 rfl rfl (by decide) rfl ?_
      refine g_goto K1 6 dX7_reversed_32 rfl ?_
      exact g_perm [2, 1, 0] rfl (h w g K)
theorem c0_X7_reversed {r : Option Value} {I I' : Nat → Nat → Int32} {L L' : Nat → Nat → Int64} {x0 : Int32} (h : v_X7_reversed_0 r I' L' I L x0) : q_C kX7_reversed [.int x0] I L r I' L' := fun w l => q_ct (by decide) (Nat.le_of_ble_eq_true rfl) (Nat.le_refl _) (fun g _ K => h w g K)
abbrev v_X7_size_0 (r : Option Value) (I' : Nat → Nat → Int32) (L' : Nat → Nat → Int64) (I : Nat → Nat → Int32) (L : Nat → Nat → Int64) (x0 : Int32) : Prop := q_W kX7_size 0 [(0, .int x0)] [] I L r I' L'
abbrev v_X7_size_2 (r : Option Value) (I' : Nat → Nat → Int32) (L' : Nat → Nat → Int64) (I : Nat → Nat → Int32) (L : Nat → Nat → Int64) (x0 : Int32) (x1 : Int32) : Prop := q_W kX7_size 2 [(0, .int x0), (1, .int x1)] [] I L r I' L'
set_option maxRecDepth 20000 in
set_option maxHeartbeats 2000000 in
theorem vc_X7_size_0 {r : Option Value} {I' : Nat → Nat → Int32} {L' : Nat → Nat → Int64} {I : Nat → Nat → Int32} {L : Nat → Nat → Int64} {x0 : Int32} (h : (v_X7_size_2 r I' L' I L x0 0)) : v_X7_size_0 r I' L' I L x0 := by
  intro w g K
  have K1 := K.1
  refine g_iconst K1 0 dX7_size_0 rfl ?_
  refine g_istore_n K1 dX7_size_1 rfl (by decide) rfl ?_
  exact g_perm [1, 0] rfl (h w g K)
set_option maxRecDepth 20000 in
set_option maxHeartbeats 2000000 in
theorem vc_X7_size_2 {r : Option Value} {I' : Nat → Nat → Int32} {L' : Nat → Nat → Int64} {I : Nat → Nat → Int32} {L : Nat → Nat → Int64} {x0 : Int32} {x1 : Int32} (h : ((6 ≤ x1 → (r = some (.int x1) ∧ I' = I ∧ L' = L)) ∧ (¬ 6 ≤ x1 → (((x0 >>> ((3 * x1) &&& 31)) = 0 → (r = some (.int x1) ∧ I' = I ∧ L' = L)) ∧ (¬ (x0 >>> ((3 * x1) &&& 31)) = 0 → (v_X7_size_2 r I' L' I L x0 (x1 + 1))))))) : v_X7_size_2 r I' L' I L x0 x1 := by
  intro w g K
  have K1 := K.1
  refine g_iload_n K1 1 dX7_size_2 rfl ?_
  refine g_bipush K1 6 dX7_size_3 rfl ?_
  refine g_icmp_ge K1 22 dX7_size_5 rfl (fun hc => ?_) (fun hc => ?_)
  · replace h := h.1 hc
    refine g_iload_n K1 1 dX7_size_22 rfl ?_
    obtain ⟨hr, hI, hL⟩ := h
    subst hr hI hL
    exact g_ireturn K rfl dX7_size_23
  · replace h := h.2 hc
    refine g_iload_n K1 0 dX7_size_8 rfl ?_
    refine g_iconst K1 3 dX7_size_9 rfl ?_
    refine g_iload_n K1 1 dX7_size_10 rfl ?_
    refine g_imul K1 dX7_size_11 ?_
    refine g_ishr K1 dX7_size_12 ?_
    refine g_if_eq K1 22 dX7_size_13 rfl (fun hc => ?_) (fun hc => ?_)
    · replace h := h.1 hc
      refine g_iload_n K1 1 dX7_size_22 rfl ?_
      obtain ⟨hr, hI, hL⟩ := h
      subst hr hI hL
      exact g_ireturn K rfl dX7_size_23
    · replace h := h.2 hc
      refine g_iinc K1 (x1 + 1) 1 dX7_size_16 rfl rfl (by decide) rfl ?_
      refine g_goto K1 2 dX7_size_19 rfl ?_
      exact g_perm [1, 0] rfl (h w g K)
theorem c0_X7_size {r : Option Value} {I I' : Nat → Nat → Int32} {L L' : Nat → Nat → Int64} {x0 : Int32} (h : v_X7_size_0 r I' L' I L x0) : q_C kX7_size [.int x0] I L r I' L' := fun w l => q_ct (by decide) (Nat.le_of_ble_eq_true rfl) (Nat.le_refl _) (fun g _ K => h w g K)
abbrev v_X7_with_0 (r : Option Value) (I' : Nat → Nat → Int32) (L' : Nat → Nat → Int64) (I : Nat → Nat → Int32) (L : Nat → Nat → Int64) (x0 : Int32) (x1 : Int32) (x2 : Int32) : Prop := q_W kX7_with 0 [(0, .int x0), (1, .int x1), (2, .int x2)] [] I L r I' L'
set_option maxRecDepth 20000 in
set_option maxHeartbeats 2000000 in
theorem vc_X7_with_0 {r : Option Value} {I' : Nat → Nat → Int32} {L' : Nat → Nat → Int64} {I : Nat → Nat → Int32} {L : Nat → Nat → Int64} {x0 : Int32} {x1 : Int32} {x2 : Int32} (h : (r = some (.int ((x0 &&& (((7 : Int32) <<< ((3 * x1) &&& 31)) ^^^ (-1))) ||| (x2 <<< ((3 * x1) &&& 31)))) ∧ I' = I ∧ L' = L)) : v_X7_with_0 r I' L' I L x0 x1 x2 := by
  intro w g K
  have K1 := K.1
  refine g_iload_n K1 0 dX7_with_0 rfl ?_
  refine g_bipush K1 7 dX7_with_1 rfl ?_
  refine g_iconst K1 3 dX7_with_3 rfl ?_
  refine g_iload_n K1 1 dX7_with_4 rfl ?_
  refine g_imul K1 dX7_with_5 ?_
  refine g_ishl K1 dX7_with_6 ?_
  refine g_iconst K1 (-1) dX7_with_7 rfl ?_
  refine g_ixor K1 dX7_with_8 ?_
  refine g_iand K1 dX7_with_9 ?_
  refine g_iload_n K1 2 dX7_with_10 rfl ?_
  refine g_iconst K1 3 dX7_with_11 rfl ?_
  refine g_iload_n K1 1 dX7_with_12 rfl ?_
  refine g_imul K1 dX7_with_13 ?_
  refine g_ishl K1 dX7_with_14 ?_
  refine g_ior K1 dX7_with_15 ?_
  obtain ⟨hr, hI, hL⟩ := h
  subst hr hI hL
  exact g_ireturn K rfl dX7_with_16
theorem c0_X7_with {r : Option Value} {I I' : Nat → Nat → Int32} {L L' : Nat → Nat → Int64} {x0 : Int32} {x1 : Int32} {x2 : Int32} (h : v_X7_with_0 r I' L' I L x0 x1 x2) : q_C kX7_with [.int x0, .int x1, .int x2] I L r I' L' := fun w l => q_ct (by decide) (Nat.le_of_ble_eq_true rfl) (Nat.le_refl _) (fun g _ K => h w g K)
abbrev v_X8_factorial_0 (r : Option Value) (I' : Nat → Nat → Int32) (L' : Nat → Nat → Int64) (I : Nat → Nat → Int32) (L : Nat → Nat → Int64) (x0 : Int32) : Prop := q_W kX8_factorial 0 [(0, .int x0)] [] I L r I' L'
abbrev v_X8_factorial_4 (r : Option Value) (I' : Nat → Nat → Int32) (L' : Nat → Nat → Int64) (I : Nat → Nat → Int32) (L : Nat → Nat → Int64) (x0 : Int32) (x1 : Int32) (x2 : Int32) : Prop := q_W kX8_factorial 4 [(0, .int x0), (1, .int x1), (2, .int x2)] [] I L r I' L'
set_option maxRecDepth 20000 in
set_option maxHeartbeats 2000000 in
theorem vc_X8_factorial_0 {r : Option Value} {I' : Nat → Nat → Int32} {L' : Nat → Nat → Int64} {I : Nat → Nat → Int32} {L : Nat → Nat → Int64} {x0 : Int32} (h : (v_X8_factorial_4 r I' L' I L x0 1 2)) : v_X8_factorial_0 r I' L' I L x0 := by
  intro w g K
  have K1 := K.1
  refine g_iconst K1 1 dX8_factorial_0 rfl ?_
  refine g_istore_n K1 dX8_factorial_1 rfl (by decide) rfl ?_
  refine g_iconst K1 2 dX8_factorial_2 rfl ?_
  refine g_istore_n K1 dX8_factorial_3 rfl (by decide) rfl ?_
  exact g_perm [2, 1, 0] rfl (h w g K)
set_option maxRecDepth 20000 in
set_option maxHeartbeats 2000000 in
theorem vc_X8_factorial_4 {r : Option Value} {I' : Nat → Nat → Int32} {L' : Nat → Nat → Int64} {I : Nat → Nat → Int32} {L : Nat → Nat → Int64} {x0 : Int32} {x1 : Int32} {x2 : Int32} (h : ((x0 < x2 → (r = some (.int x1) ∧ I' = I ∧ L' = L)) ∧ (¬ x0 < x2 → ((7 < x2 → (r = some (.int x1) ∧ I' = I ∧ L' = L)) ∧ (¬ 7 < x2 → (v_X8_factorial_4 r I' L' I L x0 (x1 * x2) (x2 + 1))))))) : v_X8_factorial_4 r I' L' I L x0 x1 x2 := by
  intro w g K
  have K1 := K.1
  refine g_iload_n K1 2 dX8_factorial_4 rfl ?_
  refine g_iload_n K1 0 dX8_factorial_5 rfl ?_
  refine g_icmp_gt K1 25 dX8_factorial_6 rfl (fun hc => ?_) (fun hc => ?_)
  · replace h := h.1 hc
    refine g_iload_n K1 1 dX8_factorial_25 rfl ?_
    obtain ⟨hr, hI, hL⟩ := h
    subst hr hI hL
    exact g_ireturn K rfl dX8_factorial_26
  · replace h := h.2 hc
    refine g_iload_n K1 2 dX8_factorial_9 rfl ?_
    refine g_bipush K1 7 dX8_factorial_10 rfl ?_
    refine g_icmp_gt K1 25 dX8_factorial_12 rfl (fun hc => ?_) (fun hc => ?_)
    · replace h := h.1 hc
      refine g_iload_n K1 1 dX8_factorial_25 rfl ?_
      obtain ⟨hr, hI, hL⟩ := h
      subst hr hI hL
      exact g_ireturn K rfl dX8_factorial_26
    · replace h := h.2 hc
      refine g_iload_n K1 1 dX8_factorial_15 rfl ?_
      refine g_iload_n K1 2 dX8_factorial_16 rfl ?_
      refine g_imul K1 dX8_factorial_17 ?_
      refine g_istore_n K1 dX8_factorial_18 rfl (by decide) rfl ?_
      refine g_iinc K1 (x2 + 1) 2 dX8_factorial_19 rfl rfl (by decide) rfl ?_
      refine g_goto K1 4 dX8_factorial_22 rfl ?_
      exact g_perm [2, 1, 0] rfl (h w g K)
theorem c0_X8_factorial {r : Option Value} {I I' : Nat → Nat → Int32} {L L' : Nat → Nat → Int64} {x0 : Int32} (h : v_X8_factorial_0 r I' L' I L x0) : q_C kX8_factorial [.int x0] I L r I' L' := fun w l => q_ct (by decide) (Nat.le_of_ble_eq_true rfl) (Nat.le_refl _) (fun g _ K => h w g K)
abbrev v_X8_forget_0 (r : Option Value) (I' : Nat → Nat → Int32) (L' : Nat → Nat → Int64) (I : Nat → Nat → Int32) (L : Nat → Nat → Int64)  : Prop := q_W kX8_forget 0 [(0, .ref 88)] [] I L r I' L'
abbrev v_X8_forget_2 (r : Option Value) (I' : Nat → Nat → Int32) (L' : Nat → Nat → Int64) (I : Nat → Nat → Int32) (L : Nat → Nat → Int64) (x1 : Int32) : Prop := q_W kX8_forget 2 [(0, .ref 88), (1, .int x1)] [] I L r I' L'
set_option maxRecDepth 20000 in
set_option maxHeartbeats 2000000 in
theorem vc_X8_forget_0 {r : Option Value} {I' : Nat → Nat → Int32} {L' : Nat → Nat → Int64} {I : Nat → Nat → Int32} {L : Nat → Nat → Int64}  (h : (v_X8_forget_2 r I' L' I L 0)) : v_X8_forget_0 r I' L' I L  := by
  intro w g K
  have K1 := K.1
  refine g_iconst K1 0 dX8_forget_0 rfl ?_
  refine g_istore_n K1 dX8_forget_1 rfl (by decide) rfl ?_
  exact g_perm [1, 0] rfl (h w g K)
set_option maxRecDepth 20000 in
set_option maxHeartbeats 2000000 in
theorem vc_X8_forget_2 {r : Option Value} {I' : Nat → Nat → Int32} {L' : Nat → Nat → Int64} {I : Nat → Nat → Int32} {L : Nat → Nat → Int64} {x1 : Int32} (h : ((128 ≤ x1 → (r = none ∧ I' = I ∧ L' = L)) ∧ (¬ 128 ≤ x1 → (vp_in x1 128 ∧ (v_X8_forget_2 r I' L' (up2 I 89 x1.toNatClampNeg (-1)) L (x1 + 1)))))) : v_X8_forget_2 r I' L' I L x1 := by
  intro w g K
  have K1 := K.1
  refine g_iload_n K1 1 dX8_forget_2 rfl ?_
  refine g_sipush K1 128 dX8_forget_3 rfl ?_
  refine g_icmp_ge K1 22 dX8_forget_6 rfl (fun hc => ?_) (fun hc => ?_)
  · replace h := h.1 hc
    obtain ⟨hr, hI, hL⟩ := h
    subst hr hI hL
    exact g_vreturn K rfl dX8_forget_22
  · replace h := h.2 hc
    refine g_aload_n K1 0 dX8_forget_9 rfl ?_
    refine h_getO K1 q_clX8 0 89 lyp_88 fkX8_0 rfl fl_X8_9 dX8_forget_10 ?_
    refine g_iload_n K1 1 dX8_forget_13 rfl ?_
    refine g_iconst K1 (-1) dX8_forget_14 rfl ?_
    obtain ⟨hg, h⟩ := h
    refine h_iastore K1 lyp_89 hg dX8_forget_15 ?_
    refine g_iinc K1 (x1 + 1) 1 dX8_forget_16 rfl rfl (by decide) rfl ?_
    refine g_goto K1 2 dX8_forget_19 rfl ?_
    exact g_perm [1, 0] rfl (h w g K)
theorem c0_X8_forget {r : Option Value} {I I' : Nat → Nat → Int32} {L L' : Nat → Nat → Int64}  (h : v_X8_forget_0 r I' L' I L ) : q_C kX8_forget [.ref 88] I L r I' L' := fun w l => q_ct (by decide) (Nat.le_of_ble_eq_true rfl) (Nat.le_refl _) (fun g _ K => h w g K)
abbrev v_X8_gainInAllOrders_0 (r : Option Value) (I' : Nat → Nat → Int32) (L' : Nat → Nat → Int64) (I : Nat → Nat → Int32) (L : Nat → Nat → Int64) (x1 : Int32) : Prop := q_W kX8_gainInAllOrders 0 [(0, .ref 88), (1, .int x1)] [] I L r I' L'
abbrev v_X8_gainInAllOrders_4 (r : Option Value) (I' : Nat → Nat → Int32) (L' : Nat → Nat → Int64) (I : Nat → Nat → Int32) (L : Nat → Nat → Int64) (x1 : Int32) (x2 : Int32) (x3 : Int32) : Prop := q_W kX8_gainInAllOrders 4 [(0, .ref 88), (1, .int x1), (2, .int x2), (3, .int x3)] [] I L r I' L'
set_option maxRecDepth 20000 in
set_option maxHeartbeats 2000000 in
theorem vc_X8_gainInAllOrders_0 {r : Option Value} {I' : Nat → Nat → Int32} {L' : Nat → Nat → Int64} {I : Nat → Nat → Int32} {L : Nat → Nat → Int64} {x1 : Int32} (h : (v_X8_gainInAllOrders_4 r I' L' I L x1 0 0)) : v_X8_gainInAllOrders_0 r I' L' I L x1 := by
  intro w g K
  have K1 := K.1
  refine g_iconst K1 0 dX8_gainInAllOrders_0 rfl ?_
  refine g_istore_n K1 dX8_gainInAllOrders_1 rfl (by decide) rfl ?_
  refine g_iconst K1 0 dX8_gainInAllOrders_2 rfl ?_
  refine g_istore_n K1 dX8_gainInAllOrders_3 rfl (by decide) rfl ?_
  exact g_perm [2, 3, 1, 0] rfl (h w g K)
set_option maxRecDepth 20000 in
set_option maxHeartbeats 2000000 in
theorem vc_X8_gainInAllOrders_4 {r : Option Value} {I' : Nat → Nat → Int32} {L' : Nat → Nat → Int64} {I : Nat → Nat → Int32} {L : Nat → Nat → Int64} {x1 : Int32} {x2 : Int32} {x3 : Int32} (h : (∃ r1, q_C kX5_allPews [.ref 12] I L (some (.int r1)) I L ∧ ((r1 < x3 → (r = some (.int x2) ∧ I' = I ∧ L' = L)) ∧ (¬ r1 < x3 → ((((x3 >>> (x1 &&& 31)) &&& 1) = 0 → (∃ r2, q_C kJ6_bitCount_0f7a4 [.int x3] I L (some (.int r2)) I L ∧ (∃ r3, q_C kX8_factorial [.int r2] I L (some (.int r3)) I L ∧ (∃ r4, q_C kX8_factorial [.int (((I 12 4) - 1) - r2)] I L (some (.int r4)) I L ∧ (∃ r5 I6, q_C kX8_worthOf [.ref 88, .int (x3 ||| ((1 : Int32) <<< (x1 &&& 31)))] I L (some (.int r5)) I6 L ∧ (∃ r7 I8, q_C kX8_worthOf [.ref 88, .int x3] I6 L (some (.int r7)) I8 L ∧ (v_X8_gainInAllOrders_4 r I' L' I8 L x1 (x2 + ((r3 * r4) * (r5 - r7))) (x3 + 1)))))))) ∧ (¬ ((x3 >>> (x1 &&& 31)) &&& 1) = 0 → (v_X8_gainInAllOrders_4 r I' L' I L x1 x2 (x3 + 1)))))))) : v_X8_gainInAllOrders_4 r I' L' I L x1 x2 x3 := by
  intro w g K
  have K1 := K.1
  refine g_iload_n K1 3 dX8_gainInAllOrders_4 rfl ?_
  refine g_aload_n K1 0 dX8_gainInAllOrders_5 rfl ?_
  refine h_getO K1 q_clX8 1 12 lyp_88 fkX8_1 rfl fl_X8_15 dX8_gainInAllOrders_6 ?_
  obtain ⟨r1, hct, h⟩ := h
  refine h_callV K1 (st := [.int x3]) [] (hct w (gl g)) q_clX5 lyp_12 rfl ok_X5_allPews ml_X8_42 ⟨Nat.le_of_ble_eq_true rfl, Nat.le_of_ble_eq_true rfl⟩ (Nat.le_of_ble_eq_true rfl) dX8_gainInAllOrders_9 ?_
  show q_Gs w g 12 [(0, .ref 88), (1, .int x1), (2, .int x2), (3, .int x3)] [.int r1, .int x3] (q_mm I L)
  refine g_icmp_gt K1 79 dX8_gainInAllOrders_12 rfl (fun hc => ?_) (fun hc => ?_)
  · replace h := h.1 hc
    refine g_iload_n K1 2 dX8_gainInAllOrders_79 rfl ?_
    obtain ⟨hr, hI, hL⟩ := h
    subst hr hI hL
    exact g_ireturn K rfl dX8_gainInAllOrders_80
  · replace h := h.2 hc
    refine g_iload_n K1 3 dX8_gainInAllOrders_15 rfl ?_
    refine g_iload_n K1 1 dX8_gainInAllOrders_16 rfl ?_
    refine g_ishr K1 dX8_gainInAllOrders_17 ?_
    refine g_iconst K1 1 dX8_gainInAllOrders_18 rfl ?_
    refine g_iand K1 dX8_gainInAllOrders_19 ?_
    refine g_if_ne K1 73 dX8_gainInAllOrders_20 rfl (fun hc => ?_) (fun hc => ?_)
    · replace h := h.2 hc
      refine g_iinc K1 (x3 + 1) 3 dX8_gainInAllOrders_73 rfl rfl (by decide) rfl ?_
      refine g_goto K1 4 dX8_gainInAllOrders_76 rfl ?_
      exact g_perm [1, 2, 3, 0] rfl (h w g K)
    · replace h := h.1 hc
      refine g_iload_n K1 3 dX8_gainInAllOrders_23 rfl ?_
      obtain ⟨r2, hct, h⟩ := h
      refine h_callS K1 (st := []) [.int x3] (hct w (gl g)) ok_J6_bitCount_0f7a4 ml_X8_46 ⟨Nat.le_of_ble_eq_true rfl, Nat.le_of_ble_eq_true rfl⟩ (Nat.le_of_ble_eq_true rfl) dX8_gainInAllOrders_24 ?_
      show q_Gs w g 27 [(0, .ref 88), (1, .int x1), (2, .int x2), (3, .int x3)] [.int r2] (q_mm I L)
      refine g_istore K1 dX8_gainInAllOrders_27 (by decide) rfl ?_
      refine g_iload K1 0 dX8_gainInAllOrders_29 rfl ?_
      obtain ⟨r3, hct, h⟩ := h
      refine h_callS K1 (st := []) [.int r2] (hct w (gl g)) ok_X8_factorial ml_X8_52 ⟨Nat.le_of_ble_eq_true rfl, Nat.le_of_ble_eq_true rfl⟩ (Nat.le_of_ble_eq_true rfl) dX8_gainInAllOrders_31 ?_
      show q_Gs w g 34 [(4, .int r2), (0, .ref 88), (1, .int x1), (2, .int x2), (3, .int x3)] [.int r3] (q_mm I L)
      refine g_aload_n K1 1 dX8_gainInAllOrders_34 rfl ?_
      refine h_getO K1 q_clX8 1 12 lyp_88 fkX8_1 rfl fl_X8_15 dX8_gainInAllOrders_35 ?_
      refine h_getI K1 q_clX5 4 lyp_12 fkX5_4 fl_X8_55 dX8_gainInAllOrders_38 ?_
      refine g_iconst K1 1 dX8_gainInAllOrders_41 rfl ?_
      refine g_isub K1 dX8_gainInAllOrders_42 ?_
      refine g_iload K1 0 dX8_gainInAllOrders_43 rfl ?_
      refine g_isub K1 dX8_gainInAllOrders_45 ?_
      obtain ⟨r4, hct, h⟩ := h
      refine h_callS K1 (st := [.int r3]) [.int (((I 12 4) - 1) - r2)] (hct w (gl g)) ok_X8_factorial ml_X8_52 ⟨Nat.le_of_ble_eq_true rfl, Nat.le_of_ble_eq_true rfl⟩ (Nat.le_of_ble_eq_true rfl) dX8_gainInAllOrders_46 ?_
      show q_Gs w g 49 [(4, .int r2), (0, .ref 88), (1, .int x1), (2, .int x2), (3, .int x3)] [.int r4, .int r3] (q_mm I L)
      refine g_imul K1 dX8_gainInAllOrders_49 ?_
      refine g_istore K1 dX8_gainInAllOrders_50 (by decide) rfl ?_
      refine g_iload_n K1 4 dX8_gainInAllOrders_52 rfl ?_
      refine g_iload K1 0 dX8_gainInAllOrders_53 rfl ?_
      refine g_aload_n K1 2 dX8_gainInAllOrders_55 rfl ?_
      refine g_iload_n K1 5 dX8_gainInAllOrders_56 rfl ?_
      refine g_iconst K1 1 dX8_gainInAllOrders_57 rfl ?_
      refine g_iload_n K1 3 dX8_gainInAllOrders_58 rfl ?_
      refine g_ishl K1 dX8_gainInAllOrders_59 ?_
      refine g_ior K1 dX8_gainInAllOrders_60 ?_
      obtain ⟨r5, I6, hct, h⟩ := h
      refine h_callV K1 (st := [.int (r3 * r4), .int x2]) [.int (x3 ||| ((1 : Int32) <<< (x1 &&& 31)))] (hct w (gl g)) q_clX8 lyp_88 rfl ok_X8_worthOf ml_X8_58 ⟨Nat.le_of_ble_eq_true rfl, Nat.le_of_ble_eq_true rfl⟩ (Nat.le_of_ble_eq_true rfl) dX8_gainInAllOrders_61 ?_
      show q_Gs w g 64 [(5, .int (r3 * r4)), (4, .int r2), (0, .ref 88), (1, .int x1), (2, .int x2), (3, .int x3)] [.int r5, .int (r3 * r4), .int x2] (q_mm I6 L)
      refine g_aload_n K1 2 dX8_gainInAllOrders_64 rfl ?_
      refine g_iload_n K1 5 dX8_gainInAllOrders_65 rfl ?_
      obtain ⟨r7, I8, hct, h⟩ := h
      refine h_callV K1 (st := [.int r5, .int (r3 * r4), .int x2]) [.int x3] (hct w (gl g)) q_clX8 lyp_88 rfl ok_X8_worthOf ml_X8_58 ⟨Nat.le_of_ble_eq_true rfl, Nat.le_of_ble_eq_true rfl⟩ (Nat.le_of_ble_eq_true rfl) dX8_gainInAllOrders_66 ?_
      show q_Gs w g 69 [(5, .int (r3 * r4)), (4, .int r2), (0, .ref 88), (1, .int x1), (2, .int x2), (3, .int x3)] [.int r7, .int r5, .int (r3 * r4), .int x2] (q_mm I8 L)
      refine g_isub K1 dX8_gainInAllOrders_69 ?_
      refine g_imul K1 dX8_gainInAllOrders_70 ?_
      refine g_iadd K1 dX8_gainInAllOrders_71 ?_
      refine g_istore_n K1 dX8_gainInAllOrders_72 rfl (by decide) rfl ?_
      refine g_iinc K1 (x3 + 1) 5 dX8_gainInAllOrders_73 rfl rfl (by decide) rfl ?_
      refine g_goto K1 4 dX8_gainInAllOrders_76 rfl ?_
      exact g_perm [4, 5, 1, 0] rfl (h w g K)
theorem c0_X8_gainInAllOrders {r : Option Value} {I I' : Nat → Nat → Int32} {L L' : Nat → Nat → Int64} {x1 : Int32} (h : v_X8_gainInAllOrders_0 r I' L' I L x1) : q_C kX8_gainInAllOrders [.ref 88, .int x1] I L r I' L' := fun w l => q_ct (by decide) (Nat.le_of_ble_eq_true rfl) (Nat.le_refl _) (fun g _ K => h w g K)
abbrev v_X8_leastLightingAll_0 (r : Option Value) (I' : Nat → Nat → Int32) (L' : Nat → Nat → Int64) (I : Nat → Nat → Int32) (L : Nat → Nat → Int64)  : Prop := q_W kX8_leastLightingAll 0 [(0, .ref 88)] [] I L r I' L'
abbrev v_X8_leastLightingAll_4 (r : Option Value) (I' : Nat → Nat → Int32) (L' : Nat → Nat → Int64) (I : Nat → Nat → Int32) (L : Nat → Nat → Int64) (x1 : Int32) (x2 : Int32) : Prop := q_W kX8_leastLightingAll 4 [(0, .ref 88), (1, .int x1), (2, .int x2)] [] I L r I' L'
abbrev v_X8_leastLightingAll_36 (r : Option Value) (I' : Nat → Nat → Int32) (L' : Nat → Nat → Int64) (I : Nat → Nat → Int32) (L : Nat → Nat → Int64) (x1 : Int32) (x2 : Int32) (s0 : Int32) : Prop := q_W kX8_leastLightingAll 36 [(0, .ref 88), (1, .int x1), (2, .int x2)] [.int s0] I L r I' L'
set_option maxRecDepth 20000 in
set_option maxHeartbeats 2000000 in
theorem vc_X8_leastLightingAll_0 {r : Option Value} {I' : Nat → Nat → Int32} {L' : Nat → Nat → Int64} {I : Nat → Nat → Int32} {L : Nat → Nat → Int64}  (h : (v_X8_leastLightingAll_4 r I' L' I L (-1) 0)) : v_X8_leastLightingAll_0 r I' L' I L  := by
  intro w g K
  have K1 := K.1
  refine g_iconst K1 (-1) dX8_leastLightingAll_0 rfl ?_
  refine g_istore_n K1 dX8_leastLightingAll_1 rfl (by decide) rfl ?_
  refine g_iconst K1 0 dX8_leastLightingAll_2 rfl ?_
  refine g_istore_n K1 dX8_leastLightingAll_3 rfl (by decide) rfl ?_
  exact g_perm [2, 1, 0] rfl (h w g K)
set_option maxRecDepth 20000 in
set_option maxHeartbeats 2000000 in
theorem vc_X8_leastLightingAll_4 {r : Option Value} {I' : Nat → Nat → Int32} {L' : Nat → Nat → Int64} {I : Nat → Nat → Int32} {L : Nat → Nat → Int64} {x1 : Int32} {x2 : Int32} (h : (∃ r1, q_C kX5_allPews [.ref 12] I L (some (.int r1)) I L ∧ ((r1 < x2 → (r = some (.int x1) ∧ I' = I ∧ L' = L)) ∧ (¬ r1 < x2 → ((x1 = (-1) → (v_X8_leastLightingAll_36 r I' L' I L x1 x2 1)) ∧ (¬ x1 = (-1) → (∃ r2, q_C kJ6_bitCount_0f7a4 [.int x2] I L (some (.int r2)) I L ∧ (∃ r3, q_C kJ6_bitCount_0f7a4 [.int x1] I L (some (.int r3)) I L ∧ ((r3 ≤ r2 → (v_X8_leastLightingAll_36 r I' L' I L x1 x2 0)) ∧ (¬ r3 ≤ r2 → (v_X8_leastLightingAll_36 r I' L' I L x1 x2 1))))))))))) : v_X8_leastLightingAll_4 r I' L' I L x1 x2 := by
  intro w g K
  have K1 := K.1
  refine g_iload_n K1 2 dX8_leastLightingAll_4 rfl ?_
  refine g_aload_n K1 0 dX8_leastLightingAll_5 rfl ?_
  refine h_getO K1 q_clX8 1 12 lyp_88 fkX8_1 rfl fl_X8_15 dX8_leastLightingAll_6 ?_
  obtain ⟨r1, hct, h⟩ := h
  refine h_callV K1 (st := [.int x2]) [] (hct w (gl g)) q_clX5 lyp_12 rfl ok_X5_allPews ml_X8_42 ⟨Nat.le_of_ble_eq_true rfl, Nat.le_of_ble_eq_true rfl⟩ (Nat.le_of_ble_eq_true rfl) dX8_leastLightingAll_9 ?_
  show q_Gs w g 12 [(0, .ref 88), (1, .int x1), (2, .int x2)] [.int r1, .int x2] (q_mm I L)
  refine g_icmp_gt K1 64 dX8_leastLightingAll_12 rfl (fun hc => ?_) (fun hc => ?_)
  · replace h := h.1 hc
    refine g_iload_n K1 1 dX8_leastLightingAll_64 rfl ?_
    obtain ⟨hr, hI, hL⟩ := h
    subst hr hI hL
    exact g_ireturn K rfl dX8_leastLightingAll_65
  · replace h := h.2 hc
    refine g_iload_n K1 1 dX8_leastLightingAll_15 rfl ?_
    refine g_iconst K1 (-1) dX8_leastLightingAll_16 rfl ?_
    refine g_icmp_eq K1 31 dX8_leastLightingAll_17 rfl (fun hc => ?_) (fun hc => ?_)
    · replace h := h.1 hc
      refine g_iconst K1 1 dX8_leastLightingAll_31 rfl ?_
      refine g_goto K1 36 dX8_leastLightingAll_32 rfl ?_
      exact g_perm [0, 1, 2] rfl (h w g K)
    · replace h := h.2 hc
      refine g_iload_n K1 2 dX8_leastLightingAll_20 rfl ?_
      obtain ⟨r2, hct, h⟩ := h
      refine h_callS K1 (st := []) [.int x2] (hct w (gl g)) ok_J6_bitCount_0f7a4 ml_X8_46 ⟨Nat.le_of_ble_eq_true rfl, Nat.le_of_ble_eq_true rfl⟩ (Nat.le_of_ble_eq_true rfl) dX8_leastLightingAll_21 ?_
      show q_Gs w g 24 [(0, .ref 88), (1, .int x1), (2, .int x2)] [.int r2] (q_mm I L)
      refine g_iload_n K1 1 dX8_leastLightingAll_24 rfl ?_
      obtain ⟨r3, hct, h⟩ := h
      refine h_callS K1 (st := [.int r2]) [.int x1] (hct w (gl g)) ok_J6_bitCount_0f7a4 ml_X8_46 ⟨Nat.le_of_ble_eq_true rfl, Nat.le_of_ble_eq_true rfl⟩ (Nat.le_of_ble_eq_true rfl) dX8_leastLightingAll_25 ?_
      show q_Gs w g 28 [(0, .ref 88), (1, .int x1), (2, .int x2)] [.int r3, .int r2] (q_mm I L)
      refine g_icmp_ge K1 35 dX8_leastLightingAll_28 rfl (fun hc => ?_) (fun hc => ?_)
      · replace h := h.1 hc
        refine g_iconst K1 0 dX8_leastLightingAll_35 rfl ?_
        exact g_perm [0, 1, 2] rfl (h w g K)
      · replace h := h.2 hc
        refine g_iconst K1 1 dX8_leastLightingAll_31 rfl ?_
        refine g_goto K1 36 dX8_leastLightingAll_32 rfl ?_
        exact g_perm [0, 1, 2] rfl (h w g K)
set_option maxRecDepth 20000 in
set_option maxHeartbeats 2000000 in
theorem vc_X8_leastLightingAll_36 {r : Option Value} {I' : Nat → Nat → Int32} {L' : Nat → Nat → Int64} {I : Nat → Nat → Int32} {L : Nat → Nat → Int64} {x1 : Int32} {x2 : Int32} {s0 : Int32} (h : ((s0 = 0 → (v_X8_leastLightingAll_4 r I' L' I L x1 (x2 + 1))) ∧ (¬ s0 = 0 → (∃ r1 I2, q_C kX8_worthOf [.ref 88, .int x2] I L (some (.int r1)) I2 L ∧ ((r1 = (I2 12 4) → (v_X8_leastLightingAll_4 r I' L' I2 L x2 (x2 + 1))) ∧ (¬ r1 = (I2 12 4) → (v_X8_leastLightingAll_4 r I' L' I2 L x1 (x2 + 1)))))))) : v_X8_leastLightingAll_36 r I' L' I L x1 x2 s0 := by
  intro w g K
  have K1 := K.1
  refine g_istore_n K1 dX8_leastLightingAll_36 rfl (by decide) rfl ?_
  refine g_iload_n K1 0 dX8_leastLightingAll_37 rfl ?_
  refine g_if_eq K1 58 dX8_leastLightingAll_38 rfl (fun hc => ?_) (fun hc => ?_)
  · replace h := h.1 hc
    refine g_iinc K1 (x2 + 1) 3 dX8_leastLightingAll_58 rfl rfl (by decide) rfl ?_
    refine g_goto K1 4 dX8_leastLightingAll_61 rfl ?_
    exact g_perm [2, 3, 0] rfl (h w g K)
  · replace h := h.2 hc
    refine g_aload_n K1 1 dX8_leastLightingAll_41 rfl ?_
    refine g_iload_n K1 3 dX8_leastLightingAll_42 rfl ?_
    obtain ⟨r1, I2, hct, h⟩ := h
    refine h_callV K1 (st := []) [.int x2] (hct w (gl g)) q_clX8 lyp_88 rfl ok_X8_worthOf ml_X8_58 ⟨Nat.le_of_ble_eq_true rfl, Nat.le_of_ble_eq_true rfl⟩ (Nat.le_of_ble_eq_true rfl) dX8_leastLightingAll_43 ?_
    show q_Gs w g 46 [(3, .int s0), (0, .ref 88), (1, .int x1), (2, .int x2)] [.int r1] (q_mm I2 L)
    refine g_aload_n K1 1 dX8_leastLightingAll_46 rfl ?_
    refine h_getO K1 q_clX8 1 12 lyp_88 fkX8_1 rfl fl_X8_15 dX8_leastLightingAll_47 ?_
    refine h_getI K1 q_clX5 4 lyp_12 fkX5_4 fl_X8_55 dX8_leastLightingAll_50 ?_
    refine g_icmp_ne K1 58 dX8_leastLightingAll_53 rfl (fun hc => ?_) (fun hc => ?_)
    · replace h := h.2 hc
      refine g_iinc K1 (x2 + 1) 3 dX8_leastLightingAll_58 rfl rfl (by decide) rfl ?_
      refine g_goto K1 4 dX8_leastLightingAll_61 rfl ?_
      exact g_perm [2, 3, 0] rfl (h w g K)
    · replace h := h.1 hc
      refine g_iload_n K1 3 dX8_leastLightingAll_56 rfl ?_
      refine g_istore_n K1 dX8_leastLightingAll_57 rfl (by decide) rfl ?_
      refine g_iinc K1 (x2 + 1) 3 dX8_leastLightingAll_58 rfl rfl (by decide) rfl ?_
      refine g_goto K1 4 dX8_leastLightingAll_61 rfl ?_
      exact g_perm [3, 1, 0] rfl (h w g K)
theorem c0_X8_leastLightingAll {r : Option Value} {I I' : Nat → Nat → Int32} {L L' : Nat → Nat → Int64}  (h : v_X8_leastLightingAll_0 r I' L' I L ) : q_C kX8_leastLightingAll [.ref 88] I L r I' L' := fun w l => q_ct (by decide) (Nat.le_of_ble_eq_true rfl) (Nat.le_refl _) (fun g _ K => h w g K)
abbrev v_X8_worthOf_0 (r : Option Value) (I' : Nat → Nat → Int32) (L' : Nat → Nat → Int64) (I : Nat → Nat → Int32) (L : Nat → Nat → Int64) (x1 : Int32) : Prop := q_W kX8_worthOf 0 [(0, .ref 88), (1, .int x1)] [] I L r I' L'
set_option maxRecDepth 20000 in
set_option maxHeartbeats 2000000 in
theorem vc_X8_worthOf_0 {r : Option Value} {I' : Nat → Nat → Int32} {L' : Nat → Nat → Int64} {I : Nat → Nat → Int32} {L : Nat → Nat → Int64} {x1 : Int32} (h : (vp_in x1 128 ∧ (((I 89 x1.toNatClampNeg) = (-1) → (∃ I1, q_C kX3_tellAlone [.ref 81, .int x1, .int 1] I L none I1 L ∧ (∃ r2 I3, q_C kX3_run [.ref 81, .int 0, .int (I1 12 1)] I1 L (some (.int r2)) I3 L ∧ (vp_in x1 128 ∧ (vp_in x1 128 ∧ (r = some (.int ((up2 I3 89 x1.toNatClampNeg r2) 89 x1.toNatClampNeg)) ∧ I' = (up2 I3 89 x1.toNatClampNeg r2) ∧ L' = L)))))) ∧ (¬ (I 89 x1.toNatClampNeg) = (-1) → (vp_in x1 128 ∧ (r = some (.int (I 89 x1.toNatClampNeg)) ∧ I' = I ∧ L' = L)))))) : v_X8_worthOf_0 r I' L' I L x1 := by
  intro w g K
  have K1 := K.1
  refine g_aload_n K1 0 dX8_worthOf_0 rfl ?_
  refine h_getO K1 q_clX8 0 89 lyp_88 fkX8_0 rfl fl_X8_9 dX8_worthOf_1 ?_
  refine g_iload_n K1 1 dX8_worthOf_4 rfl ?_
  obtain ⟨hg, h⟩ := h
  refine h_iaload K1 lyp_89 hg dX8_worthOf_5 ?_
  refine g_iconst K1 (-1) dX8_worthOf_6 rfl ?_
  refine g_icmp_ne K1 40 dX8_worthOf_7 rfl (fun hc => ?_) (fun hc => ?_)
  · replace h := h.2 hc
    refine g_aload_n K1 0 dX8_worthOf_40 rfl ?_
    refine h_getO K1 q_clX8 0 89 lyp_88 fkX8_0 rfl fl_X8_9 dX8_worthOf_41 ?_
    refine g_iload_n K1 1 dX8_worthOf_44 rfl ?_
    obtain ⟨hg, h⟩ := h
    refine h_iaload K1 lyp_89 hg dX8_worthOf_45 ?_
    obtain ⟨hr, hI, hL⟩ := h
    subst hr hI hL
    exact g_ireturn K rfl dX8_worthOf_46
  · replace h := h.1 hc
    refine g_aload_n K1 0 dX8_worthOf_10 rfl ?_
    refine h_getO K1 q_clX8 2 81 lyp_88 fkX8_2 rfl fl_X8_19 dX8_worthOf_11 ?_
    refine g_iload_n K1 1 dX8_worthOf_14 rfl ?_
    refine g_iconst K1 1 dX8_worthOf_15 rfl ?_
    obtain ⟨I1, hct, h⟩ := h
    refine h_callV K1 (st := []) [.int x1, .int 1] (hct w (gl g)) q_clX3 lyp_81 rfl ok_X3_tellAlone ml_X8_26 ⟨Nat.le_of_ble_eq_true rfl, Nat.le_of_ble_eq_true rfl⟩ (Nat.le_of_ble_eq_true rfl) dX8_worthOf_16 ?_
    show q_Gs w g 19 [(0, .ref 88), (1, .int x1)] [] (q_mm I1 L)
    refine g_aload_n K1 0 dX8_worthOf_19 rfl ?_
    refine h_getO K1 q_clX8 0 89 lyp_88 fkX8_0 rfl fl_X8_9 dX8_worthOf_20 ?_
    refine g_iload_n K1 1 dX8_worthOf_23 rfl ?_
    refine g_aload_n K1 0 dX8_worthOf_24 rfl ?_
    refine h_getO K1 q_clX8 2 81 lyp_88 fkX8_2 rfl fl_X8_19 dX8_worthOf_25 ?_
    refine g_iconst K1 0 dX8_worthOf_28 rfl ?_
    refine g_aload_n K1 0 dX8_worthOf_29 rfl ?_
    refine h_getO K1 q_clX8 1 12 lyp_88 fkX8_1 rfl fl_X8_15 dX8_worthOf_30 ?_
    refine h_getI K1 q_clX5 1 lyp_12 fkX5_1 fl_X8_32 dX8_worthOf_33 ?_
    obtain ⟨r2, I3, hct, h⟩ := h
    refine h_callV K1 (st := [.int x1, .ref 89]) [.int 0, .int (I1 12 1)] (hct w (gl g)) q_clX3 lyp_81 rfl ok_X3_run ml_X8_38 ⟨Nat.le_of_ble_eq_true rfl, Nat.le_of_ble_eq_true rfl⟩ (Nat.le_of_ble_eq_true rfl) dX8_worthOf_36 ?_
    show q_Gs w g 39 [(0, .ref 88), (1, .int x1)] [.int r2, .int x1, .ref 89] (q_mm I3 L)
    obtain ⟨hg, h⟩ := h
    refine h_iastore K1 lyp_89 hg dX8_worthOf_39 ?_
    refine g_aload_n K1 0 dX8_worthOf_40 rfl ?_
    refine h_getO K1 q_clX8 0 89 lyp_88 fkX8_0 rfl fl_X8_9 dX8_worthOf_41 ?_
    refine g_iload_n K1 1 dX8_worthOf_44 rfl ?_
    obtain ⟨hg, h⟩ := h
    refine h_iaload K1 lyp_89 hg dX8_worthOf_45 ?_
    obtain ⟨hr, hI, hL⟩ := h
    subst hr hI hL
    exact g_ireturn K rfl dX8_worthOf_46
theorem c0_X8_worthOf {r : Option Value} {I I' : Nat → Nat → Int32} {L L' : Nat → Nat → Int64} {x1 : Int32} (h : v_X8_worthOf_0 r I' L' I L x1) : q_C kX8_worthOf [.ref 88, .int x1] I L r I' L' := fun w l => q_ct (by decide) (Nat.le_of_ble_eq_true rfl) (Nat.le_refl _) (fun g _ K => h w g K)
abbrev v_X9_areBeyond_0 (r : Option Value) (I' : Nat → Nat → Int32) (L' : Nat → Nat → Int64) (I : Nat → Nat → Int32) (L : Nat → Nat → Int64) (x1 : Int32) (x2 : Int32) (x3 : Int32) : Prop := q_W kX9_areBeyond 0 [(0, .ref 25), (1, .int x1), (2, .int x2), (3, .int x3)] [] I L r I' L'
set_option maxRecDepth 20000 in
set_option maxHeartbeats 2000000 in
theorem vc_X9_areBeyond_0 {r : Option Value} {I' : Nat → Nat → Int32} {L' : Nat → Nat → Int64} {I : Nat → Nat → Int32} {L : Nat → Nat → Int64} {x1 : Int32} {x2 : Int32} {x3 : Int32} (h : ((x2 < 0 → (r = some (.int 1) ∧ I' = I ∧ L' = L)) ∧ (¬ x2 < 0 → ((x3 < 0 → (r = some (.int 1) ∧ I' = I ∧ L' = L)) ∧ (¬ x3 < 0 → (vp_in x1 4 ∧ (((lg_cmp (x2.toInt64 + x3.toInt64) ((I 27 x1.toNatClampNeg) : Int32).toInt64) ≤ 0 → (r = some (.int 0) ∧ I' = I ∧ L' = L)) ∧ (¬ (lg_cmp (x2.toInt64 + x3.toInt64) ((I 27 x1.toNatClampNeg) : Int32).toInt64) ≤ 0 → (r = some (.int 1) ∧ I' = I ∧ L' = L))))))))) : v_X9_areBeyond_0 r I' L' I L x1 x2 x3 := by
  intro w g K
  have K1 := K.1
  refine g_iload_n K1 2 dX9_areBeyond_0 rfl ?_
  refine g_if_lt K1 24 dX9_areBeyond_1 rfl (fun hc => ?_) (fun hc => ?_)
  · replace h := h.1 hc
    refine g_iconst K1 1 dX9_areBeyond_24 rfl ?_
    refine g_goto K1 29 dX9_areBeyond_25 rfl ?_
    obtain ⟨hr, hI, hL⟩ := h
    subst hr hI hL
    exact g_zreturn K rfl (by decide) dX9_areBeyond_29
  · replace h := h.2 hc
    refine g_iload_n K1 3 dX9_areBeyond_4 rfl ?_
    refine g_if_lt K1 24 dX9_areBeyond_5 rfl (fun hc => ?_) (fun hc => ?_)
    · replace h := h.1 hc
      refine g_iconst K1 1 dX9_areBeyond_24 rfl ?_
      refine g_goto K1 29 dX9_areBeyond_25 rfl ?_
      obtain ⟨hr, hI, hL⟩ := h
      subst hr hI hL
      exact g_zreturn K rfl (by decide) dX9_areBeyond_29
    · replace h := h.2 hc
      refine g_iload_n K1 2 dX9_areBeyond_8 rfl ?_
      refine g_i2l K1 dX9_areBeyond_9 ?_
      refine g_iload_n K1 3 dX9_areBeyond_10 rfl ?_
      refine g_i2l K1 dX9_areBeyond_11 ?_
      refine g_ladd K1 dX9_areBeyond_12 ?_
      refine g_aload_n K1 0 dX9_areBeyond_13 rfl ?_
      refine h_getO K1 q_clX9 1 27 lyp_25 fkX9_1 rfl fl_X9_15 dX9_areBeyond_14 ?_
      refine g_iload_n K1 1 dX9_areBeyond_17 rfl ?_
      obtain ⟨hg, h⟩ := h
      refine h_iaload K1 lyp_27 hg dX9_areBeyond_18 ?_
      refine g_i2l K1 dX9_areBeyond_19 ?_
      refine g_lcmp K1 dX9_areBeyond_20 ?_
      refine g_if_le K1 28 dX9_areBeyond_21 rfl (fun hc => ?_) (fun hc => ?_)
      · replace h := h.1 hc
        refine g_iconst K1 0 dX9_areBeyond_28 rfl ?_
        obtain ⟨hr, hI, hL⟩ := h
        subst hr hI hL
        exact g_zreturn K rfl (by decide) dX9_areBeyond_29
      · replace h := h.2 hc
        refine g_iconst K1 1 dX9_areBeyond_24 rfl ?_
        refine g_goto K1 29 dX9_areBeyond_25 rfl ?_
        obtain ⟨hr, hI, hL⟩ := h
        subst hr hI hL
        exact g_zreturn K rfl (by decide) dX9_areBeyond_29
theorem c0_X9_areBeyond {r : Option Value} {I I' : Nat → Nat → Int32} {L L' : Nat → Nat → Int64} {x1 : Int32} {x2 : Int32} {x3 : Int32} (h : v_X9_areBeyond_0 r I' L' I L x1 x2 x3) : q_C kX9_areBeyond [.ref 25, .int x1, .int x2, .int x3] I L r I' L' := fun w l => q_ct (by decide) (Nat.le_of_ble_eq_true rfl) (Nat.le_refl _) (fun g _ K => h w g K)
abbrev v_X9_begin_0 (r : Option Value) (I' : Nat → Nat → Int32) (L' : Nat → Nat → Int64) (I : Nat → Nat → Int32) (L : Nat → Nat → Int64) (x1 : Int32) (x2 : Int32) (x3 : Int32) : Prop := q_W kX9_begin 0 [(0, .ref 25), (1, .int x1), (2, .int x2), (3, .int x3)] [] I L r I' L'
abbrev v_X9_begin_17 (r : Option Value) (I' : Nat → Nat → Int32) (L' : Nat → Nat → Int64) (I : Nat → Nat → Int32) (L : Nat → Nat → Int64) (x1 : Int32) (x4 : Int32) : Prop := q_W kX9_begin 17 [(0, .ref 25), (1, .int x1), (4, .int x4)] [] I L r I' L'
set_option maxRecDepth 20000 in
set_option maxHeartbeats 2000000 in
theorem vc_X9_begin_0 {r : Option Value} {I' : Nat → Nat → Int32} {L' : Nat → Nat → Int64} {I : Nat → Nat → Int32} {L : Nat → Nat → Int64} {x1 : Int32} {x2 : Int32} {x3 : Int32} (h : (vp_in x1 4 ∧ (vp_in x1 4 ∧ (v_X9_begin_17 r I' L' (up2 (up2 I 26 x1.toNatClampNeg x2) 27 x1.toNatClampNeg x3) L x1 0)))) : v_X9_begin_0 r I' L' I L x1 x2 x3 := by
  intro w g K
  have K1 := K.1
  refine g_aload_n K1 0 dX9_begin_0 rfl ?_
  refine h_getO K1 q_clX9 0 26 lyp_25 fkX9_0 rfl fl_X9_11 dX9_begin_1 ?_
  refine g_iload_n K1 1 dX9_begin_4 rfl ?_
  refine g_iload_n K1 2 dX9_begin_5 rfl ?_
  obtain ⟨hg, h⟩ := h
  refine h_iastore K1 lyp_26 hg dX9_begin_6 ?_
  refine g_aload_n K1 0 dX9_begin_7 rfl ?_
  refine h_getO K1 q_clX9 1 27 lyp_25 fkX9_1 rfl fl_X9_15 dX9_begin_8 ?_
  refine g_iload_n K1 1 dX9_begin_11 rfl ?_
  refine g_iload_n K1 3 dX9_begin_12 rfl ?_
  obtain ⟨hg, h⟩ := h
  refine h_iastore K1 lyp_27 hg dX9_begin_13 ?_
  refine g_iconst K1 0 dX9_begin_14 rfl ?_
  refine g_istore K1 dX9_begin_15 (by decide) rfl ?_
  exact g_perm [1, 2, 0] rfl (h w g K)
set_option maxRecDepth 20000 in
set_option maxHeartbeats 2000000 in
theorem vc_X9_begin_17 {r : Option Value} {I' : Nat → Nat → Int32} {L' : Nat → Nat → Int64} {I : Nat → Nat → Int32} {L : Nat → Nat → Int64} {x1 : Int32} {x4 : Int32} (h : ((60 ≤ x4 → (r = none ∧ I' = I ∧ L' = L)) ∧ (¬ 60 ≤ x4 → (vp_in x1 4 ∧ ((29 ≤ (29 + x1.toNatClampNeg) ∧ (29 + x1.toNatClampNeg) < 33) ∧ vp_in x4 60 ∧ (v_X9_begin_17 r I' L' I (up2 L (29 + x1.toNatClampNeg) x4.toNatClampNeg 0) x1 (x4 + 1))))))) : v_X9_begin_17 r I' L' I L x1 x4 := by
  intro w g K
  have K1 := K.1
  refine g_iload K1 2 dX9_begin_17 rfl ?_
  refine g_bipush K1 60 dX9_begin_19 rfl ?_
  refine g_icmp_ge K1 40 dX9_begin_21 rfl (fun hc => ?_) (fun hc => ?_)
  · replace h := h.1 hc
    obtain ⟨hr, hI, hL⟩ := h
    subst hr hI hL
    exact g_vreturn K rfl dX9_begin_40
  · replace h := h.2 hc
    refine g_aload_n K1 0 dX9_begin_24 rfl ?_
    refine h_getO K1 q_clX9 2 28 lyp_25 fkX9_2 rfl fl_X9_20 dX9_begin_25 ?_
    refine g_iload_n K1 1 dX9_begin_28 rfl ?_
    obtain ⟨hg, h⟩ := h
    refine h_aaloadLL K1 hg dX9_begin_29 ?_
    refine g_iload K1 2 dX9_begin_30 rfl ?_
    refine g_lconst K1 0 dX9_begin_32 rfl ?_
    obtain ⟨hp, hg, h⟩ := h
    refine h_lastoreV K1 hp hg dX9_begin_33 ?_
    refine g_iinc K1 (x4 + 1) 2 dX9_begin_34 rfl rfl (by decide) rfl ?_
    refine g_goto K1 17 dX9_begin_37 rfl ?_
    exact g_perm [1, 2, 0] rfl (h w g K)
theorem c0_X9_begin {r : Option Value} {I I' : Nat → Nat → Int32} {L L' : Nat → Nat → Int64} {x1 : Int32} {x2 : Int32} {x3 : Int32} (h : v_X9_begin_0 r I' L' I L x1 x2 x3) : q_C kX9_begin [.ref 25, .int x1, .int x2, .int x3] I L r I' L' := fun w l => q_ct (by decide) (Nat.le_of_ble_eq_true rfl) (Nat.le_refl _) (fun g _ K => h w g K)
abbrev v_X9_hasRow_0 (r : Option Value) (I' : Nat → Nat → Int32) (L' : Nat → Nat → Int64) (I : Nat → Nat → Int32) (L : Nat → Nat → Int64) (x1 : Int32) : Prop := q_W kX9_hasRow 0 [(0, .ref 25), (1, .int x1)] [] I L r I' L'
set_option maxRecDepth 20000 in
set_option maxHeartbeats 2000000 in
theorem vc_X9_hasRow_0 {r : Option Value} {I' : Nat → Nat → Int32} {L' : Nat → Nat → Int64} {I : Nat → Nat → Int32} {L : Nat → Nat → Int64} {x1 : Int32} (h : (vp_in x1 4 ∧ (((I 26 x1.toNatClampNeg) = (-1) → (r = some (.int 0) ∧ I' = I ∧ L' = L)) ∧ (¬ (I 26 x1.toNatClampNeg) = (-1) → (r = some (.int 1) ∧ I' = I ∧ L' = L))))) : v_X9_hasRow_0 r I' L' I L x1 := by
  intro w g K
  have K1 := K.1
  refine g_aload_n K1 0 dX9_hasRow_0 rfl ?_
  refine h_getO K1 q_clX9 0 26 lyp_25 fkX9_0 rfl fl_X9_11 dX9_hasRow_1 ?_
  refine g_iload_n K1 1 dX9_hasRow_4 rfl ?_
  obtain ⟨hg, h⟩ := h
  refine h_iaload K1 lyp_26 hg dX9_hasRow_5 ?_
  refine g_iconst K1 (-1) dX9_hasRow_6 rfl ?_
  refine g_icmp_eq K1 14 dX9_hasRow_7 rfl (fun hc => ?_) (fun hc => ?_)
  · replace h := h.1 hc
    refine g_iconst K1 0 dX9_hasRow_14 rfl ?_
    obtain ⟨hr, hI, hL⟩ := h
    subst hr hI hL
    exact g_zreturn K rfl (by decide) dX9_hasRow_15
  · replace h := h.2 hc
    refine g_iconst K1 1 dX9_hasRow_10 rfl ?_
    refine g_goto K1 15 dX9_hasRow_11 rfl ?_
    obtain ⟨hr, hI, hL⟩ := h
    subst hr hI hL
    exact g_zreturn K rfl (by decide) dX9_hasRow_15
theorem c0_X9_hasRow {r : Option Value} {I I' : Nat → Nat → Int32} {L L' : Nat → Nat → Int64} {x1 : Int32} (h : v_X9_hasRow_0 r I' L' I L x1) : q_C kX9_hasRow [.ref 25, .int x1] I L r I' L' := fun w l => q_ct (by decide) (Nat.le_of_ble_eq_true rfl) (Nat.le_refl _) (fun g _ K => h w g K)
abbrev v_X9_noSlot_0 (r : Option Value) (I' : Nat → Nat → Int32) (L' : Nat → Nat → Int64) (I : Nat → Nat → Int32) (L : Nat → Nat → Int64) (x0 : Int32) : Prop := q_W kX9_noSlot 0 [(0, .int x0)] [] I L r I' L'
set_option maxRecDepth 20000 in
set_option maxHeartbeats 2000000 in
theorem vc_X9_noSlot_0 {r : Option Value} {I' : Nat → Nat → Int32} {L' : Nat → Nat → Int64} {I : Nat → Nat → Int32} {L : Nat → Nat → Int64} {x0 : Int32} (h : ((x0 < 0 → (r = some (.int 1) ∧ I' = I ∧ L' = L)) ∧ (¬ x0 < 0 → ((x0 < 4 → (r = some (.int 0) ∧ I' = I ∧ L' = L)) ∧ (¬ x0 < 4 → (r = some (.int 1) ∧ I' = I ∧ L' = L)))))) : v_X9_noSlot_0 r I' L' I L x0 := by
  intro w g K
  have K1 := K.1
  refine g_iload_n K1 0 dX9_noSlot_0 rfl ?_
  refine g_if_lt K1 9 dX9_noSlot_1 rfl (fun hc => ?_) (fun hc => ?_)
  · replace h := h.1 hc
    refine g_iconst K1 1 dX9_noSlot_9 rfl ?_
    refine g_goto K1 14 dX9_noSlot_10 rfl ?_
    obtain ⟨hr, hI, hL⟩ := h
    subst hr hI hL
    exact g_zreturn K rfl (by decide) dX9_noSlot_14
  · replace h := h.2 hc
    refine g_iload_n K1 0 dX9_noSlot_4 rfl ?_
    refine g_iconst K1 4 dX9_noSlot_5 rfl ?_
    refine g_icmp_lt K1 13 dX9_noSlot_6 rfl (fun hc => ?_) (fun hc => ?_)
    · replace h := h.1 hc
      refine g_iconst K1 0 dX9_noSlot_13 rfl ?_
      obtain ⟨hr, hI, hL⟩ := h
      subst hr hI hL
      exact g_zreturn K rfl (by decide) dX9_noSlot_14
    · replace h := h.2 hc
      refine g_iconst K1 1 dX9_noSlot_9 rfl ?_
      refine g_goto K1 14 dX9_noSlot_10 rfl ?_
      obtain ⟨hr, hI, hL⟩ := h
      subst hr hI hL
      exact g_zreturn K rfl (by decide) dX9_noSlot_14
theorem c0_X9_noSlot {r : Option Value} {I I' : Nat → Nat → Int32} {L L' : Nat → Nat → Int64} {x0 : Int32} (h : v_X9_noSlot_0 r I' L' I L x0) : q_C kX9_noSlot [.int x0] I L r I' L' := fun w l => q_ct (by decide) (Nat.le_of_ble_eq_true rfl) (Nat.le_refl _) (fun g _ K => h w g K)
abbrev v_X9_put_0 (r : Option Value) (I' : Nat → Nat → Int32) (L' : Nat → Nat → Int64) (I : Nat → Nat → Int32) (L : Nat → Nat → Int64) (x1 : Int32) (x2 : Int32) (x3 : Int64) : Prop := q_W kX9_put 0 [(0, .ref 25), (1, .int x1), (2, .int x2), (3, .long x3)] [] I L r I' L'
set_option maxRecDepth 20000 in
set_option maxHeartbeats 2000000 in
theorem vc_X9_put_0 {r : Option Value} {I' : Nat → Nat → Int32} {L' : Nat → Nat → Int64} {I : Nat → Nat → Int32} {L : Nat → Nat → Int64} {x1 : Int32} {x2 : Int32} {x3 : Int64} (h : (vp_in x1 4 ∧ ∀ z1 : Int32, z1 = (64 - ((8 : Int32) <<< ((I 26 x1.toNatClampNeg) &&& 31))) → (vp_in x1 4 ∧ ((29 ≤ (29 + x1.toNatClampNeg) ∧ (29 + x1.toNatClampNeg) < 33) ∧ vp_in x2 60 ∧ ∀ L2, L2 = (up2 L (29 + x1.toNatClampNeg) x2.toNatClampNeg ((x3 <<< (z1.toInt64 &&& 63)) >>> (z1.toInt64 &&& 63))) → (r = none ∧ I' = I ∧ L' = L2))))) : v_X9_put_0 r I' L' I L x1 x2 x3 := by
  intro w g K
  have K1 := K.1
  refine g_bipush K1 64 dX9_put_0 rfl ?_
  refine g_bipush K1 8 dX9_put_2 rfl ?_
  refine g_aload_n K1 0 dX9_put_4 rfl ?_
  refine h_getO K1 q_clX9 0 26 lyp_25 fkX9_0 rfl fl_X9_11 dX9_put_5 ?_
  refine g_iload_n K1 1 dX9_put_8 rfl ?_
  obtain ⟨hg, h⟩ := h
  refine h_iaload K1 lyp_26 hg dX9_put_9 ?_
  refine g_ishl K1 dX9_put_10 ?_
  refine g_isub K1 dX9_put_11 ?_
  refine g_nameI (fun z1 hz1 => ?_)
  replace h := h z1 hz1
  refine g_istore K1 dX9_put_12 (by decide) rfl ?_
  refine g_aload_n K1 1 dX9_put_14 rfl ?_
  refine h_getO K1 q_clX9 2 28 lyp_25 fkX9_2 rfl fl_X9_20 dX9_put_15 ?_
  refine g_iload_n K1 2 dX9_put_18 rfl ?_
  obtain ⟨hg, h⟩ := h
  refine h_aaloadLL K1 hg dX9_put_19 ?_
  refine g_iload_n K1 3 dX9_put_20 rfl ?_
  refine g_lload_n K1 4 dX9_put_21 rfl ?_
  refine g_iload K1 0 dX9_put_22 rfl ?_
  refine g_lshl K1 dX9_put_24 ?_
  refine g_iload K1 0 dX9_put_25 rfl ?_
  refine g_lshr K1 dX9_put_27 ?_
  obtain ⟨hp, hg, h⟩ := h
  refine h_lastoreV K1 hp hg dX9_put_28 ?_
  refine g_nameML (fun L2 hL2 => ?_)
  replace h := h L2 hL2
  obtain ⟨hr, hI, hL⟩ := h
  subst hr hI hL
  exact g_vreturn K rfl dX9_put_29
theorem c0_X9_put {r : Option Value} {I I' : Nat → Nat → Int32} {L L' : Nat → Nat → Int64} {x1 : Int32} {x2 : Int32} {x3 : Int64} (h : v_X9_put_0 r I' L' I L x1 x2 x3) : q_C kX9_put [.ref 25, .int x1, .int x2, .long x3] I L r I' L' := fun w l => q_ct (by decide) (Nat.le_of_ble_eq_true rfl) (Nat.le_refl _) (fun g _ K => h w g K)
abbrev v_X9_rowsHeld_0 (r : Option Value) (I' : Nat → Nat → Int32) (L' : Nat → Nat → Int64) (I : Nat → Nat → Int32) (L : Nat → Nat → Int64)  : Prop := q_W kX9_rowsHeld 0 [(0, .ref 25)] [] I L r I' L'
abbrev v_X9_rowsHeld_4 (r : Option Value) (I' : Nat → Nat → Int32) (L' : Nat → Nat → Int64) (I : Nat → Nat → Int32) (L : Nat → Nat → Int64) (x1 : Int32) (x2 : Int32) : Prop := q_W kX9_rowsHeld 4 [(0, .ref 25), (1, .int x1), (2, .int x2)] [] I L r I' L'
set_option maxRecDepth 20000 in
set_option maxHeartbeats 2000000 in
theorem vc_X9_rowsHeld_0 {r : Option Value} {I' : Nat → Nat → Int32} {L' : Nat → Nat → Int64} {I : Nat → Nat → Int32} {L : Nat → Nat → Int64}  (h : (v_X9_rowsHeld_4 r I' L' I L 0 0)) : v_X9_rowsHeld_0 r I' L' I L  := by
  intro w g K
  have K1 := K.1
  refine g_iconst K1 0 dX9_rowsHeld_0 rfl ?_
  refine g_istore_n K1 dX9_rowsHeld_1 rfl (by decide) rfl ?_
  refine g_iconst K1 0 dX9_rowsHeld_2 rfl ?_
  refine g_istore_n K1 dX9_rowsHeld_3 rfl (by decide) rfl ?_
  exact g_perm [2, 1, 0] rfl (h w g K)
set_option maxRecDepth 20000 in
set_option maxHeartbeats 2000000 in
theorem vc_X9_rowsHeld_4 {r : Option Value} {I' : Nat → Nat → Int32} {L' : Nat → Nat → Int64} {I : Nat → Nat → Int32} {L : Nat → Nat → Int64} {x1 : Int32} {x2 : Int32} (h : ((4 ≤ x2 → (r = some (.int x1) ∧ I' = I ∧ L' = L)) ∧ (¬ 4 ≤ x2 → (∃ r1, q_C kX9_hasRow [.ref 25, .int x2] I L (some (.int r1)) I L ∧ ((r1 = 0 → (v_X9_rowsHeld_4 r I' L' I L x1 (x2 + 1))) ∧ (¬ r1 = 0 → (v_X9_rowsHeld_4 r I' L' I L (x1 + 1) (x2 + 1)))))))) : v_X9_rowsHeld_4 r I' L' I L x1 x2 := by
  intro w g K
  have K1 := K.1
  refine g_iload_n K1 2 dX9_rowsHeld_4 rfl ?_
  refine g_iconst K1 4 dX9_rowsHeld_5 rfl ?_
  refine g_icmp_ge K1 26 dX9_rowsHeld_6 rfl (fun hc => ?_) (fun hc => ?_)
  · replace h := h.1 hc
    refine g_iload_n K1 1 dX9_rowsHeld_26 rfl ?_
    obtain ⟨hr, hI, hL⟩ := h
    subst hr hI hL
    exact g_ireturn K rfl dX9_rowsHeld_27
  · replace h := h.2 hc
    refine g_aload_n K1 0 dX9_rowsHeld_9 rfl ?_
    refine g_iload_n K1 2 dX9_rowsHeld_10 rfl ?_
    obtain ⟨r1, hct, h⟩ := h
    refine h_callV K1 (st := []) [.int x2] (hct w (gl g)) q_clX9 lyp_25 rfl ok_X9_hasRow ml_X9_23 ⟨Nat.le_of_ble_eq_true rfl, Nat.le_of_ble_eq_true rfl⟩ (Nat.le_of_ble_eq_true rfl) dX9_rowsHeld_11 ?_
    show q_Gs w g 14 [(0, .ref 25), (1, .int x1), (2, .int x2)] [.int r1] (q_mm I L)
    refine g_if_eq K1 20 dX9_rowsHeld_14 rfl (fun hc => ?_) (fun hc => ?_)
    · replace h := h.1 hc
      refine g_iinc K1 (x2 + 1) 2 dX9_rowsHeld_20 rfl rfl (by decide) rfl ?_
      refine g_goto K1 4 dX9_rowsHeld_23 rfl ?_
      exact g_perm [1, 2, 0] rfl (h w g K)
    · replace h := h.2 hc
      refine g_iinc K1 (x1 + 1) 1 dX9_rowsHeld_17 rfl rfl (by decide) rfl ?_
      refine g_iinc K1 (x2 + 1) 2 dX9_rowsHeld_20 rfl rfl (by decide) rfl ?_
      refine g_goto K1 4 dX9_rowsHeld_23 rfl ?_
      exact g_perm [2, 1, 0] rfl (h w g K)
theorem c0_X9_rowsHeld {r : Option Value} {I I' : Nat → Nat → Int32} {L L' : Nat → Nat → Int64}  (h : v_X9_rowsHeld_0 r I' L' I L ) : q_C kX9_rowsHeld [.ref 25] I L r I' L' := fun w l => q_ct (by decide) (Nat.le_of_ble_eq_true rfl) (Nat.le_refl _) (fun g _ K => h w g K)
abbrev v_X9_saying_0 (r : Option Value) (I' : Nat → Nat → Int32) (L' : Nat → Nat → Int64) (I : Nat → Nat → Int32) (L : Nat → Nat → Int64) (x1 : Int32) : Prop := q_W kX9_saying 0 [(0, .ref 25), (1, .int x1)] [] I L r I' L'
abbrev v_X9_saying_20 (r : Option Value) (I' : Nat → Nat → Int32) (L' : Nat → Nat → Int64) (I : Nat → Nat → Int32) (L : Nat → Nat → Int64) (x1 : Int32) (x2 : Int32) (x3 : Int32) (x4 : Int32) : Prop := q_W kX9_saying 20 [(0, .ref 25), (1, .int x1), (2, .int x2), (3, .int x3), (4, .int x4)] [] I L r I' L'
set_option maxRecDepth 20000 in
set_option maxHeartbeats 2000000 in
theorem vc_X9_saying_0 {r : Option Value} {I' : Nat → Nat → Int32} {L' : Nat → Nat → Int64} {I : Nat → Nat → Int32} {L : Nat → Nat → Int64} {x1 : Int32} (h : (vp_in x1 4 ∧ (((I 27 x1.toNatClampNeg) ≤ 6 → (v_X9_saying_20 r I' L' I L x1 (I 27 x1.toNatClampNeg) 0 0)) ∧ (¬ (I 27 x1.toNatClampNeg) ≤ 6 → (r = some (.int 0) ∧ I' = I ∧ L' = L))))) : v_X9_saying_0 r I' L' I L x1 := by
  intro w g K
  have K1 := K.1
  refine g_aload_n K1 0 dX9_saying_0 rfl ?_
  refine h_getO K1 q_clX9 1 27 lyp_25 fkX9_1 rfl fl_X9_15 dX9_saying_1 ?_
  refine g_iload_n K1 1 dX9_saying_4 rfl ?_
  obtain ⟨hg, h⟩ := h
  refine h_iaload K1 lyp_27 hg dX9_saying_5 ?_
  refine g_istore_n K1 dX9_saying_6 rfl (by decide) rfl ?_
  refine g_iload_n K1 0 dX9_saying_7 rfl ?_
  refine g_bipush K1 6 dX9_saying_8 rfl ?_
  refine g_icmp_le K1 15 dX9_saying_10 rfl (fun hc => ?_) (fun hc => ?_)
  · replace h := h.1 hc
    refine g_iconst K1 0 dX9_saying_15 rfl ?_
    refine g_istore_n K1 dX9_saying_16 rfl (by decide) rfl ?_
    refine g_iconst K1 0 dX9_saying_17 rfl ?_
    refine g_istore K1 dX9_saying_18 (by decide) rfl ?_
    exact g_perm [3, 4, 2, 1, 0] rfl (h w g K)
  · replace h := h.2 hc
    refine g_iconst K1 0 dX9_saying_13 rfl ?_
    obtain ⟨hr, hI, hL⟩ := h
    subst hr hI hL
    exact g_ireturn K rfl dX9_saying_14
set_option maxRecDepth 20000 in
set_option maxHeartbeats 2000000 in
theorem vc_X9_saying_20 {r : Option Value} {I' : Nat → Nat → Int32} {L' : Nat → Nat → Int64} {I : Nat → Nat → Int32} {L : Nat → Nat → Int64} {x1 : Int32} {x2 : Int32} {x3 : Int32} {x4 : Int32} (h : ((x2 ≤ x4 → (r = some (.int x3) ∧ I' = I ∧ L' = L)) ∧ (¬ x2 ≤ x4 → (vp_in x1 4 ∧ ((29 ≤ (29 + x1.toNatClampNeg) ∧ (29 + x1.toNatClampNeg) < 33) ∧ vp_in x4 60 ∧ (((lg_cmp (L (29 + x1.toNatClampNeg) x4.toNatClampNeg) 1) < 0 → (r = some (.int 0) ∧ I' = I ∧ L' = L)) ∧ (¬ (lg_cmp (L (29 + x1.toNatClampNeg) x4.toNatClampNeg) 1) < 0 → (((lg_cmp (L (29 + x1.toNatClampNeg) x4.toNatClampNeg) 4) ≤ 0 → (∃ r1, q_C kX7_with [.int x3, .int x4, .int ((L (29 + x1.toNatClampNeg) x4.toNatClampNeg) : Int64).toInt32] I L (some (.int r1)) I L ∧ (v_X9_saying_20 r I' L' I L x1 x2 r1 (x4 + 1)))) ∧ (¬ (lg_cmp (L (29 + x1.toNatClampNeg) x4.toNatClampNeg) 4) ≤ 0 → (r = some (.int 0) ∧ I' = I ∧ L' = L)))))))))) : v_X9_saying_20 r I' L' I L x1 x2 x3 x4 := by
  intro w g K
  have K1 := K.1
  refine g_iload K1 4 dX9_saying_20 rfl ?_
  refine g_iload_n K1 2 dX9_saying_22 rfl ?_
  refine g_icmp_ge K1 71 dX9_saying_23 rfl (fun hc => ?_) (fun hc => ?_)
  · replace h := h.1 hc
    refine g_iload_n K1 3 dX9_saying_71 rfl ?_
    obtain ⟨hr, hI, hL⟩ := h
    subst hr hI hL
    exact g_ireturn K rfl dX9_saying_72
  · replace h := h.2 hc
    refine g_aload_n K1 0 dX9_saying_26 rfl ?_
    refine h_getO K1 q_clX9 2 28 lyp_25 fkX9_2 rfl fl_X9_20 dX9_saying_27 ?_
    refine g_iload_n K1 1 dX9_saying_30 rfl ?_
    obtain ⟨hg, h⟩ := h
    refine h_aaloadLL K1 hg dX9_saying_31 ?_
    refine g_iload K1 4 dX9_saying_32 rfl ?_
    obtain ⟨hp, hg, h⟩ := h
    refine h_laloadV K1 hp hg dX9_saying_34 ?_
    refine g_lstore K1 dX9_saying_35 (by decide) rfl ?_
    refine g_lload K1 0 dX9_saying_37 rfl ?_
    refine g_lconst K1 1 dX9_saying_39 rfl ?_
    refine g_lcmp K1 dX9_saying_40 ?_
    refine g_if_lt K1 53 dX9_saying_41 rfl (fun hc => ?_) (fun hc => ?_)
    · replace h := h.1 hc
      refine g_iconst K1 0 dX9_saying_53 rfl ?_
      obtain ⟨hr, hI, hL⟩ := h
      subst hr hI hL
      exact g_ireturn K rfl dX9_saying_54
    · replace h := h.2 hc
      refine g_lload K1 0 dX9_saying_44 rfl ?_
      refine g_ldc2_w K1 4 dX9_saying_46 cn_X9_29 ?_
      refine g_lcmp K1 dX9_saying_49 ?_
      refine g_if_le K1 55 dX9_saying_50 rfl (fun hc => ?_) (fun hc => ?_)
      · replace h := h.1 hc
        refine g_iload_n K1 4 dX9_saying_55 rfl ?_
        refine g_iload K1 5 dX9_saying_56 rfl ?_
        refine g_lload K1 0 dX9_saying_58 rfl ?_
        refine g_l2i K1 dX9_saying_60 ?_
        obtain ⟨r1, hct, h⟩ := h
        refine h_callS K1 (st := []) [.int x3, .int x4, .int ((L (29 + x1.toNatClampNeg) x4.toNatClampNeg) : Int64).toInt32] (hct w (gl g)) ok_X7_with ml_X9_31 ⟨Nat.le_of_ble_eq_true rfl, Nat.le_of_ble_eq_true rfl⟩ (Nat.le_of_ble_eq_true rfl) dX9_saying_61 ?_
        show q_Gs w g 64 [(5, .long (L (29 + x1.toNatClampNeg) x4.toNatClampNeg)), (0, .ref 25), (1, .int x1), (2, .int x2), (3, .int x3), (4, .int x4)] [.int r1] (q_mm I L)
        refine g_istore_n K1 dX9_saying_64 rfl (by decide) rfl ?_
        refine g_iinc K1 (x4 + 1) 5 dX9_saying_65 rfl rfl (by decide) rfl ?_
        refine g_goto K1 20 dX9_saying_68 rfl ?_
        exact g_perm [3, 4, 5, 1, 0] rfl (h w g K)
      · replace h := h.2 hc
        refine g_iconst K1 0 dX9_saying_53 rfl ?_
        obtain ⟨hr, hI, hL⟩ := h
        subst hr hI hL
        exact g_ireturn K rfl dX9_saying_54
theorem c0_X9_saying {r : Option Value} {I I' : Nat → Nat → Int32} {L L' : Nat → Nat → Int64} {x1 : Int32} (h : v_X9_saying_0 r I' L' I L x1) : q_C kX9_saying [.ref 25, .int x1] I L r I' L' := fun w l => q_ct (by decide) (Nat.le_of_ble_eq_true rfl) (Nat.le_refl _) (fun g _ K => h w g K)
