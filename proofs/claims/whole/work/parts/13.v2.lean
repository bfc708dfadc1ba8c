abbrev v_X3_asNow_75_0 (r : Option Value) (I' : Nat → Nat → Int32) (L' : Nat → Nat → Int64) (I : Nat → Nat → Int32) (L : Nat → Nat → Int64)  : Prop := q_W kX3_asNow 0 [(0, .ref 75)] [] I L r I' L'
set_option maxRecDepth 20000 in
set_option maxHeartbeats 2000000 in
theorem vc_X3_asNow_75_0 {r : Option Value} {I' : Nat → Nat → Int32} {L' : Nat → Nat → Int64} {I : Nat → Nat → Int32} {L : Nat → Nat → Int64}  (h : ∀ I1, I1 = (up2 (up2 (up2 (up2 (up2 I 75 7 (I 12 2)) 75 8 0) 75 9 0) 75 10 (-1)) 75 11 (-1)) → (r = none ∧ I' = (up2 (up2 (up2 I1 75 12 (-1)) 75 13 (-1)) 75 14 0) ∧ L' = L)) : v_X3_asNow_75_0 r I' L' I L  := by
  intro w g K
  have K1 := K.1
  refine g_aload_n K1 0 dX3_asNow_0 rfl ?_
  refine g_aload_n K1 0 dX3_asNow_1 rfl ?_
  refine h_getO K1 q_clX3 5 12 lyp_75 fkX3_5 rfl fl_X3_27 dX3_asNow_2 ?_
  refine h_getI K1 q_clX5 2 lyp_12 fkX5_2 fl_X3_35 dX3_asNow_5 ?_
  refine h_putI K1 q_clX3 7 lyp_75 fkX3_7 fl_X3_41 rfl rfl rfl dX3_asNow_8 ?_
  refine g_aload_n K1 0 dX3_asNow_11 rfl ?_
  refine g_iconst K1 0 dX3_asNow_12 rfl ?_
  refine h_putI K1 q_clX3 8 lyp_75 fkX3_8 fl_X3_42 rfl rfl rfl dX3_asNow_13 ?_
  refine g_aload_n K1 0 dX3_asNow_16 rfl ?_
  refine g_iconst K1 0 dX3_asNow_17 rfl ?_
  refine h_putI K1 q_clX3 9 lyp_75 fkX3_9 fl_X3_45 rfl rfl rfl dX3_asNow_18 ?_
  refine g_aload_n K1 0 dX3_asNow_21 rfl ?_
  refine g_iconst K1 (-1) dX3_asNow_22 rfl ?_
  refine h_putI K1 q_clX3 10 lyp_75 fkX3_10 fl_X3_48 rfl rfl rfl dX3_asNow_23 ?_
  refine g_aload_n K1 0 dX3_asNow_26 rfl ?_
  refine g_iconst K1 (-1) dX3_asNow_27 rfl ?_
  refine h_putI K1 q_clX3 11 lyp_75 fkX3_11 fl_X3_51 rfl rfl rfl dX3_asNow_28 ?_
  refine g_nameMI (fun I1 hI1 => ?_)
  replace h := h I1 hI1
  refine g_aload_n K1 0 dX3_asNow_31 rfl ?_
  refine g_iconst K1 (-1) dX3_asNow_32 rfl ?_
  refine h_putI K1 q_clX3 12 lyp_75 fkX3_12 fl_X3_54 rfl rfl rfl dX3_asNow_33 ?_
  refine g_aload_n K1 0 dX3_asNow_36 rfl ?_
  refine g_iconst K1 (-1) dX3_asNow_37 rfl ?_
  refine h_putI K1 q_clX3 13 lyp_75 fkX3_13 fl_X3_57 rfl rfl rfl dX3_asNow_38 ?_
  refine g_aload_n K1 0 dX3_asNow_41 rfl ?_
  refine g_iconst K1 0 dX3_asNow_42 rfl ?_
  refine h_putI K1 q_clX3 14 lyp_75 fkX3_14 fl_X3_60 rfl (by decide) (by decide) dX3_asNow_43 ?_
  obtain ⟨hr, hI, hL⟩ := h
  subst hr hI hL
  exact g_vreturn K rfl dX3_asNow_46
theorem c0_X3_asNow_75 {r : Option Value} {I I' : Nat → Nat → Int32} {L L' : Nat → Nat → Int64}  (h : v_X3_asNow_75_0 r I' L' I L ) : q_C kX3_asNow [.ref 75] I L r I' L' := fun w l => q_ct (by decide) (Nat.le_of_ble_eq_true rfl) (Nat.le_refl _) (fun g _ K => h w g K)
abbrev v_X3_asNow_81_0 (r : Option Value) (I' : Nat → Nat → Int32) (L' : Nat → Nat → Int64) (I : Nat → Nat → Int32) (L : Nat → Nat → Int64)  : Prop := q_W kX3_asNow 0 [(0, .ref 81)] [] I L r I' L'
set_option maxRecDepth 20000 in
set_option maxHeartbeats 2000000 in
theorem vc_X3_asNow_81_0 {r : Option Value} {I' : Nat → Nat → Int32} {L' : Nat → Nat → Int64} {I : Nat → Nat → Int32} {L : Nat → Nat → Int64}  (h : ∀ I1, I1 = (up2 (up2 (up2 (up2 (up2 I 81 7 (I 12 2)) 81 8 0) 81 9 0) 81 10 (-1)) 81 11 (-1)) → (r = none ∧ I' = (up2 (up2 (up2 I1 81 12 (-1)) 81 13 (-1)) 81 14 0) ∧ L' = L)) : v_X3_asNow_81_0 r I' L' I L  := by
  intro w g K
  have K1 := K.1
  refine g_aload_n K1 0 dX3_asNow_0 rfl ?_
  refine g_aload_n K1 0 dX3_asNow_1 rfl ?_
  refine h_getO K1 q_clX3 5 12 lyp_81 fkX3_5 rfl fl_X3_27 dX3_asNow_2 ?_
  refine h_getI K1 q_clX5 2 lyp_12 fkX5_2 fl_X3_35 dX3_asNow_5 ?_
  refine h_putI K1 q_clX3 7 lyp_81 fkX3_7 fl_X3_41 rfl rfl rfl dX3_asNow_8 ?_
  refine g_aload_n K1 0 dX3_asNow_11 rfl ?_
  refine g_iconst K1 0 dX3_asNow_12 rfl ?_
  refine h_putI K1 q_clX3 8 lyp_81 fkX3_8 fl_X3_42 rfl rfl rfl dX3_asNow_13 ?_
  refine g_aload_n K1 0 dX3_asNow_16 rfl ?_
  refine g_iconst K1 0 dX3_asNow_17 rfl ?_
  refine h_putI K1 q_clX3 9 lyp_81 fkX3_9 fl_X3_45 rfl rfl rfl dX3_asNow_18 ?_
  refine g_aload_n K1 0 dX3_asNow_21 rfl ?_
  refine g_iconst K1 (-1) dX3_asNow_22 rfl ?_
  refine h_putI K1 q_clX3 10 lyp_81 fkX3_10 fl_X3_48 rfl rfl rfl dX3_asNow_23 ?_
  refine g_aload_n K1 0 dX3_asNow_26 rfl ?_
  refine g_iconst K1 (-1) dX3_asNow_27 rfl ?_
  refine h_putI K1 q_clX3 11 lyp_81 fkX3_11 fl_X3_51 rfl rfl rfl dX3_asNow_28 ?_
  refine g_nameMI (fun I1 hI1 => ?_)
  replace h := h I1 hI1
  refine g_aload_n K1 0 dX3_asNow_31 rfl ?_
  refine g_iconst K1 (-1) dX3_asNow_32 rfl ?_
  refine h_putI K1 q_clX3 12 lyp_81 fkX3_12 fl_X3_54 rfl rfl rfl dX3_asNow_33 ?_
  refine g_aload_n K1 0 dX3_asNow_36 rfl ?_
  refine g_iconst K1 (-1) dX3_asNow_37 rfl ?_
  refine h_putI K1 q_clX3 13 lyp_81 fkX3_13 fl_X3_57 rfl rfl rfl dX3_asNow_38 ?_
  refine g_aload_n K1 0 dX3_asNow_41 rfl ?_
  refine g_iconst K1 0 dX3_asNow_42 rfl ?_
  refine h_putI K1 q_clX3 14 lyp_81 fkX3_14 fl_X3_60 rfl (by decide) (by decide) dX3_asNow_43 ?_
  obtain ⟨hr, hI, hL⟩ := h
  subst hr hI hL
  exact g_vreturn K rfl dX3_asNow_46
theorem c0_X3_asNow_81 {r : Option Value} {I I' : Nat → Nat → Int32} {L L' : Nat → Nat → Int64}  (h : v_X3_asNow_81_0 r I' L' I L ) : q_C kX3_asNow [.ref 81] I L r I' L' := fun w l => q_ct (by decide) (Nat.le_of_ble_eq_true rfl) (Nat.le_refl _) (fun g _ K => h w g K)
abbrev v_X3_begin_75_0 (r : Option Value) (I' : Nat → Nat → Int32) (L' : Nat → Nat → Int64) (I : Nat → Nat → Int32) (L : Nat → Nat → Int64)  : Prop := q_W kX3_begin 0 [(0, .ref 75)] [] I L r I' L'
abbrev v_X3_begin_75_2 (r : Option Value) (I' : Nat → Nat → Int32) (L' : Nat → Nat → Int64) (I : Nat → Nat → Int32) (L : Nat → Nat → Int64) (x1 : Int32) : Prop := q_W kX3_begin 2 [(0, .ref 75), (1, .int x1)] [] I L r I' L'
abbrev v_X3_begin_75_54 (r : Option Value) (I' : Nat → Nat → Int32) (L' : Nat → Nat → Int64) (I : Nat → Nat → Int32) (L : Nat → Nat → Int64) (x1 : Int32) : Prop := q_W kX3_begin 54 [(0, .ref 75), (1, .int x1)] [] I L r I' L'
set_option maxRecDepth 20000 in
set_option maxHeartbeats 2000000 in
theorem vc_X3_begin_75_0 {r : Option Value} {I' : Nat → Nat → Int32} {L' : Nat → Nat → Int64} {I : Nat → Nat → Int32} {L : Nat → Nat → Int64}  (h : (v_X3_begin_75_2 r I' L' I L 0)) : v_X3_begin_75_0 r I' L' I L  := by
  intro w g K
  have K1 := K.1
  refine g_iconst K1 0 dX3_begin_0 rfl ?_
  refine g_istore_n K1 dX3_begin_1 rfl (by decide) rfl ?_
  exact g_perm [1, 0] rfl (h w g K)
set_option maxRecDepth 20000 in
set_option maxHeartbeats 2000000 in
theorem vc_X3_begin_75_2 {r : Option Value} {I' : Nat → Nat → Int32} {L' : Nat → Nat → Int64} {I : Nat → Nat → Int32} {L : Nat → Nat → Int64} {x1 : Int32} (h : (((I 12 4) ≤ x1 → (v_X3_begin_75_54 r I' L' I L 0)) ∧ (¬ (I 12 4) ≤ x1 → (∃ I1, q_C kX3_quench [.ref 75, .int x1] I L none I1 L ∧ (((I1 75 14) = 0 → (v_X3_begin_75_2 r I' L' I1 L (x1 + 1))) ∧ (¬ (I1 75 14) = 0 → (((((I1 75 15) >>> (x1 &&& 31)) &&& 1) = 0 → (v_X3_begin_75_2 r I' L' I1 L (x1 + 1))) ∧ (¬ (((I1 75 15) >>> (x1 &&& 31)) &&& 1) = 0 → (∃ I2, q_C kX3_kindle [.ref 75, .int x1, .int 0, .int (I1 75 16)] I1 L none I2 L ∧ (v_X3_begin_75_2 r I' L' I2 L (x1 + 1))))))))))) : v_X3_begin_75_2 r I' L' I L x1 := by
  intro w g K
  have K1 := K.1
  refine g_iload_n K1 1 dX3_begin_2 rfl ?_
  refine g_aload_n K1 0 dX3_begin_3 rfl ?_
  refine h_getO K1 q_clX3 5 12 lyp_75 fkX3_5 rfl fl_X3_27 dX3_begin_4 ?_
  refine h_getI K1 q_clX5 4 lyp_12 fkX5_4 fl_X3_95 dX3_begin_7 ?_
  refine g_icmp_ge K1 52 dX3_begin_10 rfl (fun hc => ?_) (fun hc => ?_)
  · replace h := h.1 hc
    refine g_iconst K1 0 dX3_begin_52 rfl ?_
    refine g_istore_n K1 dX3_begin_53 rfl (by decide) rfl ?_
    exact g_perm [1, 0] rfl (h w g K)
  · replace h := h.2 hc
    refine g_aload_n K1 0 dX3_begin_13 rfl ?_
    refine g_iload_n K1 1 dX3_begin_14 rfl ?_
    obtain ⟨I1, hct, h⟩ := h
    refine h_callV K1 (st := []) [.int x1] (hct w (gl g)) q_clX3 lyp_75 rfl ok_X3_quench ml_X3_98 ⟨Nat.le_of_ble_eq_true rfl, Nat.le_of_ble_eq_true rfl⟩ (Nat.le_of_ble_eq_true rfl) dX3_begin_15 ?_
    show q_Gs w g 18 [(0, .ref 75), (1, .int x1)] [] (q_mm I1 L)
    refine g_aload_n K1 0 dX3_begin_18 rfl ?_
    refine h_getI K1 q_clX3 14 lyp_75 fkX3_14 fl_X3_60 dX3_begin_19 ?_
    refine g_if_eq K1 46 dX3_begin_22 rfl (fun hc => ?_) (fun hc => ?_)
    · replace h := h.1 hc
      refine g_iinc K1 (x1 + 1) 1 dX3_begin_46 rfl rfl (by decide) rfl ?_
      refine g_goto K1 2 dX3_begin_49 rfl ?_
      exact g_perm [1, 0] rfl (h w g K)
    · replace h := h.2 hc
      refine g_aload_n K1 0 dX3_begin_25 rfl ?_
      refine h_getI K1 q_clX3 15 lyp_75 fkX3_15 fl_X3_67 dX3_begin_26 ?_
      refine g_iload_n K1 1 dX3_begin_29 rfl ?_
      refine g_ishr K1 dX3_begin_30 ?_
      refine g_iconst K1 1 dX3_begin_31 rfl ?_
      refine g_iand K1 dX3_begin_32 ?_
      refine g_if_eq K1 46 dX3_begin_33 rfl (fun hc => ?_) (fun hc => ?_)
      · replace h := h.1 hc
        refine g_iinc K1 (x1 + 1) 1 dX3_begin_46 rfl rfl (by decide) rfl ?_
        refine g_goto K1 2 dX3_begin_49 rfl ?_
        exact g_perm [1, 0] rfl (h w g K)
      · replace h := h.2 hc
        refine g_aload_n K1 0 dX3_begin_36 rfl ?_
        refine g_iload_n K1 1 dX3_begin_37 rfl ?_
        refine g_iconst K1 0 dX3_begin_38 rfl ?_
        refine g_aload_n K1 0 dX3_begin_39 rfl ?_
        refine h_getI K1 q_clX3 16 lyp_75 fkX3_16 fl_X3_70 dX3_begin_40 ?_
        obtain ⟨I2, hct, h⟩ := h
        refine h_callV K1 (st := []) [.int x1, .int 0, .int (I1 75 16)] (hct w (gl g)) q_clX3 lyp_75 rfl ok_X3_kindle ml_X3_101 ⟨Nat.le_of_ble_eq_true rfl, Nat.le_of_ble_eq_true rfl⟩ (Nat.le_of_ble_eq_true rfl) dX3_begin_43 ?_
        show q_Gs w g 46 [(0, .ref 75), (1, .int x1)] [] (q_mm I2 L)
        refine g_iinc K1 (x1 + 1) 1 dX3_begin_46 rfl rfl (by decide) rfl ?_
        refine g_goto K1 2 dX3_begin_49 rfl ?_
        exact g_perm [1, 0] rfl (h w g K)
set_option maxRecDepth 20000 in
set_option maxHeartbeats 2000000 in
theorem vc_X3_begin_75_54 {r : Option Value} {I' : Nat → Nat → Int32} {L' : Nat → Nat → Int64} {I : Nat → Nat → Int32} {L : Nat → Nat → Int64} {x1 : Int32} (h : (((I 12 6) ≤ x1 → (r = none ∧ I' = I ∧ L' = L)) ∧ (¬ (I 12 6) ≤ x1 → (((I 75 14) = 0 → (vp_in x1 4 ∧ (vp_in x1 4 ∧ (∃ I1, q_C kX3_kindle [.ref 75, .int (I 17 x1.toNatClampNeg), .int 0, .int (I 18 x1.toNatClampNeg)] I L none I1 L ∧ (v_X3_begin_75_54 r I' L' I1 L (x1 + 1)))))) ∧ (¬ (I 75 14) = 0 → (r = none ∧ I' = I ∧ L' = L)))))) : v_X3_begin_75_54 r I' L' I L x1 := by
  intro w g K
  have K1 := K.1
  refine g_iload_n K1 1 dX3_begin_54 rfl ?_
  refine g_aload_n K1 0 dX3_begin_55 rfl ?_
  refine h_getO K1 q_clX3 5 12 lyp_75 fkX3_5 rfl fl_X3_27 dX3_begin_56 ?_
  refine h_getI K1 q_clX5 6 lyp_12 fkX5_6 fl_X3_105 dX3_begin_59 ?_
  refine g_icmp_ge K1 101 dX3_begin_62 rfl (fun hc => ?_) (fun hc => ?_)
  · replace h := h.1 hc
    obtain ⟨hr, hI, hL⟩ := h
    subst hr hI hL
    exact g_vreturn K rfl dX3_begin_101
  · replace h := h.2 hc
    refine g_aload_n K1 0 dX3_begin_65 rfl ?_
    refine h_getI K1 q_clX3 14 lyp_75 fkX3_14 fl_X3_60 dX3_begin_66 ?_
    refine g_if_ne K1 101 dX3_begin_69 rfl (fun hc => ?_) (fun hc => ?_)
    · replace h := h.2 hc
      obtain ⟨hr, hI, hL⟩ := h
      subst hr hI hL
      exact g_vreturn K rfl dX3_begin_101
    · replace h := h.1 hc
      refine g_aload_n K1 0 dX3_begin_72 rfl ?_
      refine g_aload_n K1 0 dX3_begin_73 rfl ?_
      refine h_getO K1 q_clX3 5 12 lyp_75 fkX3_5 rfl fl_X3_27 dX3_begin_74 ?_
      refine h_getO K1 q_clX5 12 17 lyp_12 fkX5_12 rfl fl_X3_108 dX3_begin_77 ?_
      refine g_iload_n K1 1 dX3_begin_80 rfl ?_
      obtain ⟨hg, h⟩ := h
      refine h_iaload K1 lyp_17 hg dX3_begin_81 ?_
      refine g_iconst K1 0 dX3_begin_82 rfl ?_
      refine g_aload_n K1 0 dX3_begin_83 rfl ?_
      refine h_getO K1 q_clX3 5 12 lyp_75 fkX3_5 rfl fl_X3_27 dX3_begin_84 ?_
      refine h_getO K1 q_clX5 13 18 lyp_12 fkX5_13 rfl fl_X3_111 dX3_begin_87 ?_
      refine g_iload_n K1 1 dX3_begin_90 rfl ?_
      obtain ⟨hg, h⟩ := h
      refine h_iaload K1 lyp_18 hg dX3_begin_91 ?_
      obtain ⟨I1, hct, h⟩ := h
      refine h_callV K1 (st := []) [.int (I 17 x1.toNatClampNeg), .int 0, .int (I 18 x1.toNatClampNeg)] (hct w (gl g)) q_clX3 lyp_75 rfl ok_X3_kindle ml_X3_101 ⟨Nat.le_of_ble_eq_true rfl, Nat.le_of_ble_eq_true rfl⟩ (Nat.le_of_ble_eq_true rfl) dX3_begin_92 ?_
      show q_Gs w g 95 [(0, .ref 75), (1, .int x1)] [] (q_mm I1 L)
      refine g_iinc K1 (x1 + 1) 1 dX3_begin_95 rfl rfl (by decide) rfl ?_
      refine g_goto K1 54 dX3_begin_98 rfl ?_
      exact g_perm [1, 0] rfl (h w g K)
theorem c0_X3_begin_75 {r : Option Value} {I I' : Nat → Nat → Int32} {L L' : Nat → Nat → Int64}  (h : v_X3_begin_75_0 r I' L' I L ) : q_C kX3_begin [.ref 75] I L r I' L' := fun w l => q_ct (by decide) (Nat.le_of_ble_eq_true rfl) (Nat.le_refl _) (fun g _ K => h w g K)
abbrev v_X3_begin_81_0 (r : Option Value) (I' : Nat → Nat → Int32) (L' : Nat → Nat → Int64) (I : Nat → Nat → Int32) (L : Nat → Nat → Int64)  : Prop := q_W kX3_begin 0 [(0, .ref 81)] [] I L r I' L'
abbrev v_X3_begin_81_2 (r : Option Value) (I' : Nat → Nat → Int32) (L' : Nat → Nat → Int64) (I : Nat → Nat → Int32) (L : Nat → Nat → Int64) (x1 : Int32) : Prop := q_W kX3_begin 2 [(0, .ref 81), (1, .int x1)] [] I L r I' L'
abbrev v_X3_begin_81_54 (r : Option Value) (I' : Nat → Nat → Int32) (L' : Nat → Nat → Int64) (I : Nat → Nat → Int32) (L : Nat → Nat → Int64) (x1 : Int32) : Prop := q_W kX3_begin 54 [(0, .ref 81), (1, .int x1)] [] I L r I' L'
set_option maxRecDepth 20000 in
set_option maxHeartbeats 2000000 in
theorem vc_X3_begin_81_0 {r : Option Value} {I' : Nat → Nat → Int32} {L' : Nat → Nat → Int64} {I : Nat → Nat → Int32} {L : Nat → Nat → Int64}  (h : (v_X3_begin_81_2 r I' L' I L 0)) : v_X3_begin_81_0 r I' L' I L  := by
  intro w g K
  have K1 := K.1
  refine g_iconst K1 0 dX3_begin_0 rfl ?_
  refine g_istore_n K1 dX3_begin_1 rfl (by decide) rfl ?_
  exact g_perm [1, 0] rfl (h w g K)
set_option maxRecDepth 20000 in
set_option maxHeartbeats 2000000 in
theorem vc_X3_begin_81_2 {r : Option Value} {I' : Nat → Nat → Int32} {L' : Nat → Nat → Int64} {I : Nat → Nat → Int32} {L : Nat → Nat → Int64} {x1 : Int32} (h : (((I 12 4) ≤ x1 → (v_X3_begin_81_54 r I' L' I L 0)) ∧ (¬ (I 12 4) ≤ x1 → (∃ I1, q_C kX3_quench [.ref 81, .int x1] I L none I1 L ∧ (((I1 81 14) = 0 → (v_X3_begin_81_2 r I' L' I1 L (x1 + 1))) ∧ (¬ (I1 81 14) = 0 → (((((I1 81 15) >>> (x1 &&& 31)) &&& 1) = 0 → (v_X3_begin_81_2 r I' L' I1 L (x1 + 1))) ∧ (¬ (((I1 81 15) >>> (x1 &&& 31)) &&& 1) = 0 → (∃ I2, q_C kX3_kindle [.ref 81, .int x1, .int 0, .int (I1 81 16)] I1 L none I2 L ∧ (v_X3_begin_81_2 r I' L' I2 L (x1 + 1))))))))))) : v_X3_begin_81_2 r I' L' I L x1 := by
  intro w g K
  have K1 := K.1
  refine g_iload_n K1 1 dX3_begin_2 rfl ?_
  refine g_aload_n K1 0 dX3_begin_3 rfl ?_
  refine h_getO K1 q_clX3 5 12 lyp_81 fkX3_5 rfl fl_X3_27 dX3_begin_4 ?_
  refine h_getI K1 q_clX5 4 lyp_12 fkX5_4 fl_X3_95 dX3_begin_7 ?_
  refine g_icmp_ge K1 52 dX3_begin_10 rfl (fun hc => ?_) (fun hc => ?_)
  · replace h := h.1 hc
    refine g_iconst K1 0 dX3_begin_52 rfl ?_
    refine g_istore_n K1 dX3_begin_53 rfl (by decide) rfl ?_
    exact g_perm [1, 0] rfl (h w g K)
  · replace h := h.2 hc
    refine g_aload_n K1 0 dX3_begin_13 rfl ?_
    refine g_iload_n K1 1 dX3_begin_14 rfl ?_
    obtain ⟨I1, hct, h⟩ := h
    refine h_callV K1 (st := []) [.int x1] (hct w (gl g)) q_clX3 lyp_81 rfl ok_X3_quench ml_X3_98 ⟨Nat.le_of_ble_eq_true rfl, Nat.le_of_ble_eq_true rfl⟩ (Nat.le_of_ble_eq_true rfl) dX3_begin_15 ?_
    show q_Gs w g 18 [(0, .ref 81), (1, .int x1)] [] (q_mm I1 L)
    refine g_aload_n K1 0 dX3_begin_18 rfl ?_
    refine h_getI K1 q_clX3 14 lyp_81 fkX3_14 fl_X3_60 dX3_begin_19 ?_
    refine g_if_eq K1 46 dX3_begin_22 rfl (fun hc => ?_) (fun hc => ?_)
    · replace h := h.1 hc
      refine g_iinc K1 (x1 + 1) 1 dX3_begin_46 rfl rfl (by decide) rfl ?_
      refine g_goto K1 2 dX3_begin_49 rfl ?_
      exact g_perm [1, 0] rfl (h w g K)
    · replace h := h.2 hc
      refine g_aload_n K1 0 dX3_begin_25 rfl ?_
      refine h_getI K1 q_clX3 15 lyp_81 fkX3_15 fl_X3_67 dX3_begin_26 ?_
      refine g_iload_n K1 1 dX3_begin_29 rfl ?_
      refine g_ishr K1 dX3_begin_30 ?_
      refine g_iconst K1 1 dX3_begin_31 rfl ?_
      refine g_iand K1 dX3_begin_32 ?_
      refine g_if_eq K1 46 dX3_begin_33 rfl (fun hc => ?_) (fun hc => ?_)
      · replace h := h.1 hc
        refine g_iinc K1 (x1 + 1) 1 dX3_begin_46 rfl rfl (by decide) rfl ?_
        refine g_goto K1 2 dX3_begin_49 rfl ?_
        exact g_perm [1, 0] rfl (h w g K)
      · replace h := h.2 hc
        refine g_aload_n K1 0 dX3_begin_36 rfl ?_
        refine g_iload_n K1 1 dX3_begin_37 rfl ?_
        refine g_iconst K1 0 dX3_begin_38 rfl ?_
        refine g_aload_n K1 0 dX3_begin_39 rfl ?_
        refine h_getI K1 q_clX3 16 lyp_81 fkX3_16 fl_X3_70 dX3_begin_40 ?_
        obtain ⟨I2, hct, h⟩ := h
        refine h_callV K1 (st := []) [.int x1, .int 0, .int (I1 81 16)] (hct w (gl g)) q_clX3 lyp_81 rfl ok_X3_kindle ml_X3_101 ⟨Nat.le_of_ble_eq_true rfl, Nat.le_of_ble_eq_true rfl⟩ (Nat.le_of_ble_eq_true rfl) dX3_begin_43 ?_
        show q_Gs w g 46 [(0, .ref 81), (1, .int x1)] [] (q_mm I2 L)
        refine g_iinc K1 (x1 + 1) 1 dX3_begin_46 rfl rfl (by decide) rfl ?_
        refine g_goto K1 2 dX3_begin_49 rfl ?_
        exact g_perm [1, 0] rfl (h w g K)
set_option maxRecDepth 20000 in
set_option maxHeartbeats 2000000 in
theorem vc_X3_begin_81_54 {r : Option Value} {I' : Nat → Nat → Int32} {L' : Nat → Nat → Int64} {I : Nat → Nat → Int32} {L : Nat → Nat → Int64} {x1 : Int32} (h : (((I 12 6) ≤ x1 → (r = none ∧ I' = I ∧ L' = L)) ∧ (¬ (I 12 6) ≤ x1 → (((I 81 14) = 0 → (vp_in x1 4 ∧ (vp_in x1 4 ∧ (∃ I1, q_C kX3_kindle [.ref 81, .int (I 17 x1.toNatClampNeg), .int 0, .int (I 18 x1.toNatClampNeg)] I L none I1 L ∧ (v_X3_begin_81_54 r I' L' I1 L (x1 + 1)))))) ∧ (¬ (I 81 14) = 0 → (r = none ∧ I' = I ∧ L' = L)))))) : v_X3_begin_81_54 r I' L' I L x1 := by
  intro w g K
  have K1 := K.1
  refine g_iload_n K1 1 dX3_begin_54 rfl ?_
  refine g_aload_n K1 0 dX3_begin_55 rfl ?_
  refine h_getO K1 q_clX3 5 12 lyp_81 fkX3_5 rfl fl_X3_27 dX3_begin_56 ?_
  refine h_getI K1 q_clX5 6 lyp_12 fkX5_6 fl_X3_105 dX3_begin_59 ?_
  refine g_icmp_ge K1 101 dX3_begin_62 rfl (fun hc => ?_) (fun hc => ?_)
  · replace h := h.1 hc
    obtain ⟨hr, hI, hL⟩ := h
    subst hr hI hL
    exact g_vreturn K rfl dX3_begin_101
  · replace h := h.2 hc
    refine g_aload_n K1 0 dX3_begin_65 rfl ?_
    refine h_getI K1 q_clX3 14 lyp_81 fkX3_14 fl_X3_60 dX3_begin_66 ?_
    refine g_if_ne K1 101 dX3_begin_69 rfl (fun hc => ?_) (fun hc => ?_)
    · replace h := h.2 hc
      obtain ⟨hr, hI, hL⟩ := h
      subst hr hI hL
      exact g_vreturn K rfl dX3_begin_101
    · replace h := h.1 hc
      refine g_aload_n K1 0 dX3_begin_72 rfl ?_
      refine g_aload_n K1 0 dX3_begin_73 rfl ?_
      refine h_getO K1 q_clX3 5 12 lyp_81 fkX3_5 rfl fl_X3_27 dX3_begin_74 ?_
      refine h_getO K1 q_clX5 12 17 lyp_12 fkX5_12 rfl fl_X3_108 dX3_begin_77 ?_
      refine g_iload_n K1 1 dX3_begin_80 rfl ?_
      obtain ⟨hg, h⟩ := h
      refine h_iaload K1 lyp_17 hg dX3_begin_81 ?_
      refine g_iconst K1 0 dX3_begin_82 rfl ?_
      refine g_aload_n K1 0 dX3_begin_83 rfl ?_
      refine h_getO K1 q_clX3 5 12 lyp_81 fkX3_5 rfl fl_X3_27 dX3_begin_84 ?_
      refine h_getO K1 q_clX5 13 18 lyp_12 fkX5_13 rfl fl_X3_111 dX3_begin_87 ?_
      refine g_iload_n K1 1 dX3_begin_90 rfl ?_
      obtain ⟨hg, h⟩ := h
      refine h_iaload K1 lyp_18 hg dX3_begin_91 ?_
      obtain ⟨I1, hct, h⟩ := h
      refine h_callV K1 (st := []) [.int (I 17 x1.toNatClampNeg), .int 0, .int (I 18 x1.toNatClampNeg)] (hct w (gl g)) q_clX3 lyp_81 rfl ok_X3_kindle ml_X3_101 ⟨Nat.le_of_ble_eq_true rfl, Nat.le_of_ble_eq_true rfl⟩ (Nat.le_of_ble_eq_true rfl) dX3_begin_92 ?_
      show q_Gs w g 95 [(0, .ref 81), (1, .int x1)] [] (q_mm I1 L)
      refine g_iinc K1 (x1 + 1) 1 dX3_begin_95 rfl rfl (by decide) rfl ?_
      refine g_goto K1 54 dX3_begin_98 rfl ?_
      exact g_perm [1, 0] rfl (h w g K)
theorem c0_X3_begin_81 {r : Option Value} {I I' : Nat → Nat → Int32} {L L' : Nat → Nat → Int64}  (h : v_X3_begin_81_0 r I' L' I L ) : q_C kX3_begin [.ref 81] I L r I' L' := fun w l => q_ct (by decide) (Nat.le_of_ble_eq_true rfl) (Nat.le_refl _) (fun g _ K => h w g K)
abbrev v_X3_byLaw_0 (r : Option Value) (I' : Nat → Nat → Int32) (L' : Nat → Nat → Int64) (I : Nat → Nat → Int32) (L : Nat → Nat → Int64) (x1 : Int32) : Prop := q_W kX3_byLaw 0 [(0, .ref 81), (1, .int x1)] [] I L r I' L'
set_option maxRecDepth 20000 in
set_option maxHeartbeats 2000000 in
theorem vc_X3_byLaw_0 {r : Option Value} {I' : Nat → Nat → Int32} {L' : Nat → Nat → Int64} {I : Nat → Nat → Int32} {L : Nat → Nat → Int64} {x1 : Int32} (h : (∃ I1, q_C kX3_asNow [.ref 81] I L none I1 L ∧ (r = none ∧ I' = (up2 I1 81 7 x1) ∧ L' = L))) : v_X3_byLaw_0 r I' L' I L x1 := by
  intro w g K
  have K1 := K.1
  refine g_aload_n K1 0 dX3_byLaw_0 rfl ?_
  obtain ⟨I1, hct, h⟩ := h
  refine h_callV K1 (st := []) [] (hct w (gl g)) q_clX3 lyp_81 rfl ok_X3_asNow ml_X3_64 ⟨Nat.le_of_ble_eq_true rfl, Nat.le_of_ble_eq_true rfl⟩ (Nat.le_of_ble_eq_true rfl) dX3_byLaw_1 ?_
  show q_Gs w g 4 [(0, .ref 81), (1, .int x1)] [] (q_mm I1 L)
  refine g_aload_n K1 0 dX3_byLaw_4 rfl ?_
  refine g_iload_n K1 1 dX3_byLaw_5 rfl ?_
  refine h_putI K1 q_clX3 7 lyp_81 fkX3_7 fl_X3_41 rfl rfl rfl dX3_byLaw_6 ?_
  obtain ⟨hr, hI, hL⟩ := h
  subst hr hI hL
  exact g_vreturn K rfl dX3_byLaw_9
theorem c0_X3_byLaw {r : Option Value} {I I' : Nat → Nat → Int32} {L L' : Nat → Nat → Int64} {x1 : Int32} (h : v_X3_byLaw_0 r I' L' I L x1) : q_C kX3_byLaw [.ref 81, .int x1] I L r I' L' := fun w l => q_ct (by decide) (Nat.le_of_ble_eq_true rfl) (Nat.le_refl _) (fun g _ K => h w g K)
abbrev v_X3_carry_75_0 (r : Option Value) (I' : Nat → Nat → Int32) (L' : Nat → Nat → Int64) (I : Nat → Nat → Int32) (L : Nat → Nat → Int64) (x1 : Int32) : Prop := q_W kX3_carry 0 [(0, .ref 75), (1, .int x1)] [] I L r I' L'
abbrev v_X3_carry_75_88 (r : Option Value) (I' : Nat → Nat → Int32) (L' : Nat → Nat → Int64) (I : Nat → Nat → Int32) (L : Nat → Nat → Int64) (x1 : Int32) (x2 : Int32) (x3 : Int32) (s0 : Int32) : Prop := q_W kX3_carry 88 [(0, .ref 75), (1, .int x1), (2, .int x2), (3, .int x3)] [.int s0] I L r I' L'
abbrev v_X3_carry_75_114 (r : Option Value) (I' : Nat → Nat → Int32) (L' : Nat → Nat → Int64) (I : Nat → Nat → Int32) (L : Nat → Nat → Int64) (x1 : Int32) (x2 : Int32) (x3 : Int32) (s0 : Int32) : Prop := q_W kX3_carry 114 [(0, .ref 75), (1, .int x1), (2, .int x2), (3, .int x3)] [.int s0] I L r I' L'
abbrev v_X3_carry_75_136 (r : Option Value) (I' : Nat → Nat → Int32) (L' : Nat → Nat → Int64) (I : Nat → Nat → Int32) (L : Nat → Nat → Int64) (x1 : Int32) (x2 : Int32) (x3 : Int32) (x5 : Int32) (x6 : Int32) (x7 : Int32) : Prop := q_W kX3_carry 136 [(0, .ref 75), (1, .int x1), (2, .int x2), (3, .int x3), (5, .int x5), (6, .int x6), (7, .int x7)] [] I L r I' L'
abbrev v_X3_carry_75_193 (r : Option Value) (I' : Nat → Nat → Int32) (L' : Nat → Nat → Int64) (I : Nat → Nat → Int32) (L : Nat → Nat → Int64) (x1 : Int32) (x2 : Int32) (x3 : Int32) (x5 : Int32) (x6 : Int32) (x7 : Int32) (s0 : Int32) : Prop := q_W kX3_carry 193 [(0, .ref 75), (1, .int x1), (2, .int x2), (3, .int x3), (5, .int x5), (6, .int x6), (7, .int x7)] [.int s0] I L r I' L'
abbrev v_X3_carry_75_223 (r : Option Value) (I' : Nat → Nat → Int32) (L' : Nat → Nat → Int64) (I : Nat → Nat → Int32) (L : Nat → Nat → Int64) (x1 : Int32) (x2 : Int32) (x3 : Int32) (x5 : Int32) (x6 : Int32) (x7 : Int32) (x9 : Int32) (s0 : Int32) : Prop := q_W kX3_carry 223 [(0, .ref 75), (1, .int x1), (2, .int x2), (3, .int x3), (5, .int x5), (6, .int x6), (7, .int x7), (9, .int x9)] [.int s0] I L r I' L'
set_option maxRecDepth 20000 in
set_option maxHeartbeats 2000000 in
theorem vc_X3_carry_75_0 {r : Option Value} {I' : Nat → Nat → Int32} {L' : Nat → Nat → Int64} {I : Nat → Nat → Int32} {L : Nat → Nat → Int64} {x1 : Int32} (h : ((¬ ((x1 * 7) - 7) < 0 ∧ ¬ (x1 * 7) < 0 ∧ ¬ (7 : Int32) < 0 ∧ (((x1 * 7) - 7) : Int32).toNatClampNeg + (7 : Int32).toNatClampNeg ≤ 91 ∧ ((x1 * 7) : Int32).toNatClampNeg + (7 : Int32).toNatClampNeg ≤ 91) ∧ ∀ I1, I1 = (upr I 77 (va_cpy (I 77) (I 77) (((x1 * 7) - 7) : Int32).toNatClampNeg ((x1 * 7) : Int32).toNatClampNeg (7 : Int32).toNatClampNeg)) → ((¬ ((x1 * 7) - 7) < 0 ∧ ¬ (x1 * 7) < 0 ∧ ¬ (7 : Int32) < 0 ∧ (((x1 * 7) - 7) : Int32).toNatClampNeg + (7 : Int32).toNatClampNeg ≤ 91 ∧ ((x1 * 7) : Int32).toNatClampNeg + (7 : Int32).toNatClampNeg ≤ 91) ∧ ∀ I2, I2 = (upr I1 78 (va_cpy (I1 78) (I1 78) (((x1 * 7) - 7) : Int32).toNatClampNeg ((x1 * 7) : Int32).toNatClampNeg (7 : Int32).toNatClampNeg)) → ((¬ ((x1 * 7) - 7) < 0 ∧ ¬ (x1 * 7) < 0 ∧ ¬ (7 : Int32) < 0 ∧ (((x1 * 7) - 7) : Int32).toNatClampNeg + (7 : Int32).toNatClampNeg ≤ 91 ∧ ((x1 * 7) : Int32).toNatClampNeg + (7 : Int32).toNatClampNeg ≤ 91) ∧ ∀ I3, I3 = (upr I2 79 (va_cpy (I2 79) (I2 79) (((x1 * 7) - 7) : Int32).toNatClampNeg ((x1 * 7) : Int32).toNatClampNeg (7 : Int32).toNatClampNeg)) → ((¬ ((x1 * 7) - 7) < 0 ∧ ¬ (x1 * 7) < 0 ∧ ¬ (7 : Int32) < 0 ∧ (((x1 * 7) - 7) : Int32).toNatClampNeg + (7 : Int32).toNatClampNeg ≤ 91 ∧ ((x1 * 7) : Int32).toNatClampNeg + (7 : Int32).toNatClampNeg ≤ 91) ∧ ∀ I4, I4 = (upr I3 80 (va_cpy (I3 80) (I3 80) (((x1 * 7) - 7) : Int32).toNatClampNeg ((x1 * 7) : Int32).toNatClampNeg (7 : Int32).toNatClampNeg)) → (((((I4 75 9) >>> ((x1 - 1) &&& 31)) &&& 1) = 0 → (v_X3_carry_75_88 r I' L' I4 L x1 (x1 * 7) ((x1 * 7) - 7) 0)) ∧ (¬ (((I4 75 9) >>> ((x1 - 1) &&& 31)) &&& 1) = 0 → (v_X3_carry_75_88 r I' L' I4 L x1 (x1 * 7) ((x1 * 7) - 7) 1)))))))) : v_X3_carry_75_0 r I' L' I L x1 := by
  intro w g K
  have K1 := K.1
  refine g_iload_n K1 1 dX3_carry_0 rfl ?_
  refine g_bipush K1 7 dX3_carry_1 rfl ?_
  refine g_imul K1 dX3_carry_3 ?_
  refine g_istore_n K1 dX3_carry_4 rfl (by decide) rfl ?_
  refine g_iload_n K1 0 dX3_carry_5 rfl ?_
  refine g_bipush K1 7 dX3_carry_6 rfl ?_
  refine g_isub K1 dX3_carry_8 ?_
  refine g_istore_n K1 dX3_carry_9 rfl (by decide) rfl ?_
  refine g_aload_n K1 2 dX3_carry_10 rfl ?_
  refine h_getO K1 q_clX3 1 77 lyp_75 fkX3_1 rfl fl_X3_15 dX3_carry_11 ?_
  refine g_iload_n K1 0 dX3_carry_14 rfl ?_
  refine g_aload_n K1 2 dX3_carry_15 rfl ?_
  refine h_getO K1 q_clX3 1 77 lyp_75 fkX3_1 rfl fl_X3_15 dX3_carry_16 ?_
  refine g_iload_n K1 1 dX3_carry_19 rfl ?_
  refine g_bipush K1 7 dX3_carry_20 rfl ?_
  obtain ⟨hg, h⟩ := h
  refine h_copyI K1 lyp_77 lyp_77 hg (Nat.le_of_ble_eq_true rfl) ⟨Nat.le_of_ble_eq_true rfl, Nat.le_of_ble_eq_true rfl⟩ ml_X3_114 dX3_carry_22 ?_
  refine g_nameMI (fun I1 hI1 => ?_)
  replace h := h I1 hI1
  refine g_aload_n K1 2 dX3_carry_25 rfl ?_
  refine h_getO K1 q_clX3 2 78 lyp_75 fkX3_2 rfl fl_X3_18 dX3_carry_26 ?_
  refine g_iload_n K1 0 dX3_carry_29 rfl ?_
  refine g_aload_n K1 2 dX3_carry_30 rfl ?_
  refine h_getO K1 q_clX3 2 78 lyp_75 fkX3_2 rfl fl_X3_18 dX3_carry_31 ?_
  refine g_iload_n K1 1 dX3_carry_34 rfl ?_
  refine g_bipush K1 7 dX3_carry_35 rfl ?_
  obtain ⟨hg, h⟩ := h
  refine h_copyI K1 lyp_78 lyp_78 hg (Nat.le_of_ble_eq_true rfl) ⟨Nat.le_of_ble_eq_true rfl, Nat.le_of_ble_eq_true rfl⟩ ml_X3_114 dX3_carry_37 ?_
  refine g_nameMI (fun I2 hI2 => ?_)
  replace h := h I2 hI2
  refine g_aload_n K1 2 dX3_carry_40 rfl ?_
  refine h_getO K1 q_clX3 3 79 lyp_75 fkX3_3 rfl fl_X3_21 dX3_carry_41 ?_
  refine g_iload_n K1 0 dX3_carry_44 rfl ?_
  refine g_aload_n K1 2 dX3_carry_45 rfl ?_
  refine h_getO K1 q_clX3 3 79 lyp_75 fkX3_3 rfl fl_X3_21 dX3_carry_46 ?_
  refine g_iload_n K1 1 dX3_carry_49 rfl ?_
  refine g_bipush K1 7 dX3_carry_50 rfl ?_
  obtain ⟨hg, h⟩ := h
  refine h_copyI K1 lyp_79 lyp_79 hg (Nat.le_of_ble_eq_true rfl) ⟨Nat.le_of_ble_eq_true rfl, Nat.le_of_ble_eq_true rfl⟩ ml_X3_114 dX3_carry_52 ?_
  refine g_nameMI (fun I3 hI3 => ?_)
  replace h := h I3 hI3
  refine g_aload_n K1 2 dX3_carry_55 rfl ?_
  refine h_getO K1 q_clX3 4 80 lyp_75 fkX3_4 rfl fl_X3_24 dX3_carry_56 ?_
  refine g_iload_n K1 0 dX3_carry_59 rfl ?_
  refine g_aload_n K1 2 dX3_carry_60 rfl ?_
  refine h_getO K1 q_clX3 4 80 lyp_75 fkX3_4 rfl fl_X3_24 dX3_carry_61 ?_
  refine g_iload_n K1 1 dX3_carry_64 rfl ?_
  refine g_bipush K1 7 dX3_carry_65 rfl ?_
  obtain ⟨hg, h⟩ := h
  refine h_copyI K1 lyp_80 lyp_80 hg (Nat.le_of_ble_eq_true rfl) ⟨Nat.le_of_ble_eq_true rfl, Nat.le_of_ble_eq_true rfl⟩ ml_X3_114 dX3_carry_67 ?_
  refine g_nameMI (fun I4 hI4 => ?_)
  replace h := h I4 hI4
  refine g_aload_n K1 2 dX3_carry_70 rfl ?_
  refine h_getI K1 q_clX3 9 lyp_75 fkX3_9 fl_X3_45 dX3_carry_71 ?_
  refine g_iload_n K1 3 dX3_carry_74 rfl ?_
  refine g_iconst K1 1 dX3_carry_75 rfl ?_
  refine g_isub K1 dX3_carry_76 ?_
  refine g_ishr K1 dX3_carry_77 ?_
  refine g_iconst K1 1 dX3_carry_78 rfl ?_
  refine g_iand K1 dX3_carry_79 ?_
  refine g_if_eq K1 87 dX3_carry_80 rfl (fun hc => ?_) (fun hc => ?_)
  · replace h := h.1 hc
    refine g_iconst K1 0 dX3_carry_87 rfl ?_
    exact g_perm [2, 3, 1, 0] rfl (h w g K)
  · replace h := h.2 hc
    refine g_iconst K1 1 dX3_carry_83 rfl ?_
    refine g_goto K1 88 dX3_carry_84 rfl ?_
    exact g_perm [2, 3, 1, 0] rfl (h w g K)
set_option maxRecDepth 20000 in
set_option maxHeartbeats 2000000 in
theorem vc_X3_carry_75_88 {r : Option Value} {I' : Nat → Nat → Int32} {L' : Nat → Nat → Int64} {I : Nat → Nat → Int32} {L : Nat → Nat → Int64} {x1 : Int32} {x2 : Int32} {x3 : Int32} {s0 : Int32} (h : ((s0 = 0 → (vp_in (x1 - 1) 13 ∧ (v_X3_carry_75_114 r I' L' I L x1 x2 x3 ((I 76 ((x1 - 1) : Int32).toNatClampNeg) &&& ((I 75 8) ^^^ (-1)))))) ∧ (¬ s0 = 0 → (v_X3_carry_75_114 r I' L' I L x1 x2 x3 0)))) : v_X3_carry_75_88 r I' L' I L x1 x2 x3 s0 := by
  intro w g K
  have K1 := K.1
  refine g_istore K1 dX3_carry_88 (by decide) rfl ?_
  refine g_iload K1 0 dX3_carry_90 rfl ?_
  refine g_if_eq K1 99 dX3_carry_92 rfl (fun hc => ?_) (fun hc => ?_)
  · replace h := h.1 hc
    refine g_aload_n K1 1 dX3_carry_99 rfl ?_
    refine h_getO K1 q_clX3 0 76 lyp_75 fkX3_0 rfl fl_X3_9 dX3_carry_100 ?_
    refine g_iload_n K1 2 dX3_carry_103 rfl ?_
    refine g_iconst K1 1 dX3_carry_104 rfl ?_
    refine g_isub K1 dX3_carry_105 ?_
    obtain ⟨hg, h⟩ := h
    refine h_iaload K1 lyp_76 hg dX3_carry_106 ?_
    refine g_aload_n K1 1 dX3_carry_107 rfl ?_
    refine h_getI K1 q_clX3 8 lyp_75 fkX3_8 fl_X3_42 dX3_carry_108 ?_
    refine g_iconst K1 (-1) dX3_carry_111 rfl ?_
    refine g_ixor K1 dX3_carry_112 ?_
    refine g_iand K1 dX3_carry_113 ?_
    exact g_perm [1, 2, 3, 4] rfl (h w g K)
  · replace h := h.2 hc
    refine g_iconst K1 0 dX3_carry_95 rfl ?_
    refine g_goto K1 114 dX3_carry_96 rfl ?_
    exact g_perm [1, 2, 3, 4] rfl (h w g K)
set_option maxRecDepth 20000 in
set_option maxHeartbeats 2000000 in
theorem vc_X3_carry_75_114 {r : Option Value} {I' : Nat → Nat → Int32} {L' : Nat → Nat → Int64} {I : Nat → Nat → Int32} {L : Nat → Nat → Int64} {x1 : Int32} {x2 : Int32} {x3 : Int32} {s0 : Int32} (h : (vp_in (x1 - 1) 13 ∧ ∀ z1 : Int32, z1 = (((I 76 ((x1 - 1) : Int32).toNatClampNeg) ||| (I 75 8)) ^^^ (-1)) → (v_X3_carry_75_136 r I' L' I L x1 x2 x3 s0 z1 0))) : v_X3_carry_75_114 r I' L' I L x1 x2 x3 s0 := by
  intro w g K
  have K1 := K.1
  refine g_istore K1 dX3_carry_114 (by decide) rfl ?_
  refine g_aload_n K1 1 dX3_carry_116 rfl ?_
  refine h_getO K1 q_clX3 0 76 lyp_75 fkX3_0 rfl fl_X3_9 dX3_carry_117 ?_
  refine g_iload_n K1 2 dX3_carry_120 rfl ?_
  refine g_iconst K1 1 dX3_carry_121 rfl ?_
  refine g_isub K1 dX3_carry_122 ?_
  obtain ⟨hg, h⟩ := h
  refine h_iaload K1 lyp_76 hg dX3_carry_123 ?_
  refine g_aload_n K1 1 dX3_carry_124 rfl ?_
  refine h_getI K1 q_clX3 8 lyp_75 fkX3_8 fl_X3_42 dX3_carry_125 ?_
  refine g_ior K1 dX3_carry_128 ?_
  refine g_iconst K1 (-1) dX3_carry_129 rfl ?_
  refine g_ixor K1 dX3_carry_130 ?_
  refine g_nameI (fun z1 hz1 => ?_)
  replace h := h z1 hz1
  refine g_istore K1 dX3_carry_131 (by decide) rfl ?_
  refine g_iconst K1 0 dX3_carry_133 rfl ?_
  refine g_istore K1 dX3_carry_134 (by decide) rfl ?_
  exact g_perm [3, 4, 5, 6, 2, 1, 0] rfl (h w g K)
set_option maxRecDepth 20000 in
set_option maxHeartbeats 2000000 in
theorem vc_X3_carry_75_136 {r : Option Value} {I' : Nat → Nat → Int32} {L' : Nat → Nat → Int64} {I : Nat → Nat → Int32} {L : Nat → Nat → Int64} {x1 : Int32} {x2 : Int32} {x3 : Int32} {x5 : Int32} {x6 : Int32} {x7 : Int32} (h : (((I 12 4) ≤ x7 → (r = none ∧ I' = I ∧ L' = L)) ∧ (¬ (I 12 4) ≤ x7 → ((((x6 >>> (x7 &&& 31)) &&& 1) = 0 → (((0 : Int32) = (0 : Int32) → (v_X3_carry_75_193 r I' L' I L x1 x2 x3 x5 x6 x7 (-1))) ∧ (¬ (0 : Int32) = (0 : Int32) → (∃ r2, q_C kX3_speaker [.ref 75, .int 0, .int x3] I L (some (.int r2)) I L ∧ (v_X3_carry_75_193 r I' L' I L x1 x2 x3 x5 x6 x7 r2))))) ∧ (¬ ((x6 >>> (x7 &&& 31)) &&& 1) = 0 → (vp_in x7 7 ∧ ((((I 16 x7.toNatClampNeg) &&& x5) = 0 → (v_X3_carry_75_193 r I' L' I L x1 x2 x3 x5 x6 x7 (-1))) ∧ (¬ ((I 16 x7.toNatClampNeg) &&& x5) = 0 → (∃ r1, q_C kX3_speaker [.ref 75, .int ((I 16 x7.toNatClampNeg) &&& x5), .int x3] I L (some (.int r1)) I L ∧ (v_X3_carry_75_193 r I' L' I L x1 x2 x3 x5 x6 x7 r1)))))))))) : v_X3_carry_75_136 r I' L' I L x1 x2 x3 x5 x6 x7 := by
  intro w g K
  have K1 := K.1
  refine g_iload K1 6 dX3_carry_136 rfl ?_
  refine g_aload_n K1 0 dX3_carry_138 rfl ?_
  refine h_getO K1 q_clX3 5 12 lyp_75 fkX3_5 rfl fl_X3_27 dX3_carry_139 ?_
  refine h_getI K1 q_clX5 4 lyp_12 fkX5_4 fl_X3_95 dX3_carry_142 ?_
  refine g_icmp_ge K1 288 dX3_carry_145 rfl (fun hc => ?_) (fun hc => ?_)
  · replace h := h.1 hc
    obtain ⟨hr, hI, hL⟩ := h
    subst hr hI hL
    exact g_vreturn K rfl dX3_carry_288
  · replace h := h.2 hc
    refine g_iload K1 5 dX3_carry_148 rfl ?_
    refine g_iload K1 6 dX3_carry_150 rfl ?_
    refine g_ishr K1 dX3_carry_152 ?_
    refine g_iconst K1 1 dX3_carry_153 rfl ?_
    refine g_iand K1 dX3_carry_154 ?_
    refine g_if_ne K1 162 dX3_carry_155 rfl (fun hc => ?_) (fun hc => ?_)
    · replace h := h.2 hc
      refine g_aload_n K1 0 dX3_carry_162 rfl ?_
      refine h_getO K1 q_clX3 5 12 lyp_75 fkX3_5 rfl fl_X3_27 dX3_carry_163 ?_
      refine h_getO K1 q_clX5 11 16 lyp_12 fkX5_11 rfl fl_X3_120 dX3_carry_166 ?_
      refine g_iload K1 6 dX3_carry_169 rfl ?_
      obtain ⟨hg, h⟩ := h
      refine h_iaload K1 lyp_16 hg dX3_carry_171 ?_
      refine g_iload K1 4 dX3_carry_172 rfl ?_
      refine g_iand K1 dX3_carry_174 ?_
      refine g_istore K1 dX3_carry_175 (by decide) rfl ?_
      refine g_iload K1 0 dX3_carry_177 rfl ?_
      refine g_if_ne K1 186 dX3_carry_179 rfl (fun hc => ?_) (fun hc => ?_)
      · replace h := h.2 hc
        refine g_aload_n K1 1 dX3_carry_186 rfl ?_
        refine g_iload K1 0 dX3_carry_187 rfl ?_
        refine g_iload_n K1 4 dX3_carry_189 rfl ?_
        obtain ⟨r1, hct, h⟩ := h
        refine h_callV K1 (st := []) [.int ((I 16 x7.toNatClampNeg) &&& x5), .int x3] (hct w (gl g)) q_clX3 lyp_75 rfl ok_X3_speaker ml_X3_123 ⟨Nat.le_of_ble_eq_true rfl, Nat.le_of_ble_eq_true rfl⟩ (Nat.le_of_ble_eq_true rfl) dX3_carry_190 ?_
        show q_Gs w g 193 [(8, .int ((I 16 x7.toNatClampNeg) &&& x5)), (0, .ref 75), (1, .int x1), (2, .int x2), (3, .int x3), (5, .int x5), (6, .int x6), (7, .int x7)] [.int r1] (q_mm I L)
        exact g_perm [1, 2, 3, 4, 5, 6, 7] rfl (h w g K)
      · replace h := h.1 hc
        refine g_iconst K1 (-1) dX3_carry_182 rfl ?_
        refine g_goto K1 193 dX3_carry_183 rfl ?_
        exact g_perm [1, 2, 3, 4, 5, 6, 7] rfl (h w g K)
    · replace h := h.1 hc
      refine g_iconst K1 0 dX3_carry_158 rfl ?_
      refine g_goto K1 175 dX3_carry_159 rfl ?_
      refine g_istore K1 dX3_carry_175 (by decide) rfl ?_
      refine g_iload K1 0 dX3_carry_177 rfl ?_
      refine g_if_ne K1 186 dX3_carry_179 rfl (fun hc => ?_) (fun hc => ?_)
      · replace h := h.2 hc
        refine g_aload_n K1 1 dX3_carry_186 rfl ?_
        refine g_iload K1 0 dX3_carry_187 rfl ?_
        refine g_iload_n K1 4 dX3_carry_189 rfl ?_
        obtain ⟨r2, hct, h⟩ := h
        refine h_callV K1 (st := []) [.int 0, .int x3] (hct w (gl g)) q_clX3 lyp_75 rfl ok_X3_speaker ml_X3_123 ⟨Nat.le_of_ble_eq_true rfl, Nat.le_of_ble_eq_true rfl⟩ (Nat.le_of_ble_eq_true rfl) dX3_carry_190 ?_
        show q_Gs w g 193 [(8, .int 0), (0, .ref 75), (1, .int x1), (2, .int x2), (3, .int x3), (5, .int x5), (6, .int x6), (7, .int x7)] [.int r2] (q_mm I L)
        exact g_perm [1, 2, 3, 4, 5, 6, 7] rfl (h w g K)
      · replace h := h.1 hc
        refine g_iconst K1 (-1) dX3_carry_182 rfl ?_
        refine g_goto K1 193 dX3_carry_183 rfl ?_
        exact g_perm [1, 2, 3, 4, 5, 6, 7] rfl (h w g K)
set_option maxRecDepth 20000 in
set_option maxHeartbeats 2000000 in
theorem vc_X3_carry_75_193 {r : Option Value} {I' : Nat → Nat → Int32} {L' : Nat → Nat → Int64} {I : Nat → Nat → Int32} {L : Nat → Nat → Int64} {x1 : Int32} {x2 : Int32} {x3 : Int32} {x5 : Int32} {x6 : Int32} {x7 : Int32} {s0 : Int32} (h : ((s0 = (-1) → (v_X3_carry_75_223 r I' L' I L x1 x2 x3 x5 x6 x7 s0 0)) ∧ (¬ s0 = (-1) → (vp_in (x3 + s0) 91 ∧ (∃ r1, q_C kX5_heardBy [.ref 12, .int x7, .int (I 77 ((x3 + s0) : Int32).toNatClampNeg)] I L (some (.int r1)) I L ∧ (v_X3_carry_75_223 r I' L' I L x1 x2 x3 x5 x6 x7 s0 r1)))))) : v_X3_carry_75_193 r I' L' I L x1 x2 x3 x5 x6 x7 s0 := by
  intro w g K
  have K1 := K.1
  refine g_istore K1 dX3_carry_193 (by decide) rfl ?_
  refine g_iload K1 0 dX3_carry_195 rfl ?_
  refine g_iconst K1 (-1) dX3_carry_197 rfl ?_
  refine g_icmp_ne K1 205 dX3_carry_198 rfl (fun hc => ?_) (fun hc => ?_)
  · replace h := h.2 hc
    refine g_aload_n K1 1 dX3_carry_205 rfl ?_
    refine h_getO K1 q_clX3 5 12 lyp_75 fkX3_5 rfl fl_X3_27 dX3_carry_206 ?_
    refine g_iload K1 7 dX3_carry_209 rfl ?_
    refine g_aload_n K1 1 dX3_carry_211 rfl ?_
    refine h_getO K1 q_clX3 1 77 lyp_75 fkX3_1 rfl fl_X3_15 dX3_carry_212 ?_
    refine g_iload_n K1 4 dX3_carry_215 rfl ?_
    refine g_iload K1 0 dX3_carry_216 rfl ?_
    refine g_iadd K1 dX3_carry_218 ?_
    obtain ⟨hg, h⟩ := h
    refine h_iaload K1 lyp_77 hg dX3_carry_219 ?_
    obtain ⟨r1, hct, h⟩ := h
    refine h_callV K1 (st := []) [.int x7, .int (I 77 ((x3 + s0) : Int32).toNatClampNeg)] (hct w (gl g)) q_clX5 lyp_12 rfl ok_X5_heardBy ml_X3_129 ⟨Nat.le_of_ble_eq_true rfl, Nat.le_of_ble_eq_true rfl⟩ (Nat.le_of_ble_eq_true rfl) dX3_carry_220 ?_
    show q_Gs w g 223 [(9, .int s0), (0, .ref 75), (1, .int x1), (2, .int x2), (3, .int x3), (5, .int x5), (6, .int x6), (7, .int x7)] [.int r1] (q_mm I L)
    exact g_perm [1, 2, 3, 4, 5, 6, 7, 0] rfl (h w g K)
  · replace h := h.1 hc
    refine g_iconst K1 0 dX3_carry_201 rfl ?_
    refine g_goto K1 223 dX3_carry_202 rfl ?_
    exact g_perm [1, 2, 3, 4, 5, 6, 7, 0] rfl (h w g K)
set_option maxRecDepth 20000 in
set_option maxHeartbeats 2000000 in
theorem vc_X3_carry_75_223 {r : Option Value} {I' : Nat → Nat → Int32} {L' : Nat → Nat → Int64} {I : Nat → Nat → Int32} {L : Nat → Nat → Int64} {x1 : Int32} {x2 : Int32} {x3 : Int32} {x5 : Int32} {x6 : Int32} {x7 : Int32} {x9 : Int32} {s0 : Int32} (h : ((s0 = 0 → (v_X3_carry_75_136 r I' L' I L x1 x2 x3 x5 x6 (x7 + 1))) ∧ (¬ s0 = 0 → (vp_in (x2 + x7) 91 ∧ (vp_in (x2 + x7) 91 ∧ ∀ I1, I1 = (up2 (up2 I 77 ((x2 + x7) : Int32).toNatClampNeg s0) 78 ((x2 + x7) : Int32).toNatClampNeg x9) → (vp_in (x2 + x7) 91 ∧ (vp_in (x3 + x9) 91 ∧ (vp_in (x2 + x7) 91 ∧ ∀ I2, I2 = (up2 (up2 I1 79 ((x2 + x7) : Int32).toNatClampNeg x1) 80 ((x2 + x7) : Int32).toNatClampNeg (((up2 I1 79 ((x2 + x7) : Int32).toNatClampNeg x1) 80 ((x3 + x9) : Int32).toNatClampNeg) + 1)) → (v_X3_carry_75_136 r I' L' I2 L x1 x2 x3 x5 x6 (x7 + 1)))))))))) : v_X3_carry_75_223 r I' L' I L x1 x2 x3 x5 x6 x7 x9 s0 := by
  intro w g K
  have K1 := K.1
  refine g_istore K1 dX3_carry_223 (by decide) rfl ?_
  refine g_iload K1 0 dX3_carry_225 rfl ?_
  refine g_if_eq K1 282 dX3_carry_227 rfl (fun hc => ?_) (fun hc => ?_)
  · replace h := h.1 hc
    refine g_iinc K1 (x7 + 1) 7 dX3_carry_282 rfl rfl (by decide) rfl ?_
    refine g_goto K1 136 dX3_carry_285 rfl ?_
    exact g_perm [2, 3, 4, 5, 6, 7, 0] rfl (h w g K)
  · replace h := h.2 hc
    refine g_aload_n K1 1 dX3_carry_230 rfl ?_
    refine h_getO K1 q_clX3 1 77 lyp_75 fkX3_1 rfl fl_X3_15 dX3_carry_231 ?_
    refine g_iload_n K1 3 dX3_carry_234 rfl ?_
    refine g_iload K1 7 dX3_carry_235 rfl ?_
    refine g_iadd K1 dX3_carry_237 ?_
    refine g_iload K1 0 dX3_carry_238 rfl ?_
    obtain ⟨hg, h⟩ := h
    refine h_iastore K1 lyp_77 hg dX3_carry_240 ?_
    refine g_aload_n K1 1 dX3_carry_241 rfl ?_
    refine h_getO K1 q_clX3 2 78 lyp_75 fkX3_2 rfl fl_X3_18 dX3_carry_242 ?_
    refine g_iload_n K1 3 dX3_carry_245 rfl ?_
    refine g_iload K1 7 dX3_carry_246 rfl ?_
    refine g_iadd K1 dX3_carry_248 ?_
    refine g_iload K1 8 dX3_carry_249 rfl ?_
    obtain ⟨hg, h⟩ := h
    refine h_iastore K1 lyp_78 hg dX3_carry_251 ?_
    refine g_nameMI (fun I1 hI1 => ?_)
    replace h := h I1 hI1
    refine g_aload_n K1 1 dX3_carry_252 rfl ?_
    refine h_getO K1 q_clX3 3 79 lyp_75 fkX3_3 rfl fl_X3_21 dX3_carry_253 ?_
    refine g_iload_n K1 3 dX3_carry_256 rfl ?_
    refine g_iload K1 7 dX3_carry_257 rfl ?_
    refine g_iadd K1 dX3_carry_259 ?_
    refine g_iload_n K1 2 dX3_carry_260 rfl ?_
    obtain ⟨hg, h⟩ := h
    refine h_iastore K1 lyp_79 hg dX3_carry_261 ?_
    refine g_aload_n K1 1 dX3_carry_262 rfl ?_
    refine h_getO K1 q_clX3 4 80 lyp_75 fkX3_4 rfl fl_X3_24 dX3_carry_263 ?_
    refine g_iload_n K1 3 dX3_carry_266 rfl ?_
    refine g_iload K1 7 dX3_carry_267 rfl ?_
    refine g_iadd K1 dX3_carry_269 ?_
    refine g_aload_n K1 1 dX3_carry_270 rfl ?_
    refine h_getO K1 q_clX3 4 80 lyp_75 fkX3_4 rfl fl_X3_24 dX3_carry_271 ?_
    refine g_iload_n K1 4 dX3_carry_274 rfl ?_
    refine g_iload K1 8 dX3_carry_275 rfl ?_
    refine g_iadd K1 dX3_carry_277 ?_
    obtain ⟨hg, h⟩ := h
    refine h_iaload K1 lyp_80 hg dX3_carry_278 ?_
    refine g_iconst K1 1 dX3_carry_279 rfl ?_
    refine g_iadd K1 dX3_carry_280 ?_
    obtain ⟨hg, h⟩ := h
    refine h_iastore K1 lyp_80 hg dX3_carry_281 ?_
    refine g_nameMI (fun I2 hI2 => ?_)
    replace h := h I2 hI2
    refine g_iinc K1 (x7 + 1) 7 dX3_carry_282 rfl rfl (by decide) rfl ?_
    refine g_goto K1 136 dX3_carry_285 rfl ?_
    exact g_perm [2, 3, 4, 5, 6, 7, 0] rfl (h w g K)
theorem c0_X3_carry_75 {r : Option Value} {I I' : Nat → Nat → Int32} {L L' : Nat → Nat → Int64} {x1 : Int32} (h : v_X3_carry_75_0 r I' L' I L x1) : q_C kX3_carry [.ref 75, .int x1] I L r I' L' := fun w l => q_ct (by decide) (Nat.le_of_ble_eq_true rfl) (Nat.le_refl _) (fun g _ K => h w g K)
abbrev v_X3_carry_81_0 (r : Option Value) (I' : Nat → Nat → Int32) (L' : Nat → Nat → Int64) (I : Nat → Nat → Int32) (L : Nat → Nat → Int64) (x1 : Int32) : Prop := q_W kX3_carry 0 [(0, .ref 81), (1, .int x1)] [] I L r I' L'
abbrev v_X3_carry_81_88 (r : Option Value) (I' : Nat → Nat → Int32) (L' : Nat → Nat → Int64) (I : Nat → Nat → Int32) (L : Nat → Nat → Int64) (x1 : Int32) (x2 : Int32) (x3 : Int32) (s0 : Int32) : Prop := q_W kX3_carry 88 [(0, .ref 81), (1, .int x1), (2, .int x2), (3, .int x3)] [.int s0] I L r I' L'
abbrev v_X3_carry_81_114 (r : Option Value) (I' : Nat → Nat → Int32) (L' : Nat → Nat → Int64) (I : Nat → Nat → Int32) (L : Nat → Nat → Int64) (x1 : Int32) (x2 : Int32) (x3 : Int32) (s0 : Int32) : Prop := q_W kX3_carry 114 [(0, .ref 81), (1, .int x1), (2, .int x2), (3, .int x3)] [.int s0] I L r I' L'
abbrev v_X3_carry_81_136 (r : Option Value) (I' : Nat → Nat → Int32) (L' : Nat → Nat → Int64) (I : Nat → Nat → Int32) (L : Nat → Nat → Int64) (x1 : Int32) (x2 : Int32) (x3 : Int32) (x5 : Int32) (x6 : Int32) (x7 : Int32) : Prop := q_W kX3_carry 136 [(0, .ref 81), (1, .int x1), (2, .int x2), (3, .int x3), (5, .int x5), (6, .int x6), (7, .int x7)] [] I L r I' L'
abbrev v_X3_carry_81_193 (r : Option Value) (I' : Nat → Nat → Int32) (L' : Nat → Nat → Int64) (I : Nat → Nat → Int32) (L : Nat → Nat → Int64) (x1 : Int32) (x2 : Int32) (x3 : Int32) (x5 : Int32) (x6 : Int32) (x7 : Int32) (s0 : Int32) : Prop := q_W kX3_carry 193 [(0, .ref 81), (1, .int x1), (2, .int x2), (3, .int x3), (5, .int x5), (6, .int x6), (7, .int x7)] [.int s0] I L r I' L'
abbrev v_X3_carry_81_223 (r : Option Value) (I' : Nat → Nat → Int32) (L' : Nat → Nat → Int64) (I : Nat → Nat → Int32) (L : Nat → Nat → Int64) (x1 : Int32) (x2 : Int32) (x3 : Int32) (x5 : Int32) (x6 : Int32) (x7 : Int32) (x9 : Int32) (s0 : Int32) : Prop := q_W kX3_carry 223 [(0, .ref 81), (1, .int x1), (2, .int x2), (3, .int x3), (5, .int x5), (6, .int x6), (7, .int x7), (9, .int x9)] [.int s0] I L r I' L'
set_option maxRecDepth 20000 in
set_option maxHeartbeats 2000000 in
theorem vc_X3_carry_81_0 {r : Option Value} {I' : Nat → Nat → Int32} {L' : Nat → Nat → Int64} {I : Nat → Nat → Int32} {L : Nat → Nat → Int64} {x1 : Int32} (h : ((¬ ((x1 * 7) - 7) < 0 ∧ ¬ (x1 * 7) < 0 ∧ ¬ (7 : Int32) < 0 ∧ (((x1 * 7) - 7) : Int32).toNatClampNeg + (7 : Int32).toNatClampNeg ≤ 91 ∧ ((x1 * 7) : Int32).toNatClampNeg + (7 : Int32).toNatClampNeg ≤ 91) ∧ ∀ I1, I1 = (upr I 83 (va_cpy (I 83) (I 83) (((x1 * 7) - 7) : Int32).toNatClampNeg ((x1 * 7) : Int32).toNatClampNeg (7 : Int32).toNatClampNeg)) → ((¬ ((x1 * 7) - 7) < 0 ∧ ¬ (x1 * 7) < 0 ∧ ¬ (7 : Int32) < 0 ∧ (((x1 * 7) - 7) : Int32).toNatClampNeg + (7 : Int32).toNatClampNeg ≤ 91 ∧ ((x1 * 7) : Int32).toNatClampNeg + (7 : Int32).toNatClampNeg ≤ 91) ∧ ∀ I2, I2 = (upr I1 84 (va_cpy (I1 84) (I1 84) (((x1 * 7) - 7) : Int32).toNatClampNeg ((x1 * 7) : Int32).toNatClampNeg (7 : Int32).toNatClampNeg)) → ((¬ ((x1 * 7) - 7) < 0 ∧ ¬ (x1 * 7) < 0 ∧ ¬ (7 : Int32) < 0 ∧ (((x1 * 7) - 7) : Int32).toNatClampNeg + (7 : Int32).toNatClampNeg ≤ 91 ∧ ((x1 * 7) : Int32).toNatClampNeg + (7 : Int32).toNatClampNeg ≤ 91) ∧ ∀ I3, I3 = (upr I2 85 (va_cpy (I2 85) (I2 85) (((x1 * 7) - 7) : Int32).toNatClampNeg ((x1 * 7) : Int32).toNatClampNeg (7 : Int32).toNatClampNeg)) → ((¬ ((x1 * 7) - 7) < 0 ∧ ¬ (x1 * 7) < 0 ∧ ¬ (7 : Int32) < 0 ∧ (((x1 * 7) - 7) : Int32).toNatClampNeg + (7 : Int32).toNatClampNeg ≤ 91 ∧ ((x1 * 7) : Int32).toNatClampNeg + (7 : Int32).toNatClampNeg ≤ 91) ∧ ∀ I4, I4 = (upr I3 86 (va_cpy (I3 86) (I3 86) (((x1 * 7) - 7) : Int32).toNatClampNeg ((x1 * 7) : Int32).toNatClampNeg (7 : Int32).toNatClampNeg)) → (((((I4 81 9) >>> ((x1 - 1) &&& 31)) &&& 1) = 0 → (v_X3_carry_81_88 r I' L' I4 L x1 (x1 * 7) ((x1 * 7) - 7) 0)) ∧ (¬ (((I4 81 9) >>> ((x1 - 1) &&& 31)) &&& 1) = 0 → (v_X3_carry_81_88 r I' L' I4 L x1 (x1 * 7) ((x1 * 7) - 7) 1)))))))) : v_X3_carry_81_0 r I' L' I L x1 := by
  intro w g K
  have K1 := K.1
  refine g_iload_n K1 1 dX3_carry_0 rfl ?_
  refine g_bipush K1 7 dX3_carry_1 rfl ?_
  refine g_imul K1 dX3_carry_3 ?_
  refine g_istore_n K1 dX3_carry_4 rfl (by decide) rfl ?_
  refine g_iload_n K1 0 dX3_carry_5 rfl ?_
  refine g_bipush K1 7 dX3_carry_6 rfl ?_
  refine g_isub K1 dX3_carry_8 ?_
  refine g_istore_n K1 dX3_carry_9 rfl (by decide) rfl ?_
  refine g_aload_n K1 2 dX3_carry_10 rfl ?_
  refine h_getO K1 q_clX3 1 83 lyp_81 fkX3_1 rfl fl_X3_15 dX3_carry_11 ?_
  refine g_iload_n K1 0 dX3_carry_14 rfl ?_
  refine g_aload_n K1 2 dX3_carry_15 rfl ?_
  refine h_getO K1 q_clX3 1 83 lyp_81 fkX3_1 rfl fl_X3_15 dX3_carry_16 ?_
  refine g_iload_n K1 1 dX3_carry_19 rfl ?_
  refine g_bipush K1 7 dX3_carry_20 rfl ?_
  obtain ⟨hg, h⟩ := h
  refine h_copyI K1 lyp_83 lyp_83 hg (Nat.le_of_ble_eq_true rfl) ⟨Nat.le_of_ble_eq_true rfl, Nat.le_of_ble_eq_true rfl⟩ ml_X3_114 dX3_carry_22 ?_
  refine g_nameMI (fun I1 hI1 => ?_)
  replace h := h I1 hI1
  refine g_aload_n K1 2 dX3_carry_25 rfl ?_
  refine h_getO K1 q_clX3 2 84 lyp_81 fkX3_2 rfl fl_X3_18 dX3_carry_26 ?_
  refine g_iload_n K1 0 dX3_carry_29 rfl ?_
  refine g_aload_n K1 2 dX3_carry_30 rfl ?_
  refine h_getO K1 q_clX3 2 84 lyp_81 fkX3_2 rfl fl_X3_18 dX3_carry_31 ?_
  refine g_iload_n K1 1 dX3_carry_34 rfl ?_
  refine g_bipush K1 7 dX3_carry_35 rfl ?_
  obtain ⟨hg, h⟩ := h
  refine h_copyI K1 lyp_84 lyp_84 hg (Nat.le_of_ble_eq_true rfl) ⟨Nat.le_of_ble_eq_true rfl, Nat.le_of_ble_eq_true rfl⟩ ml_X3_114 dX3_carry_37 ?_
  refine g_nameMI (fun I2 hI2 => ?_)
  replace h := h I2 hI2
  refine g_aload_n K1 2 dX3_carry_40 rfl ?_
  refine h_getO K1 q_clX3 3 85 lyp_81 fkX3_3 rfl fl_X3_21 dX3_carry_41 ?_
  refine g_iload_n K1 0 dX3_carry_44 rfl ?_
  refine g_aload_n K1 2 dX3_carry_45 rfl ?_
  refine h_getO K1 q_clX3 3 85 lyp_81 fkX3_3 rfl fl_X3_21 dX3_carry_46 ?_
  refine g_iload_n K1 1 dX3_carry_49 rfl ?_
  refine g_bipush K1 7 dX3_carry_50 rfl ?_
  obtain ⟨hg, h⟩ := h
  refine h_copyI K1 lyp_85 lyp_85 hg (Nat.le_of_ble_eq_true rfl) ⟨Nat.le_of_ble_eq_true rfl, Nat.le_of_ble_eq_true rfl⟩ ml_X3_114 dX3_carry_52 ?_
  refine g_nameMI (fun I3 hI3 => ?_)
  replace h := h I3 hI3
  refine g_aload_n K1 2 dX3_carry_55 rfl ?_
  refine h_getO K1 q_clX3 4 86 lyp_81 fkX3_4 rfl fl_X3_24 dX3_carry_56 ?_
  refine g_iload_n K1 0 dX3_carry_59 rfl ?_
  refine g_aload_n K1 2 dX3_carry_60 rfl ?_
  refine h_getO K1 q_clX3 4 86 lyp_81 fkX3_4 rfl fl_X3_24 dX3_carry_61 ?_
  refine g_iload_n K1 1 dX3_carry_64 rfl ?_
  refine g_bipush K1 7 dX3_carry_65 rfl ?_
  obtain ⟨hg, h⟩ := h
  refine h_copyI K1 lyp_86 lyp_86 hg (Nat.le_of_ble_eq_true rfl) ⟨Nat.le_of_ble_eq_true rfl, Nat.le_of_ble_eq_true rfl⟩ ml_X3_114 dX3_carry_67 ?_
  refine g_nameMI (fun I4 hI4 => ?_)
  replace h := h I4 hI4
  refine g_aload_n K1 2 dX3_carry_70 rfl ?_
  refine h_getI K1 q_clX3 9 lyp_81 fkX3_9 fl_X3_45 dX3_carry_71 ?_
  refine g_iload_n K1 3 dX3_carry_74 rfl ?_
  refine g_iconst K1 1 dX3_carry_75 rfl ?_
  refine g_isub K1 dX3_carry_76 ?_
  refine g_ishr K1 dX3_carry_77 ?_
  refine g_iconst K1 1 dX3_carry_78 rfl ?_
  refine g_iand K1 dX3_carry_79 ?_
  refine g_if_eq K1 87 dX3_carry_80 rfl (fun hc => ?_) (fun hc => ?_)
  · replace h := h.1 hc
    refine g_iconst K1 0 dX3_carry_87 rfl ?_
    exact g_perm [2, 3, 1, 0] rfl (h w g K)
  · replace h := h.2 hc
    refine g_iconst K1 1 dX3_carry_83 rfl ?_
    refine g_goto K1 88 dX3_carry_84 rfl ?_
    exact g_perm [2, 3, 1, 0] rfl (h w g K)
set_option maxRecDepth 20000 in
set_option maxHeartbeats 2000000 in
theorem vc_X3_carry_81_88 {r : Option Value} {I' : Nat → Nat → Int32} {L' : Nat → Nat → Int64} {I : Nat → Nat → Int32} {L : Nat → Nat → Int64} {x1 : Int32} {x2 : Int32} {x3 : Int32} {s0 : Int32} (h : ((s0 = 0 → (vp_in (x1 - 1) 13 ∧ (v_X3_carry_81_114 r I' L' I L x1 x2 x3 ((I 82 ((x1 - 1) : Int32).toNatClampNeg) &&& ((I 81 8) ^^^ (-1)))))) ∧ (¬ s0 = 0 → (v_X3_carry_81_114 r I' L' I L x1 x2 x3 0)))) : v_X3_carry_81_88 r I' L' I L x1 x2 x3 s0 := by
  intro w g K
  have K1 := K.1
  refine g_istore K1 dX3_carry_88 (by decide) rfl ?_
  refine g_iload K1 0 dX3_carry_90 rfl ?_
  refine g_if_eq K1 99 dX3_carry_92 rfl (fun hc => ?_) (fun hc => ?_)
  · replace h := h.1 hc
    refine g_aload_n K1 1 dX3_carry_99 rfl ?_
    refine h_getO K1 q_clX3 0 82 lyp_81 fkX3_0 rfl fl_X3_9 dX3_carry_100 ?_
    refine g_iload_n K1 2 dX3_carry_103 rfl ?_
    refine g_iconst K1 1 dX3_carry_104 rfl ?_
    refine g_isub K1 dX3_carry_105 ?_
    obtain ⟨hg, h⟩ := h
    refine h_iaload K1 lyp_82 hg dX3_carry_106 ?_
    refine g_aload_n K1 1 dX3_carry_107 rfl ?_
    refine h_getI K1 q_clX3 8 lyp_81 fkX3_8 fl_X3_42 dX3_carry_108 ?_
    refine g_iconst K1 (-1) dX3_carry_111 rfl ?_
    refine g_ixor K1 dX3_carry_112 ?_
    refine g_iand K1 dX3_carry_113 ?_
    exact g_perm [1, 2, 3, 4] rfl (h w g K)
  · replace h := h.2 hc
    refine g_iconst K1 0 dX3_carry_95 rfl ?_
    refine g_goto K1 114 dX3_carry_96 rfl ?_
    exact g_perm [1, 2, 3, 4] rfl (h w g K)
set_option maxRecDepth 20000 in
set_option maxHeartbeats 2000000 in
theorem vc_X3_carry_81_114 {r : Option Value} {I' : Nat → Nat → Int32} {L' : Nat → Nat → Int64} {I : Nat → Nat → Int32} {L : Nat → Nat → Int64} {x1 : Int32} {x2 : Int32} {x3 : Int32} {s0 : Int32} (h : (vp_in (x1 - 1) 13 ∧ ∀ z1 : Int32, z1 = (((I 82 ((x1 - 1) : Int32).toNatClampNeg) ||| (I 81 8)) ^^^ (-1)) → (v_X3_carry_81_136 r I' L' I L x1 x2 x3 s0 z1 0))) : v_X3_carry_81_114 r I' L' I L x1 x2 x3 s0 := by
  intro w g K
  have K1 := K.1
  refine g_istore K1 dX3_carry_114 (by decide) rfl ?_
  refine g_aload_n K1 1 dX3_carry_116 rfl ?_
  refine h_getO K1 q_clX3 0 82 lyp_81 fkX3_0 rfl fl_X3_9 dX3_carry_117 ?_
  refine g_iload_n K1 2 dX3_carry_120 rfl ?_
  refine g_iconst K1 1 dX3_carry_121 rfl ?_
  refine g_isub K1 dX3_carry_122 ?_
  obtain ⟨hg, h⟩ := h
  refine h_iaload K1 lyp_82 hg dX3_carry_123 ?_
  refine g_aload_n K1 1 dX3_carry_124 rfl ?_
  refine h_getI K1 q_clX3 8 lyp_81 fkX3_8 fl_X3_42 dX3_carry_125 ?_
  refine g_ior K1 dX3_carry_128 ?_
  refine g_iconst K1 (-1) dX3_carry_129 rfl ?_
  refine g_ixor K1 dX3_carry_130 ?_
  refine g_nameI (fun z1 hz1 => ?_)
  replace h := h z1 hz1
  refine g_istore K1 dX3_carry_131 (by decide) rfl ?_
  refine g_iconst K1 0 dX3_carry_133 rfl ?_
  refine g_istore K1 dX3_carry_134 (by decide) rfl ?_
  exact g_perm [3, 4, 5, 6, 2, 1, 0] rfl (h w g K)
set_option maxRecDepth 20000 in
set_option maxHeartbeats 2000000 in
theorem vc_X3_carry_81_136 {r : Option Value} {I' : Nat → Nat → Int32} {L' : Nat → Nat → Int64} {I : Nat → Nat → Int32} {L : Nat → Nat → Int64} {x1 : Int32} {x2 : Int32} {x3 : Int32} {x5 : Int32} {x6 : Int32} {x7 : Int32} (h : (((I 12 4) ≤ x7 → (r = none ∧ I' = I ∧ L' = L)) ∧ (¬ (I 12 4) ≤ x7 → ((((x6 >>> (x7 &&& 31)) &&& 1) = 0 → (((0 : Int32) = (0 : Int32) → (v_X3_carry_81_193 r I' L' I L x1 x2 x3 x5 x6 x7 (-1))) ∧ (¬ (0 : Int32) = (0 : Int32) → (∃ r2, q_C kX3_speaker [.ref 81, .int 0, .int x3] I L (some (.int r2)) I L ∧ (v_X3_carry_81_193 r I' L' I L x1 x2 x3 x5 x6 x7 r2))))) ∧ (¬ ((x6 >>> (x7 &&& 31)) &&& 1) = 0 → (vp_in x7 7 ∧ ((((I 16 x7.toNatClampNeg) &&& x5) = 0 → (v_X3_carry_81_193 r I' L' I L x1 x2 x3 x5 x6 x7 (-1))) ∧ (¬ ((I 16 x7.toNatClampNeg) &&& x5) = 0 → (∃ r1, q_C kX3_speaker [.ref 81, .int ((I 16 x7.toNatClampNeg) &&& x5), .int x3] I L (some (.int r1)) I L ∧ (v_X3_carry_81_193 r I' L' I L x1 x2 x3 x5 x6 x7 r1)))))))))) : v_X3_carry_81_136 r I' L' I L x1 x2 x3 x5 x6 x7 := by
  intro w g K
  have K1 := K.1
  refine g_iload K1 6 dX3_carry_136 rfl ?_
  refine g_aload_n K1 0 dX3_carry_138 rfl ?_
  refine h_getO K1 q_clX3 5 12 lyp_81 fkX3_5 rfl fl_X3_27 dX3_carry_139 ?_
  refine h_getI K1 q_clX5 4 lyp_12 fkX5_4 fl_X3_95 dX3_carry_142 ?_
  refine g_icmp_ge K1 288 dX3_carry_145 rfl (fun hc => ?_) (fun hc => ?_)
  · replace h := h.1 hc
    obtain ⟨hr, hI, hL⟩ := h
    subst hr hI hL
    exact g_vreturn K rfl dX3_carry_288
  · replace h := h.2 hc
    refine g_iload K1 5 dX3_carry_148 rfl ?_
    refine g_iload K1 6 dX3_carry_150 rfl ?_
    refine g_ishr K1 dX3_carry_152 ?_
    refine g_iconst K1 1 dX3_carry_153 rfl ?_
    refine g_iand K1 dX3_carry_154 ?_
    refine g_if_ne K1 162 dX3_carry_155 rfl (fun hc => ?_) (fun hc => ?_)
    · replace h := h.2 hc
      refine g_aload_n K1 0 dX3_carry_162 rfl ?_
      refine h_getO K1 q_clX3 5 12 lyp_81 fkX3_5 rfl fl_X3_27 dX3_carry_163 ?_
      refine h_getO K1 q_clX5 11 16 lyp_12 fkX5_11 rfl fl_X3_120 dX3_carry_166 ?_
      refine g_iload K1 6 dX3_carry_169 rfl ?_
      obtain ⟨hg, h⟩ := h
      refine h_iaload K1 lyp_16 hg dX3_carry_171 ?_
      refine g_iload K1 4 dX3_carry_172 rfl ?_
      refine g_iand K1 dX3_carry_174 ?_
      refine g_istore K1 dX3_carry_175 (by decide) rfl ?_
      refine g_iload K1 0 dX3_carry_177 rfl ?_
      refine g_if_ne K1 186 dX3_carry_179 rfl (fun hc => ?_) (fun hc => ?_)
      · replace h := h.2 hc
        refine g_aload_n K1 1 dX3_carry_186 rfl ?_
        refine g_iload K1 0 dX3_carry_187 rfl ?_
        refine g_iload_n K1 4 dX3_carry_189 rfl ?_
        obtain ⟨r1, hct, h⟩ := h
        refine h_callV K1 (st := []) [.int ((I 16 x7.toNatClampNeg) &&& x5), .int x3] (hct w (gl g)) q_clX3 lyp_81 rfl ok_X3_speaker ml_X3_123 ⟨Nat.le_of_ble_eq_true rfl, Nat.le_of_ble_eq_true rfl⟩ (Nat.le_of_ble_eq_true rfl) dX3_carry_190 ?_
        show q_Gs w g 193 [(8, .int ((I 16 x7.toNatClampNeg) &&& x5)), (0, .ref 81), (1, .int x1), (2, .int x2), (3, .int x3), (5, .int x5), (6, .int x6), (7, .int x7)] [.int r1] (q_mm I L)
        exact g_perm [1, 2, 3, 4, 5, 6, 7] rfl (h w g K)
      · replace h := h.1 hc
        refine g_iconst K1 (-1) dX3_carry_182 rfl ?_
        refine g_goto K1 193 dX3_carry_183 rfl ?_
        exact g_perm [1, 2, 3, 4, 5, 6, 7] rfl (h w g K)
    · replace h := h.1 hc
      refine g_iconst K1 0 dX3_carry_158 rfl ?_
      refine g_goto K1 175 dX3_carry_159 rfl ?_
      refine g_istore K1 dX3_carry_175 (by decide) rfl ?_
      refine g_iload K1 0 dX3_carry_177 rfl ?_
      refine g_if_ne K1 186 dX3_carry_179 rfl (fun hc => ?_) (fun hc => ?_)
      · replace h := h.2 hc
        refine g_aload_n K1 1 dX3_carry_186 rfl ?_
        refine g_iload K1 0 dX3_carry_187 rfl ?_
        refine g_iload_n K1 4 dX3_carry_189 rfl ?_
        obtain ⟨r2, hct, h⟩ := h
        refine h_callV K1 (st := []) [.int 0, .int x3] (hct w (gl g)) q_clX3 lyp_81 rfl ok_X3_speaker ml_X3_123 ⟨Nat.le_of_ble_eq_true rfl, Nat.le_of_ble_eq_true rfl⟩ (Nat.le_of_ble_eq_true rfl) dX3_carry_190 ?_
        show q_Gs w g 193 [(8, .int 0), (0, .ref 81), (1, .int x1), (2, .int x2), (3, .int x3), (5, .int x5), (6, .int x6), (7, .int x7)] [.int r2] (q_mm I L)
        exact g_perm [1, 2, 3, 4, 5, 6, 7] rfl (h w g K)
      · replace h := h.1 hc
        refine g_iconst K1 (-1) dX3_carry_182 rfl ?_
        refine g_goto K1 193 dX3_carry_183 rfl ?_
        exact g_perm [1, 2, 3, 4, 5, 6, 7] rfl (h w g K)
set_option maxRecDepth 20000 in
set_option maxHeartbeats 2000000 in
theorem vc_X3_carry_81_193 {r : Option Value} {I' : Nat → Nat → Int32} {L' : Nat → Nat → Int64} {I : Nat → Nat → Int32} {L : Nat → Nat → Int64} {x1 : Int32} {x2 : Int32} {x3 : Int32} {x5 : Int32} {x6 : Int32} {x7 : Int32} {s0 : Int32} (h : ((s0 = (-1) → (v_X3_carry_81_223 r I' L' I L x1 x2 x3 x5 x6 x7 s0 0)) ∧ (¬ s0 = (-1) → (vp_in (x3 + s0) 91 ∧ (∃ r1, q_C kX5_heardBy [.ref 12, .int x7, .int (I 83 ((x3 + s0) : Int32).toNatClampNeg)] I L (some (.int r1)) I L ∧ (v_X3_carry_81_223 r I' L' I L x1 x2 x3 x5 x6 x7 s0 r1)))))) : v_X3_carry_81_193 r I' L' I L x1 x2 x3 x5 x6 x7 s0 := by
  intro w g K
  have K1 := K.1
  refine g_istore K1 dX3_carry_193 (by decide) rfl ?_
  refine g_iload K1 0 dX3_carry_195 rfl ?_
  refine g_iconst K1 (-1) dX3_carry_197 rfl ?_
  refine g_icmp_ne K1 205 dX3_carry_198 rfl (fun hc => ?_) (fun hc => ?_)
  · replace h := h.2 hc
    refine g_aload_n K1 1 dX3_carry_205 rfl ?_
    refine h_getO K1 q_clX3 5 12 lyp_81 fkX3_5 rfl fl_X3_27 dX3_carry_206 ?_
    refine g_iload K1 7 dX3_carry_209 rfl ?_
    refine g_aload_n K1 1 dX3_carry_211 rfl ?_
    refine h_getO K1 q_clX3 1 83 lyp_81 fkX3_1 rfl fl_X3_15 dX3_carry_212 ?_
    refine g_iload_n K1 4 dX3_carry_215 rfl ?_
    refine g_iload K1 0 dX3_carry_216 rfl ?_
    refine g_iadd K1 dX3_carry_218 ?_
    obtain ⟨hg, h⟩ := h
    refine h_iaload K1 lyp_83 hg dX3_carry_219 ?_
    obtain ⟨r1, hct, h⟩ := h
    refine h_callV K1 (st := []) [.int x7, .int (I 83 ((x3 + s0) : Int32).toNatClampNeg)] (hct w (gl g)) q_clX5 lyp_12 rfl ok_X5_heardBy ml_X3_129 ⟨Nat.le_of_ble_eq_true rfl, Nat.le_of_ble_eq_true rfl⟩ (Nat.le_of_ble_eq_true rfl) dX3_carry_220 ?_
    show q_Gs w g 223 [(9, .int s0), (0, .ref 81), (1, .int x1), (2, .int x2), (3, .int x3), (5, .int x5), (6, .int x6), (7, .int x7)] [.int r1] (q_mm I L)
    exact g_perm [1, 2, 3, 4, 5, 6, 7, 0] rfl (h w g K)
  · replace h := h.1 hc
    refine g_iconst K1 0 dX3_carry_201 rfl ?_
    refine g_goto K1 223 dX3_carry_202 rfl ?_
    exact g_perm [1, 2, 3, 4, 5, 6, 7, 0] rfl (h w g K)
set_option maxRecDepth 20000 in
set_option maxHeartbeats 2000000 in
theorem vc_X3_carry_81_223 {r : Option Value} {I' : Nat → Nat → Int32} {L' : Nat → Nat → Int64} {I : Nat → Nat → Int32} {L : Nat → Nat → Int64} {x1 : Int32} {x2 : Int32} {x3 : Int32} {x5 : Int32} {x6 : Int32} {x7 : Int32} {x9 : Int32} {s0 : Int32} (h : ((s0 = 0 → (v_X3_carry_81_136 r I' L' I L x1 x2 x3 x5 x6 (x7 + 1))) ∧ (¬ s0 = 0 → (vp_in (x2 + x7) 91 ∧ (vp_in (x2 + x7) 91 ∧ ∀ I1, I1 = (up2 (up2 I 83 ((x2 + x7) : Int32).toNatClampNeg s0) 84 ((x2 + x7) : Int32).toNatClampNeg x9) → (vp_in (x2 + x7) 91 ∧ (vp_in (x3 + x9) 91 ∧ (vp_in (x2 + x7) 91 ∧ ∀ I2, I2 = (up2 (up2 I1 85 ((x2 + x7) : Int32).toNatClampNeg x1) 86 ((x2 + x7) : Int32).toNatClampNeg (((up2 I1 85 ((x2 + x7) : Int32).toNatClampNeg x1) 86 ((x3 + x9) : Int32).toNatClampNeg) + 1)) → (v_X3_carry_81_136 r I' L' I2 L x1 x2 x3 x5 x6 (x7 + 1)))))))))) : v_X3_carry_81_223 r I' L' I L x1 x2 x3 x5 x6 x7 x9 s0 := by
  intro w g K
  have K1 := K.1
  refine g_istore K1 dX3_carry_223 (by decide) rfl ?_
  refine g_iload K1 0 dX3_carry_225 rfl ?_
  refine g_if_eq K1 282 dX3_carry_227 rfl (fun hc => ?_) (fun hc => ?_)
  · replace h := h.1 hc
    refine g_iinc K1 (x7 + 1) 7 dX3_carry_282 rfl rfl (by decide) rfl ?_
    refine g_goto K1 136 dX3_carry_285 rfl ?_
    exact g_perm [2, 3, 4, 5, 6, 7, 0] rfl (h w g K)
  · replace h := h.2 hc
    refine g_aload_n K1 1 dX3_carry_230 rfl ?_
    refine h_getO K1 q_clX3 1 83 lyp_81 fkX3_1 rfl fl_X3_15 dX3_carry_231 ?_
    refine g_iload_n K1 3 dX3_carry_234 rfl ?_
    refine g_iload K1 7 dX3_carry_235 rfl ?_
    refine g_iadd K1 dX3_carry_237 ?_
    refine g_iload K1 0 dX3_carry_238 rfl ?_
    obtain ⟨hg, h⟩ := h
    refine h_iastore K1 lyp_83 hg dX3_carry_240 ?_
    refine g_aload_n K1 1 dX3_carry_241 rfl ?_
    refine h_getO K1 q_clX3 2 84 lyp_81 fkX3_2 rfl fl_X3_18 dX3_carry_242 ?_
    refine g_iload_n K1 3 dX3_carry_245 rfl ?_
    refine g_iload K1 7 dX3_carry_246 rfl ?_
    refine g_iadd K1 dX3_carry_248 ?_
    refine g_iload K1 8 dX3_carry_249 rfl ?_
    obtain ⟨hg, h⟩ := h
    refine h_iastore K1 lyp_84 hg dX3_carry_251 ?_
    refine g_nameMI (fun I1 hI1 => ?_)
    replace h := h I1 hI1
    refine g_aload_n K1 1 dX3_carry_252 rfl ?_
    refine h_getO K1 q_clX3 3 85 lyp_81 fkX3_3 rfl fl_X3_21 dX3_carry_253 ?_
    refine g_iload_n K1 3 dX3_carry_256 rfl ?_
    refine g_iload K1 7 dX3_carry_257 rfl ?_
    refine g_iadd K1 dX3_carry_259 ?_
    refine g_iload_n K1 2 dX3_carry_260 rfl ?_
    obtain ⟨hg, h⟩ := h
    refine h_iastore K1 lyp_85 hg dX3_carry_261 ?_
    refine g_aload_n K1 1 dX3_carry_262 rfl ?_
    refine h_getO K1 q_clX3 4 86 lyp_81 fkX3_4 rfl fl_X3_24 dX3_carry_263 ?_
    refine g_iload_n K1 3 dX3_carry_266 rfl ?_
    refine g_iload K1 7 dX3_carry_267 rfl ?_
    refine g_iadd K1 dX3_carry_269 ?_
    refine g_aload_n K1 1 dX3_carry_270 rfl ?_
    refine h_getO K1 q_clX3 4 86 lyp_81 fkX3_4 rfl fl_X3_24 dX3_carry_271 ?_
    refine g_iload_n K1 4 dX3_carry_274 rfl ?_
    refine g_iload K1 8 dX3_carry_275 rfl ?_
    refine g_iadd K1 dX3_carry_277 ?_
    obtain ⟨hg, h⟩ := h
    refine h_iaload K1 lyp_86 hg dX3_carry_278 ?_
    refine g_iconst K1 1 dX3_carry_279 rfl ?_
    refine g_iadd K1 dX3_carry_280 ?_
    obtain ⟨hg, h⟩ := h
    refine h_iastore K1 lyp_86 hg dX3_carry_281 ?_
    refine g_nameMI (fun I2 hI2 => ?_)
    replace h := h I2 hI2
    refine g_iinc K1 (x7 + 1) 7 dX3_carry_282 rfl rfl (by decide) rfl ?_
    refine g_goto K1 136 dX3_carry_285 rfl ?_
    exact g_perm [2, 3, 4, 5, 6, 7, 0] rfl (h w g K)
theorem c0_X3_carry_81 {r : Option Value} {I I' : Nat → Nat → Int32} {L L' : Nat → Nat → Int64} {x1 : Int32} (h : v_X3_carry_81_0 r I' L' I L x1) : q_C kX3_carry [.ref 81, .int x1] I L r I' L' := fun w l => q_ct (by decide) (Nat.le_of_ble_eq_true rfl) (Nat.le_refl _) (fun g _ K => h w g K)
abbrev v_X3_isLit_0 (r : Option Value) (I' : Nat → Nat → Int32) (L' : Nat → Nat → Int64) (I : Nat → Nat → Int32) (L : Nat → Nat → Int64) (x1 : Int32) (x2 : Int32) : Prop := q_W kX3_isLit 0 [(0, .ref 75), (1, .int x1), (2, .int x2)] [] I L r I' L'
set_option maxRecDepth 20000 in
set_option maxHeartbeats 2000000 in
theorem vc_X3_isLit_0 {r : Option Value} {I' : Nat → Nat → Int32} {L' : Nat → Nat → Int64} {I : Nat → Nat → Int32} {L : Nat → Nat → Int64} {x1 : Int32} {x2 : Int32} (h : (vp_in x2 13 ∧ (((((I 76 x2.toNatClampNeg) >>> (x1 &&& 31)) &&& 1) = 0 → (r = some (.int 0) ∧ I' = I ∧ L' = L)) ∧ (¬ (((I 76 x2.toNatClampNeg) >>> (x1 &&& 31)) &&& 1) = 0 → (r = some (.int 1) ∧ I' = I ∧ L' = L))))) : v_X3_isLit_0 r I' L' I L x1 x2 := by
  intro w g K
  have K1 := K.1
  refine g_aload_n K1 0 dX3_isLit_0 rfl ?_
  refine h_getO K1 q_clX3 0 76 lyp_75 fkX3_0 rfl fl_X3_9 dX3_isLit_1 ?_
  refine g_iload_n K1 2 dX3_isLit_4 rfl ?_
  obtain ⟨hg, h⟩ := h
  refine h_iaload K1 lyp_76 hg dX3_isLit_5 ?_
  refine g_iload_n K1 1 dX3_isLit_6 rfl ?_
  refine g_ishr K1 dX3_isLit_7 ?_
  refine g_iconst K1 1 dX3_isLit_8 rfl ?_
  refine g_iand K1 dX3_isLit_9 ?_
  refine g_if_eq K1 17 dX3_isLit_10 rfl (fun hc => ?_) (fun hc => ?_)
  · replace h := h.1 hc
    refine g_iconst K1 0 dX3_isLit_17 rfl ?_
    obtain ⟨hr, hI, hL⟩ := h
    subst hr hI hL
    exact g_zreturn K rfl (by decide) dX3_isLit_18
  · replace h := h.2 hc
    refine g_iconst K1 1 dX3_isLit_13 rfl ?_
    refine g_goto K1 18 dX3_isLit_14 rfl ?_
    obtain ⟨hr, hI, hL⟩ := h
    subst hr hI hL
    exact g_zreturn K rfl (by decide) dX3_isLit_18
theorem c0_X3_isLit {r : Option Value} {I I' : Nat → Nat → Int32} {L L' : Nat → Nat → Int64} {x1 : Int32} {x2 : Int32} (h : v_X3_isLit_0 r I' L' I L x1 x2) : q_C kX3_isLit [.ref 75, .int x1, .int x2] I L r I' L' := fun w l => q_ct (by decide) (Nat.le_of_ble_eq_true rfl) (Nat.le_refl _) (fun g _ K => h w g K)
abbrev v_X3_kindle_75_0 (r : Option Value) (I' : Nat → Nat → Int32) (L' : Nat → Nat → Int64) (I : Nat → Nat → Int32) (L : Nat → Nat → Int64) (x1 : Int32) (x2 : Int32) (x3 : Int32) : Prop := q_W kX3_kindle 0 [(0, .ref 75), (1, .int x1), (2, .int x2), (3, .int x3)] [] I L r I' L'
abbrev v_X3_kindle_75_26 (r : Option Value) (I' : Nat → Nat → Int32) (L' : Nat → Nat → Int64) (I : Nat → Nat → Int32) (L : Nat → Nat → Int64) (x3 : Int32) (x4 : Int32) : Prop := q_W kX3_kindle 26 [(0, .ref 75), (3, .int x3), (4, .int x4)] [] I L r I' L'
set_option maxRecDepth 20000 in
set_option maxHeartbeats 2000000 in
theorem vc_X3_kindle_75_0 {r : Option Value} {I' : Nat → Nat → Int32} {L' : Nat → Nat → Int64} {I : Nat → Nat → Int32} {L : Nat → Nat → Int64} {x1 : Int32} {x2 : Int32} {x3 : Int32} (h : (vp_in ((x2 * 7) + x1) 91 ∧ (((I 77 (((x2 * 7) + x1) : Int32).toNatClampNeg) = 0 → (vp_in ((x2 * 7) + x1) 91 ∧ (v_X3_kindle_75_26 r I' L' (up2 I 79 (((x2 * 7) + x1) : Int32).toNatClampNeg x2) L x3 ((x2 * 7) + x1)))) ∧ (¬ (I 77 (((x2 * 7) + x1) : Int32).toNatClampNeg) = 0 → (v_X3_kindle_75_26 r I' L' I L x3 ((x2 * 7) + x1)))))) : v_X3_kindle_75_0 r I' L' I L x1 x2 x3 := by
  intro w g K
  have K1 := K.1
  refine g_iload_n K1 2 dX3_kindle_0 rfl ?_
  refine g_bipush K1 7 dX3_kindle_1 rfl ?_
  refine g_imul K1 dX3_kindle_3 ?_
  refine g_iload_n K1 1 dX3_kindle_4 rfl ?_
  refine g_iadd K1 dX3_kindle_5 ?_
  refine g_istore K1 dX3_kindle_6 (by decide) rfl ?_
  refine g_aload_n K1 1 dX3_kindle_8 rfl ?_
  refine h_getO K1 q_clX3 1 77 lyp_75 fkX3_1 rfl fl_X3_15 dX3_kindle_9 ?_
  refine g_iload K1 0 dX3_kindle_12 rfl ?_
  obtain ⟨hg, h⟩ := h
  refine h_iaload K1 lyp_77 hg dX3_kindle_14 ?_
  refine g_if_ne K1 26 dX3_kindle_15 rfl (fun hc => ?_) (fun hc => ?_)
  · replace h := h.2 hc
    exact g_perm [1, 4, 0] rfl (h w g K)
  · replace h := h.1 hc
    refine g_aload_n K1 1 dX3_kindle_18 rfl ?_
    refine h_getO K1 q_clX3 3 79 lyp_75 fkX3_3 rfl fl_X3_21 dX3_kindle_19 ?_
    refine g_iload K1 0 dX3_kindle_22 rfl ?_
    refine g_iload_n K1 3 dX3_kindle_24 rfl ?_
    obtain ⟨hg, h⟩ := h
    refine h_iastore K1 lyp_79 hg dX3_kindle_25 ?_
    exact g_perm [1, 4, 0] rfl (h w g K)
set_option maxRecDepth 20000 in
set_option maxHeartbeats 2000000 in
theorem vc_X3_kindle_75_26 {r : Option Value} {I' : Nat → Nat → Int32} {L' : Nat → Nat → Int64} {I : Nat → Nat → Int32} {L : Nat → Nat → Int64} {x3 : Int32} {x4 : Int32} (h : (vp_in x4 91 ∧ (vp_in x4 91 ∧ (vp_in x4 91 ∧ ∀ I1, I1 = (up2 (up2 (up2 I 77 x4.toNatClampNeg x3) 78 x4.toNatClampNeg (-1)) 80 x4.toNatClampNeg 0) → (r = none ∧ I' = I1 ∧ L' = L))))) : v_X3_kindle_75_26 r I' L' I L x3 x4 := by
  intro w g K
  have K1 := K.1
  refine g_aload_n K1 0 dX3_kindle_26 rfl ?_
  refine h_getO K1 q_clX3 1 77 lyp_75 fkX3_1 rfl fl_X3_15 dX3_kindle_27 ?_
  refine g_iload K1 2 dX3_kindle_30 rfl ?_
  refine g_iload_n K1 1 dX3_kindle_32 rfl ?_
  obtain ⟨hg, h⟩ := h
  refine h_iastore K1 lyp_77 hg dX3_kindle_33 ?_
  refine g_aload_n K1 0 dX3_kindle_34 rfl ?_
  refine h_getO K1 q_clX3 2 78 lyp_75 fkX3_2 rfl fl_X3_18 dX3_kindle_35 ?_
  refine g_iload K1 2 dX3_kindle_38 rfl ?_
  refine g_iconst K1 (-1) dX3_kindle_40 rfl ?_
  obtain ⟨hg, h⟩ := h
  refine h_iastore K1 lyp_78 hg dX3_kindle_41 ?_
  refine g_aload_n K1 0 dX3_kindle_42 rfl ?_
  refine h_getO K1 q_clX3 4 80 lyp_75 fkX3_4 rfl fl_X3_24 dX3_kindle_43 ?_
  refine g_iload K1 2 dX3_kindle_46 rfl ?_
  refine g_iconst K1 0 dX3_kindle_48 rfl ?_
  obtain ⟨hg, h⟩ := h
  refine h_iastore K1 lyp_80 hg dX3_kindle_49 ?_
  refine g_nameMI (fun I1 hI1 => ?_)
  replace h := h I1 hI1
  obtain ⟨hr, hI, hL⟩ := h
  subst hr hI hL
  exact g_vreturn K rfl dX3_kindle_50
theorem c0_X3_kindle_75 {r : Option Value} {I I' : Nat → Nat → Int32} {L L' : Nat → Nat → Int64} {x1 : Int32} {x2 : Int32} {x3 : Int32} (h : v_X3_kindle_75_0 r I' L' I L x1 x2 x3) : q_C kX3_kindle [.ref 75, .int x1, .int x2, .int x3] I L r I' L' := fun w l => q_ct (by decide) (Nat.le_of_ble_eq_true rfl) (Nat.le_refl _) (fun g _ K => h w g K)
abbrev v_X3_kindle_81_0 (r : Option Value) (I' : Nat → Nat → Int32) (L' : Nat → Nat → Int64) (I : Nat → Nat → Int32) (L : Nat → Nat → Int64) (x1 : Int32) (x2 : Int32) (x3 : Int32) : Prop := q_W kX3_kindle 0 [(0, .ref 81), (1, .int x1), (2, .int x2), (3, .int x3)] [] I L r I' L'
abbrev v_X3_kindle_81_26 (r : Option Value) (I' : Nat → Nat → Int32) (L' : Nat → Nat → Int64) (I : Nat → Nat → Int32) (L : Nat → Nat → Int64) (x3 : Int32) (x4 : Int32) : Prop := q_W kX3_kindle 26 [(0, .ref 81), (3, .int x3), (4, .int x4)] [] I L r I' L'
set_option maxRecDepth 20000 in
set_option maxHeartbeats 2000000 in
theorem vc_X3_kindle_81_0 {r : Option Value} {I' : Nat → Nat → Int32} {L' : Nat → Nat → Int64} {I : Nat → Nat → Int32} {L : Nat → Nat → Int64} {x1 : Int32} {x2 : Int32} {x3 : Int32} (h : (vp_in ((x2 * 7) + x1) 91 ∧ (((I 83 (((x2 * 7) + x1) : Int32).toNatClampNeg) = 0 → (vp_in ((x2 * 7) + x1) 91 ∧ (v_X3_kindle_81_26 r I' L' (up2 I 85 (((x2 * 7) + x1) : Int32).toNatClampNeg x2) L x3 ((x2 * 7) + x1)))) ∧ (¬ (I 83 (((x2 * 7) + x1) : Int32).toNatClampNeg) = 0 → (v_X3_kindle_81_26 r I' L' I L x3 ((x2 * 7) + x1)))))) : v_X3_kindle_81_0 r I' L' I L x1 x2 x3 := by
  intro w g K
  have K1 := K.1
  refine g_iload_n K1 2 dX3_kindle_0 rfl ?_
  refine g_bipush K1 7 dX3_kindle_1 rfl ?_
  refine g_imul K1 dX3_kindle_3 ?_
  refine g_iload_n K1 1 dX3_kindle_4 rfl ?_
  refine g_iadd K1 dX3_kindle_5 ?_
  refine g_istore K1 dX3_kindle_6 (by decide) rfl ?_
  refine g_aload_n K1 1 dX3_kindle_8 rfl ?_
  refine h_getO K1 q_clX3 1 83 lyp_81 fkX3_1 rfl fl_X3_15 dX3_kindle_9 ?_
  refine g_iload K1 0 dX3_kindle_12 rfl ?_
  obtain ⟨hg, h⟩ := h
  refine h_iaload K1 lyp_83 hg dX3_kindle_14 ?_
  refine g_if_ne K1 26 dX3_kindle_15 rfl (fun hc => ?_) (fun hc => ?_)
  · replace h := h.2 hc
    exact g_perm [1, 4, 0] rfl (h w g K)
  · replace h := h.1 hc
    refine g_aload_n K1 1 dX3_kindle_18 rfl ?_
    refine h_getO K1 q_clX3 3 85 lyp_81 fkX3_3 rfl fl_X3_21 dX3_kindle_19 ?_
    refine g_iload K1 0 dX3_kindle_22 rfl ?_
    refine g_iload_n K1 3 dX3_kindle_24 rfl ?_
    obtain ⟨hg, h⟩ := h
    refine h_iastore K1 lyp_85 hg dX3_kindle_25 ?_
    exact g_perm [1, 4, 0] rfl (h w g K)
set_option maxRecDepth 20000 in
set_option maxHeartbeats 2000000 in
theorem vc_X3_kindle_81_26 {r : Option Value} {I' : Nat → Nat → Int32} {L' : Nat → Nat → Int64} {I : Nat → Nat → Int32} {L : Nat → Nat → Int64} {x3 : Int32} {x4 : Int32} (h : (vp_in x4 91 ∧ (vp_in x4 91 ∧ (vp_in x4 91 ∧ ∀ I1, I1 = (up2 (up2 (up2 I 83 x4.toNatClampNeg x3) 84 x4.toNatClampNeg (-1)) 86 x4.toNatClampNeg 0) → (r = none ∧ I' = I1 ∧ L' = L))))) : v_X3_kindle_81_26 r I' L' I L x3 x4 := by
  intro w g K
  have K1 := K.1
  refine g_aload_n K1 0 dX3_kindle_26 rfl ?_
  refine h_getO K1 q_clX3 1 83 lyp_81 fkX3_1 rfl fl_X3_15 dX3_kindle_27 ?_
  refine g_iload K1 2 dX3_kindle_30 rfl ?_
  refine g_iload_n K1 1 dX3_kindle_32 rfl ?_
  obtain ⟨hg, h⟩ := h
  refine h_iastore K1 lyp_83 hg dX3_kindle_33 ?_
  refine g_aload_n K1 0 dX3_kindle_34 rfl ?_
  refine h_getO K1 q_clX3 2 84 lyp_81 fkX3_2 rfl fl_X3_18 dX3_kindle_35 ?_
  refine g_iload K1 2 dX3_kindle_38 rfl ?_
  refine g_iconst K1 (-1) dX3_kindle_40 rfl ?_
  obtain ⟨hg, h⟩ := h
  refine h_iastore K1 lyp_84 hg dX3_kindle_41 ?_
  refine g_aload_n K1 0 dX3_kindle_42 rfl ?_
  refine h_getO K1 q_clX3 4 86 lyp_81 fkX3_4 rfl fl_X3_24 dX3_kindle_43 ?_
  refine g_iload K1 2 dX3_kindle_46 rfl ?_
  refine g_iconst K1 0 dX3_kindle_48 rfl ?_
  obtain ⟨hg, h⟩ := h
  refine h_iastore K1 lyp_86 hg dX3_kindle_49 ?_
  refine g_nameMI (fun I1 hI1 => ?_)
  replace h := h I1 hI1
  obtain ⟨hr, hI, hL⟩ := h
  subst hr hI hL
  exact g_vreturn K rfl dX3_kindle_50
theorem c0_X3_kindle_81 {r : Option Value} {I I' : Nat → Nat → Int32} {L L' : Nat → Nat → Int64} {x1 : Int32} {x2 : Int32} {x3 : Int32} (h : v_X3_kindle_81_0 r I' L' I L x1 x2 x3) : q_C kX3_kindle [.ref 81, .int x1, .int x2, .int x3] I L r I' L' := fun w l => q_ct (by decide) (Nat.le_of_ble_eq_true rfl) (Nat.le_refl _) (fun g _ K => h w g K)
abbrev v_X3_lettersSaid_75_0 (r : Option Value) (I' : Nat → Nat → Int32) (L' : Nat → Nat → Int64) (I : Nat → Nat → Int32) (L : Nat → Nat → Int64) (x1 : Int32) : Prop := q_W kX3_lettersSaid 0 [(0, .ref 75), (1, .int x1)] [] I L r I' L'
abbrev v_X3_lettersSaid_75_4 (r : Option Value) (I' : Nat → Nat → Int32) (L' : Nat → Nat → Int64) (I : Nat → Nat → Int32) (L : Nat → Nat → Int64) (x1 : Int32) (x2 : Int32) (x3 : Int32) : Prop := q_W kX3_lettersSaid 4 [(0, .ref 75), (1, .int x1), (2, .int x2), (3, .int x3)] [] I L r I' L'
set_option maxRecDepth 20000 in
set_option maxHeartbeats 2000000 in
theorem vc_X3_lettersSaid_75_0 {r : Option Value} {I' : Nat → Nat → Int32} {L' : Nat → Nat → Int64} {I : Nat → Nat → Int32} {L : Nat → Nat → Int64} {x1 : Int32} (h : (v_X3_lettersSaid_75_4 r I' L' I L x1 0 0)) : v_X3_lettersSaid_75_0 r I' L' I L x1 := by
  intro w g K
  have K1 := K.1
  refine g_iconst K1 0 dX3_lettersSaid_0 rfl ?_
  refine g_istore_n K1 dX3_lettersSaid_1 rfl (by decide) rfl ?_
  refine g_iconst K1 0 dX3_lettersSaid_2 rfl ?_
  refine g_istore_n K1 dX3_lettersSaid_3 rfl (by decide) rfl ?_
  exact g_perm [2, 3, 1, 0] rfl (h w g K)
set_option maxRecDepth 20000 in
set_option maxHeartbeats 2000000 in
theorem vc_X3_lettersSaid_75_4 {r : Option Value} {I' : Nat → Nat → Int32} {L' : Nat → Nat → Int64} {I : Nat → Nat → Int32} {L : Nat → Nat → Int64} {x1 : Int32} {x2 : Int32} {x3 : Int32} (h : (((I 12 4) ≤ x3 → (r = some (.int x2) ∧ I' = I ∧ L' = L)) ∧ (¬ (I 12 4) ≤ x3 → (vp_in ((x1 * 7) + x3) 91 ∧ (∃ r1, q_C kX7_size [.int (I 77 (((x1 * 7) + x3) : Int32).toNatClampNeg)] I L (some (.int r1)) I L ∧ (v_X3_lettersSaid_75_4 r I' L' I L x1 (x2 + r1) (x3 + 1))))))) : v_X3_lettersSaid_75_4 r I' L' I L x1 x2 x3 := by
  intro w g K
  have K1 := K.1
  refine g_iload_n K1 3 dX3_lettersSaid_4 rfl ?_
  refine g_aload_n K1 0 dX3_lettersSaid_5 rfl ?_
  refine h_getO K1 q_clX3 5 12 lyp_75 fkX3_5 rfl fl_X3_27 dX3_lettersSaid_6 ?_
  refine h_getI K1 q_clX5 4 lyp_12 fkX5_4 fl_X3_95 dX3_lettersSaid_9 ?_
  refine g_icmp_ge K1 38 dX3_lettersSaid_12 rfl (fun hc => ?_) (fun hc => ?_)
  · replace h := h.1 hc
    refine g_iload_n K1 2 dX3_lettersSaid_38 rfl ?_
    obtain ⟨hr, hI, hL⟩ := h
    subst hr hI hL
    exact g_ireturn K rfl dX3_lettersSaid_39
  · replace h := h.2 hc
    refine g_iload_n K1 2 dX3_lettersSaid_15 rfl ?_
    refine g_aload_n K1 0 dX3_lettersSaid_16 rfl ?_
    refine h_getO K1 q_clX3 1 77 lyp_75 fkX3_1 rfl fl_X3_15 dX3_lettersSaid_17 ?_
    refine g_iload_n K1 1 dX3_lettersSaid_20 rfl ?_
    refine g_bipush K1 7 dX3_lettersSaid_21 rfl ?_
    refine g_imul K1 dX3_lettersSaid_23 ?_
    refine g_iload_n K1 3 dX3_lettersSaid_24 rfl ?_
    refine g_iadd K1 dX3_lettersSaid_25 ?_
    obtain ⟨hg, h⟩ := h
    refine h_iaload K1 lyp_77 hg dX3_lettersSaid_26 ?_
    obtain ⟨r1, hct, h⟩ := h
    refine h_callS K1 (st := [.int x2]) [.int (I 77 (((x1 * 7) + x3) : Int32).toNatClampNeg)] (hct w (gl g)) ok_X7_size ml_X3_132 ⟨Nat.le_of_ble_eq_true rfl, Nat.le_of_ble_eq_true rfl⟩ (Nat.le_of_ble_eq_true rfl) dX3_lettersSaid_27 ?_
    show q_Gs w g 30 [(0, .ref 75), (1, .int x1), (2, .int x2), (3, .int x3)] [.int r1, .int x2] (q_mm I L)
    refine g_iadd K1 dX3_lettersSaid_30 ?_
    refine g_istore_n K1 dX3_lettersSaid_31 rfl (by decide) rfl ?_
    refine g_iinc K1 (x3 + 1) 3 dX3_lettersSaid_32 rfl rfl (by decide) rfl ?_
    refine g_goto K1 4 dX3_lettersSaid_35 rfl ?_
    exact g_perm [2, 3, 1, 0] rfl (h w g K)
theorem c0_X3_lettersSaid_75 {r : Option Value} {I I' : Nat → Nat → Int32} {L L' : Nat → Nat → Int64} {x1 : Int32} (h : v_X3_lettersSaid_75_0 r I' L' I L x1) : q_C kX3_lettersSaid [.ref 75, .int x1] I L r I' L' := fun w l => q_ct (by decide) (Nat.le_of_ble_eq_true rfl) (Nat.le_refl _) (fun g _ K => h w g K)
abbrev v_X3_lettersSaid_81_0 (r : Option Value) (I' : Nat → Nat → Int32) (L' : Nat → Nat → Int64) (I : Nat → Nat → Int32) (L : Nat → Nat → Int64) (x1 : Int32) : Prop := q_W kX3_lettersSaid 0 [(0, .ref 81), (1, .int x1)] [] I L r I' L'
abbrev v_X3_lettersSaid_81_4 (r : Option Value) (I' : Nat → Nat → Int32) (L' : Nat → Nat → Int64) (I : Nat → Nat → Int32) (L : Nat → Nat → Int64) (x1 : Int32) (x2 : Int32) (x3 : Int32) : Prop := q_W kX3_lettersSaid 4 [(0, .ref 81), (1, .int x1), (2, .int x2), (3, .int x3)] [] I L r I' L'
set_option maxRecDepth 20000 in
set_option maxHeartbeats 2000000 in
theorem vc_X3_lettersSaid_81_0 {r : Option Value} {I' : Nat → Nat → Int32} {L' : Nat → Nat → Int64} {I : Nat → Nat → Int32} {L : Nat → Nat → Int64} {x1 : Int32} (h : (v_X3_lettersSaid_81_4 r I' L' I L x1 0 0)) : v_X3_lettersSaid_81_0 r I' L' I L x1 := by
  intro w g K
  have K1 := K.1
  refine g_iconst K1 0 dX3_lettersSaid_0 rfl ?_
  refine g_istore_n K1 dX3_lettersSaid_1 rfl (by decide) rfl ?_
  refine g_iconst K1 0 dX3_lettersSaid_2 rfl ?_
  refine g_istore_n K1 dX3_lettersSaid_3 rfl (by decide) rfl ?_
  exact g_perm [2, 3, 1, 0] rfl (h w g K)
set_option maxRecDepth 20000 in
set_option maxHeartbeats 2000000 in
theorem vc_X3_lettersSaid_81_4 {r : Option Value} {I' : Nat → Nat → Int32} {L' : Nat → Nat → Int64} {I : Nat → Nat → Int32} {L : Nat → Nat → Int64} {x1 : Int32} {x2 : Int32} {x3 : Int32} (h : (((I 12 4) ≤ x3 → (r = some (.int x2) ∧ I' = I ∧ L' = L)) ∧ (¬ (I 12 4) ≤ x3 → (vp_in ((x1 * 7) + x3) 91 ∧ (∃ r1, q_C kX7_size [.int (I 83 (((x1 * 7) + x3) : Int32).toNatClampNeg)] I L (some (.int r1)) I L ∧ (v_X3_lettersSaid_81_4 r I' L' I L x1 (x2 + r1) (x3 + 1))))))) : v_X3_lettersSaid_81_4 r I' L' I L x1 x2 x3 := by
  intro w g K
  have K1 := K.1
  refine g_iload_n K1 3 dX3_lettersSaid_4 rfl ?_
  refine g_aload_n K1 0 dX3_lettersSaid_5 rfl ?_
  refine h_getO K1 q_clX3 5 12 lyp_81 fkX3_5 rfl fl_X3_27 dX3_lettersSaid_6 ?_
  refine h_getI K1 q_clX5 4 lyp_12 fkX5_4 fl_X3_95 dX3_lettersSaid_9 ?_
  refine g_icmp_ge K1 38 dX3_lettersSaid_12 rfl (fun hc => ?_) (fun hc => ?_)
  · replace h := h.1 hc
    refine g_iload_n K1 2 dX3_lettersSaid_38 rfl ?_
    obtain ⟨hr, hI, hL⟩ := h
    subst hr hI hL
    exact g_ireturn K rfl dX3_lettersSaid_39
  · replace h := h.2 hc
    refine g_iload_n K1 2 dX3_lettersSaid_15 rfl ?_
    refine g_aload_n K1 0 dX3_lettersSaid_16 rfl ?_
    refine h_getO K1 q_clX3 1 83 lyp_81 fkX3_1 rfl fl_X3_15 dX3_lettersSaid_17 ?_
    refine g_iload_n K1 1 dX3_lettersSaid_20 rfl ?_
    refine g_bipush K1 7 dX3_lettersSaid_21 rfl ?_
    refine g_imul K1 dX3_lettersSaid_23 ?_
    refine g_iload_n K1 3 dX3_lettersSaid_24 rfl ?_
    refine g_iadd K1 dX3_lettersSaid_25 ?_
    obtain ⟨hg, h⟩ := h
    refine h_iaload K1 lyp_83 hg dX3_lettersSaid_26 ?_
    obtain ⟨r1, hct, h⟩ := h
    refine h_callS K1 (st := [.int x2]) [.int (I 83 (((x1 * 7) + x3) : Int32).toNatClampNeg)] (hct w (gl g)) ok_X7_size ml_X3_132 ⟨Nat.le_of_ble_eq_true rfl, Nat.le_of_ble_eq_true rfl⟩ (Nat.le_of_ble_eq_true rfl) dX3_lettersSaid_27 ?_
    show q_Gs w g 30 [(0, .ref 81), (1, .int x1), (2, .int x2), (3, .int x3)] [.int r1, .int x2] (q_mm I L)
    refine g_iadd K1 dX3_lettersSaid_30 ?_
    refine g_istore_n K1 dX3_lettersSaid_31 rfl (by decide) rfl ?_
    refine g_iinc K1 (x3 + 1) 3 dX3_lettersSaid_32 rfl rfl (by decide) rfl ?_
    refine g_goto K1 4 dX3_lettersSaid_35 rfl ?_
    exact g_perm [2, 3, 1, 0] rfl (h w g K)
theorem c0_X3_lettersSaid_81 {r : Option Value} {I I' : Nat → Nat → Int32} {L L' : Nat → Nat → Int64} {x1 : Int32} (h : v_X3_lettersSaid_81_0 r I' L' I L x1) : q_C kX3_lettersSaid [.ref 81, .int x1] I L r I' L' := fun w l => q_ct (by decide) (Nat.le_of_ble_eq_true rfl) (Nat.le_refl _) (fun g _ K => h w g K)
abbrev v_X3_lightByActs_75_0 (r : Option Value) (I' : Nat → Nat → Int32) (L' : Nat → Nat → Int64) (I : Nat → Nat → Int32) (L : Nat → Nat → Int64) (x1 : Int32) : Prop := q_W kX3_lightByActs 0 [(0, .ref 75), (1, .int x1)] [] I L r I' L'
abbrev v_X3_lightByActs_75_2 (r : Option Value) (I' : Nat → Nat → Int32) (L' : Nat → Nat → Int64) (I : Nat → Nat → Int32) (L : Nat → Nat → Int64) (x1 : Int32) (x2 : Int32) : Prop := q_W kX3_lightByActs 2 [(0, .ref 75), (1, .int x1), (2, .int x2)] [] I L r I' L'
abbrev v_X3_lightByActs_75_74 (r : Option Value) (I' : Nat → Nat → Int32) (L' : Nat → Nat → Int64) (I : Nat → Nat → Int32) (L : Nat → Nat → Int64) (x1 : Int32) : Prop := q_W kX3_lightByActs 74 [(0, .ref 75), (1, .int x1)] [] I L r I' L'
set_option maxRecDepth 20000 in
set_option maxHeartbeats 2000000 in
theorem vc_X3_lightByActs_75_0 {r : Option Value} {I' : Nat → Nat → Int32} {L' : Nat → Nat → Int64} {I : Nat → Nat → Int32} {L : Nat → Nat → Int64} {x1 : Int32} (h : (v_X3_lightByActs_75_2 r I' L' I L x1 0)) : v_X3_lightByActs_75_0 r I' L' I L x1 := by
  intro w g K
  have K1 := K.1
  refine g_iconst K1 0 dX3_lightByActs_0 rfl ?_
  refine g_istore_n K1 dX3_lightByActs_1 rfl (by decide) rfl ?_
  exact g_perm [1, 2, 0] rfl (h w g K)
set_option maxRecDepth 20000 in
set_option maxHeartbeats 2000000 in
theorem vc_X3_lightByActs_75_2 {r : Option Value} {I' : Nat → Nat → Int32} {L' : Nat → Nat → Int64} {I : Nat → Nat → Int32} {L : Nat → Nat → Int64} {x1 : Int32} {x2 : Int32} (h : (((I 21 0) ≤ x2 → (v_X3_lightByActs_75_74 r I' L' I L x1)) ∧ (¬ (I 21 0) ≤ x2 → (((I 75 14) = 0 → (vp_in x2 30 ∧ (((I 24 x2.toNatClampNeg) = x1 → (vp_in x2 30 ∧ (((I 23 x2.toNatClampNeg) = 0 → (v_X3_lightByActs_75_2 r I' L' I L x1 (x2 + 1))) ∧ (¬ (I 23 x2.toNatClampNeg) = 0 → (vp_in x2 30 ∧ (vp_in x2 30 ∧ (∃ I1, q_C kX3_kindle [.ref 75, .int (I 22 x2.toNatClampNeg), .int x1, .int (I 23 x2.toNatClampNeg)] I L none I1 L ∧ (v_X3_lightByActs_75_2 r I' L' I1 L x1 (x2 + 1))))))))) ∧ (¬ (I 24 x2.toNatClampNeg) = x1 → (v_X3_lightByActs_75_2 r I' L' I L x1 (x2 + 1)))))) ∧ (¬ (I 75 14) = 0 → (v_X3_lightByActs_75_74 r I' L' I L x1)))))) : v_X3_lightByActs_75_2 r I' L' I L x1 x2 := by
  intro w g K
  have K1 := K.1
  refine g_iload_n K1 2 dX3_lightByActs_2 rfl ?_
  refine g_aload_n K1 0 dX3_lightByActs_3 rfl ?_
  refine h_getO K1 q_clX3 6 21 lyp_75 fkX3_6 rfl fl_X3_31 dX3_lightByActs_4 ?_
  refine h_getI K1 q_clX0 0 lyp_21 fkX0_0 fl_X3_135 dX3_lightByActs_7 ?_
  refine g_icmp_ge K1 74 dX3_lightByActs_10 rfl (fun hc => ?_) (fun hc => ?_)
  · replace h := h.1 hc
    exact g_perm [0, 1] rfl (h w g K)
  · replace h := h.2 hc
    refine g_aload_n K1 0 dX3_lightByActs_13 rfl ?_
    refine h_getI K1 q_clX3 14 lyp_75 fkX3_14 fl_X3_60 dX3_lightByActs_14 ?_
    refine g_if_ne K1 74 dX3_lightByActs_17 rfl (fun hc => ?_) (fun hc => ?_)
    · replace h := h.2 hc
      exact g_perm [0, 1] rfl (h w g K)
    · replace h := h.1 hc
      refine g_aload_n K1 0 dX3_lightByActs_20 rfl ?_
      refine h_getO K1 q_clX3 6 21 lyp_75 fkX3_6 rfl fl_X3_31 dX3_lightByActs_21 ?_
      refine h_getO K1 q_clX0 3 24 lyp_21 fkX0_3 rfl fl_X3_140 dX3_lightByActs_24 ?_
      refine g_iload_n K1 2 dX3_lightByActs_27 rfl ?_
      obtain ⟨hg, h⟩ := h
      refine h_iaload K1 lyp_24 hg dX3_lightByActs_28 ?_
      refine g_iload_n K1 1 dX3_lightByActs_29 rfl ?_
      refine g_icmp_ne K1 68 dX3_lightByActs_30 rfl (fun hc => ?_) (fun hc => ?_)
      · replace h := h.2 hc
        refine g_iinc K1 (x2 + 1) 2 dX3_lightByActs_68 rfl rfl (by decide) rfl ?_
        refine g_goto K1 2 dX3_lightByActs_71 rfl ?_
        exact g_perm [1, 2, 0] rfl (h w g K)
      · replace h := h.1 hc
        refine g_aload_n K1 0 dX3_lightByActs_33 rfl ?_
        refine h_getO K1 q_clX3 6 21 lyp_75 fkX3_6 rfl fl_X3_31 dX3_lightByActs_34 ?_
        refine h_getO K1 q_clX0 2 23 lyp_21 fkX0_2 rfl fl_X3_143 dX3_lightByActs_37 ?_
        refine g_iload_n K1 2 dX3_lightByActs_40 rfl ?_
        obtain ⟨hg, h⟩ := h
        refine h_iaload K1 lyp_23 hg dX3_lightByActs_41 ?_
        refine g_if_eq K1 68 dX3_lightByActs_42 rfl (fun hc => ?_) (fun hc => ?_)
        · replace h := h.1 hc
          refine g_iinc K1 (x2 + 1) 2 dX3_lightByActs_68 rfl rfl (by decide) rfl ?_
          refine g_goto K1 2 dX3_lightByActs_71 rfl ?_
          exact g_perm [1, 2, 0] rfl (h w g K)
        · replace h := h.2 hc
          refine g_aload_n K1 0 dX3_lightByActs_45 rfl ?_
          refine g_aload_n K1 0 dX3_lightByActs_46 rfl ?_
          refine h_getO K1 q_clX3 6 21 lyp_75 fkX3_6 rfl fl_X3_31 dX3_lightByActs_47 ?_
          refine h_getO K1 q_clX0 1 22 lyp_21 fkX0_1 rfl fl_X3_146 dX3_lightByActs_50 ?_
          refine g_iload_n K1 2 dX3_lightByActs_53 rfl ?_
          obtain ⟨hg, h⟩ := h
          refine h_iaload K1 lyp_22 hg dX3_lightByActs_54 ?_
          refine g_iload_n K1 1 dX3_lightByActs_55 rfl ?_
          refine g_aload_n K1 0 dX3_lightByActs_56 rfl ?_
          refine h_getO K1 q_clX3 6 21 lyp_75 fkX3_6 rfl fl_X3_31 dX3_lightByActs_57 ?_
          refine h_getO K1 q_clX0 2 23 lyp_21 fkX0_2 rfl fl_X3_143 dX3_lightByActs_60 ?_
          refine g_iload_n K1 2 dX3_lightByActs_63 rfl ?_
          obtain ⟨hg, h⟩ := h
          refine h_iaload K1 lyp_23 hg dX3_lightByActs_64 ?_
          obtain ⟨I1, hct, h⟩ := h
          refine h_callV K1 (st := []) [.int (I 22 x2.toNatClampNeg), .int x1, .int (I 23 x2.toNatClampNeg)] (hct w (gl g)) q_clX3 lyp_75 rfl ok_X3_kindle ml_X3_101 ⟨Nat.le_of_ble_eq_true rfl, Nat.le_of_ble_eq_true rfl⟩ (Nat.le_of_ble_eq_true rfl) dX3_lightByActs_65 ?_
          show q_Gs w g 68 [(0, .ref 75), (1, .int x1), (2, .int x2)] [] (q_mm I1 L)
          refine g_iinc K1 (x2 + 1) 2 dX3_lightByActs_68 rfl rfl (by decide) rfl ?_
          refine g_goto K1 2 dX3_lightByActs_71 rfl ?_
          exact g_perm [1, 2, 0] rfl (h w g K)
set_option maxRecDepth 20000 in
set_option maxHeartbeats 2000000 in
theorem vc_X3_lightByActs_75_74 {r : Option Value} {I' : Nat → Nat → Int32} {L' : Nat → Nat → Int64} {I : Nat → Nat → Int32} {L : Nat → Nat → Int64} {x1 : Int32} (h : ((x1 = 0 → (((I 75 10) = (-1) → (r = none ∧ I' = I ∧ L' = L)) ∧ (¬ (I 75 10) = (-1) → (∃ I1, q_C kX3_kindle [.ref 75, .int (I 75 10), .int 0, .int 1] I L none I1 L ∧ (r = none ∧ I' = I1 ∧ L' = L))))) ∧ (¬ x1 = 0 → (r = none ∧ I' = I ∧ L' = L)))) : v_X3_lightByActs_75_74 r I' L' I L x1 := by
  intro w g K
  have K1 := K.1
  refine g_iload_n K1 1 dX3_lightByActs_74 rfl ?_
  refine g_if_ne K1 96 dX3_lightByActs_75 rfl (fun hc => ?_) (fun hc => ?_)
  · replace h := h.2 hc
    obtain ⟨hr, hI, hL⟩ := h
    subst hr hI hL
    exact g_vreturn K rfl dX3_lightByActs_96
  · replace h := h.1 hc
    refine g_aload_n K1 0 dX3_lightByActs_78 rfl ?_
    refine h_getI K1 q_clX3 10 lyp_75 fkX3_10 fl_X3_48 dX3_lightByActs_79 ?_
    refine g_iconst K1 (-1) dX3_lightByActs_82 rfl ?_
    refine g_icmp_eq K1 96 dX3_lightByActs_83 rfl (fun hc => ?_) (fun hc => ?_)
    · replace h := h.1 hc
      obtain ⟨hr, hI, hL⟩ := h
      subst hr hI hL
      exact g_vreturn K rfl dX3_lightByActs_96
    · replace h := h.2 hc
      refine g_aload_n K1 0 dX3_lightByActs_86 rfl ?_
      refine g_aload_n K1 0 dX3_lightByActs_87 rfl ?_
      refine h_getI K1 q_clX3 10 lyp_75 fkX3_10 fl_X3_48 dX3_lightByActs_88 ?_
      refine g_iconst K1 0 dX3_lightByActs_91 rfl ?_
      refine g_iconst K1 1 dX3_lightByActs_92 rfl ?_
      obtain ⟨I1, hct, h⟩ := h
      refine h_callV K1 (st := []) [.int (I 75 10), .int 0, .int 1] (hct w (gl g)) q_clX3 lyp_75 rfl ok_X3_kindle ml_X3_101 ⟨Nat.le_of_ble_eq_true rfl, Nat.le_of_ble_eq_true rfl⟩ (Nat.le_of_ble_eq_true rfl) dX3_lightByActs_93 ?_
      show q_Gs w g 96 [(0, .ref 75), (1, .int x1)] [] (q_mm I1 L)
      obtain ⟨hr, hI, hL⟩ := h
      subst hr hI hL
      exact g_vreturn K rfl dX3_lightByActs_96
theorem c0_X3_lightByActs_75 {r : Option Value} {I I' : Nat → Nat → Int32} {L L' : Nat → Nat → Int64} {x1 : Int32} (h : v_X3_lightByActs_75_0 r I' L' I L x1) : q_C kX3_lightByActs [.ref 75, .int x1] I L r I' L' := fun w l => q_ct (by decide) (Nat.le_of_ble_eq_true rfl) (Nat.le_refl _) (fun g _ K => h w g K)
abbrev v_X3_lightByActs_81_0 (r : Option Value) (I' : Nat → Nat → Int32) (L' : Nat → Nat → Int64) (I : Nat → Nat → Int32) (L : Nat → Nat → Int64) (x1 : Int32) : Prop := q_W kX3_lightByActs 0 [(0, .ref 81), (1, .int x1)] [] I L r I' L'
abbrev v_X3_lightByActs_81_2 (r : Option Value) (I' : Nat → Nat → Int32) (L' : Nat → Nat → Int64) (I : Nat → Nat → Int32) (L : Nat → Nat → Int64) (x1 : Int32) (x2 : Int32) : Prop := q_W kX3_lightByActs 2 [(0, .ref 81), (1, .int x1), (2, .int x2)] [] I L r I' L'
abbrev v_X3_lightByActs_81_74 (r : Option Value) (I' : Nat → Nat → Int32) (L' : Nat → Nat → Int64) (I : Nat → Nat → Int32) (L : Nat → Nat → Int64) (x1 : Int32) : Prop := q_W kX3_lightByActs 74 [(0, .ref 81), (1, .int x1)] [] I L r I' L'
set_option maxRecDepth 20000 in
set_option maxHeartbeats 2000000 in
theorem vc_X3_lightByActs_81_0 {r : Option Value} {I' : Nat → Nat → Int32} {L' : Nat → Nat → Int64} {I : Nat → Nat → Int32} {L : Nat → Nat → Int64} {x1 : Int32} (h : (v_X3_lightByActs_81_2 r I' L' I L x1 0)) : v_X3_lightByActs_81_0 r I' L' I L x1 := by
  intro w g K
  have K1 := K.1
  refine g_iconst K1 0 dX3_lightByActs_0 rfl ?_
  refine g_istore_n K1 dX3_lightByActs_1 rfl (by decide) rfl ?_
  exact g_perm [1, 2, 0] rfl (h w g K)
set_option maxRecDepth 20000 in
set_option maxHeartbeats 2000000 in
theorem vc_X3_lightByActs_81_2 {r : Option Value} {I' : Nat → Nat → Int32} {L' : Nat → Nat → Int64} {I : Nat → Nat → Int32} {L : Nat → Nat → Int64} {x1 : Int32} {x2 : Int32} (h : (((I 21 0) ≤ x2 → (v_X3_lightByActs_81_74 r I' L' I L x1)) ∧ (¬ (I 21 0) ≤ x2 → (((I 81 14) = 0 → (vp_in x2 30 ∧ (((I 24 x2.toNatClampNeg) = x1 → (vp_in x2 30 ∧ (((I 23 x2.toNatClampNeg) = 0 → (v_X3_lightByActs_81_2 r I' L' I L x1 (x2 + 1))) ∧ (¬ (I 23 x2.toNatClampNeg) = 0 → (vp_in x2 30 ∧ (vp_in x2 30 ∧ (∃ I1, q_C kX3_kindle [.ref 81, .int (I 22 x2.toNatClampNeg), .int x1, .int (I 23 x2.toNatClampNeg)] I L none I1 L ∧ (v_X3_lightByActs_81_2 r I' L' I1 L x1 (x2 + 1))))))))) ∧ (¬ (I 24 x2.toNatClampNeg) = x1 → (v_X3_lightByActs_81_2 r I' L' I L x1 (x2 + 1)))))) ∧ (¬ (I 81 14) = 0 → (v_X3_lightByActs_81_74 r I' L' I L x1)))))) : v_X3_lightByActs_81_2 r I' L' I L x1 x2 := by
  intro w g K
  have K1 := K.1
  refine g_iload_n K1 2 dX3_lightByActs_2 rfl ?_
  refine g_aload_n K1 0 dX3_lightByActs_3 rfl ?_
  refine h_getO K1 q_clX3 6 21 lyp_81 fkX3_6 rfl fl_X3_31 dX3_lightByActs_4 ?_
  refine h_getI K1 q_clX0 0 lyp_21 fkX0_0 fl_X3_135 dX3_lightByActs_7 ?_
  refine g_icmp_ge K1 74 dX3_lightByActs_10 rfl (fun hc => ?_) (fun hc => ?_)
  · replace h := h.1 hc
    exact g_perm [0, 1] rfl (h w g K)
  · replace h := h.2 hc
    refine g_aload_n K1 0 dX3_lightByActs_13 rfl ?_
    refine h_getI K1 q_clX3 14 lyp_81 fkX3_14 fl_X3_60 dX3_lightByActs_14 ?_
    refine g_if_ne K1 74 dX3_lightByActs_17 rfl (fun hc => ?_) (fun hc => ?_)
    · replace h := h.2 hc
      exact g_perm [0, 1] rfl (h w g K)
    · replace h := h.1 hc
      refine g_aload_n K1 0 dX3_lightByActs_20 rfl ?_
      refine h_getO K1 q_clX3 6 21 lyp_81 fkX3_6 rfl fl_X3_31 dX3_lightByActs_21 ?_
      refine h_getO K1 q_clX0 3 24 lyp_21 fkX0_3 rfl fl_X3_140 dX3_lightByActs_24 ?_
      refine g_iload_n K1 2 dX3_lightByActs_27 rfl ?_
      obtain ⟨hg, h⟩ := h
      refine h_iaload K1 lyp_24 hg dX3_lightByActs_28 ?_
      refine g_iload_n K1 1 dX3_lightByActs_29 rfl ?_
      refine g_icmp_ne K1 68 dX3_lightByActs_30 rfl (fun hc => ?_) (fun hc => ?_)
      · replace h := h.2 hc
        refine g_iinc K1 (x2 + 1) 2 dX3_lightByActs_68 rfl rfl (by decide) rfl ?_
        refine g_goto K1 2 dX3_lightByActs_71 rfl ?_
        exact g_perm [1, 2, 0] rfl (h w g K)
      · replace h := h.1 hc
        refine g_aload_n K1 0 dX3_lightByActs_33 rfl ?_
        refine h_getO K1 q_clX3 6 21 lyp_81 fkX3_6 rfl fl_X3_31 dX3_lightByActs_34 ?_
        refine h_getO K1 q_clX0 2 23 lyp_21 fkX0_2 rfl fl_X3_143 dX3_lightByActs_37 ?_
        refine g_iload_n K1 2 dX3_lightByActs_40 rfl ?_
        obtain ⟨hg, h⟩ := h
        refine h_iaload K1 lyp_23 hg dX3_lightByActs_41 ?_
        refine g_if_eq K1 68 dX3_lightByActs_42 rfl (fun hc => ?_) (fun hc => ?_)
        · replace h := h.1 hc
          refine g_iinc K1 (x2 + 1) 2 dX3_lightByActs_68 rfl rfl (by decide) rfl ?_
          refine g_goto K1 2 dX3_lightByActs_71 rfl ?_
          exact g_perm [1, 2, 0] rfl (h w g K)
        · replace h := h.2 hc
          refine g_aload_n K1 0 dX3_lightByActs_45 rfl ?_
          refine g_aload_n K1 0 dX3_lightByActs_46 rfl ?_
          refine h_getO K1 q_clX3 6 21 lyp_81 fkX3_6 rfl fl_X3_31 dX3_lightByActs_47 ?_
          refine h_getO K1 q_clX0 1 22 lyp_21 fkX0_1 rfl fl_X3_146 dX3_lightByActs_50 ?_
          refine g_iload_n K1 2 dX3_lightByActs_53 rfl ?_
          obtain ⟨hg, h⟩ := h
          refine h_iaload K1 lyp_22 hg dX3_lightByActs_54 ?_
          refine g_iload_n K1 1 dX3_lightByActs_55 rfl ?_
          refine g_aload_n K1 0 dX3_lightByActs_56 rfl ?_
          refine h_getO K1 q_clX3 6 21 lyp_81 fkX3_6 rfl fl_X3_31 dX3_lightByActs_57 ?_
          refine h_getO K1 q_clX0 2 23 lyp_21 fkX0_2 rfl fl_X3_143 dX3_lightByActs_60 ?_
          refine g_iload_n K1 2 dX3_lightByActs_63 rfl ?_
          obtain ⟨hg, h⟩ := h
          refine h_iaload K1 lyp_23 hg dX3_lightByActs_64 ?_
          obtain ⟨I1, hct, h⟩ := h
          refine h_callV K1 (st := []) [.int (I 22 x2.toNatClampNeg), .int x1, .int (I 23 x2.toNatClampNeg)] (hct w (gl g)) q_clX3 lyp_81 rfl ok_X3_kindle ml_X3_101 ⟨Nat.le_of_ble_eq_true rfl, Nat.le_of_ble_eq_true rfl⟩ (Nat.le_of_ble_eq_true rfl) dX3_lightByActs_65 ?_
          show q_Gs w g 68 [(0, .ref 81), (1, .int x1), (2, .int x2)] [] (q_mm I1 L)
          refine g_iinc K1 (x2 + 1) 2 dX3_lightByActs_68 rfl rfl (by decide) rfl ?_
          refine g_goto K1 2 dX3_lightByActs_71 rfl ?_
          exact g_perm [1, 2, 0] rfl (h w g K)
set_option maxRecDepth 20000 in
set_option maxHeartbeats 2000000 in
theorem vc_X3_lightByActs_81_74 {r : Option Value} {I' : Nat → Nat → Int32} {L' : Nat → Nat → Int64} {I : Nat → Nat → Int32} {L : Nat → Nat → Int64} {x1 : Int32} (h : ((x1 = 0 → (((I 81 10) = (-1) → (r = none ∧ I' = I ∧ L' = L)) ∧ (¬ (I 81 10) = (-1) → (∃ I1, q_C kX3_kindle [.ref 81, .int (I 81 10), .int 0, .int 1] I L none I1 L ∧ (r = none ∧ I' = I1 ∧ L' = L))))) ∧ (¬ x1 = 0 → (r = none ∧ I' = I ∧ L' = L)))) : v_X3_lightByActs_81_74 r I' L' I L x1 := by
  intro w g K
  have K1 := K.1
  refine g_iload_n K1 1 dX3_lightByActs_74 rfl ?_
  refine g_if_ne K1 96 dX3_lightByActs_75 rfl (fun hc => ?_) (fun hc => ?_)
  · replace h := h.2 hc
    obtain ⟨hr, hI, hL⟩ := h
    subst hr hI hL
    exact g_vreturn K rfl dX3_lightByActs_96
  · replace h := h.1 hc
    refine g_aload_n K1 0 dX3_lightByActs_78 rfl ?_
    refine h_getI K1 q_clX3 10 lyp_81 fkX3_10 fl_X3_48 dX3_lightByActs_79 ?_
    refine g_iconst K1 (-1) dX3_lightByActs_82 rfl ?_
    refine g_icmp_eq K1 96 dX3_lightByActs_83 rfl (fun hc => ?_) (fun hc => ?_)
    · replace h := h.1 hc
      obtain ⟨hr, hI, hL⟩ := h
      subst hr hI hL
      exact g_vreturn K rfl dX3_lightByActs_96
    · replace h := h.2 hc
      refine g_aload_n K1 0 dX3_lightByActs_86 rfl ?_
      refine g_aload_n K1 0 dX3_lightByActs_87 rfl ?_
      refine h_getI K1 q_clX3 10 lyp_81 fkX3_10 fl_X3_48 dX3_lightByActs_88 ?_
      refine g_iconst K1 0 dX3_lightByActs_91 rfl ?_
      refine g_iconst K1 1 dX3_lightByActs_92 rfl ?_
      obtain ⟨I1, hct, h⟩ := h
      refine h_callV K1 (st := []) [.int (I 81 10), .int 0, .int 1] (hct w (gl g)) q_clX3 lyp_81 rfl ok_X3_kindle ml_X3_101 ⟨Nat.le_of_ble_eq_true rfl, Nat.le_of_ble_eq_true rfl⟩ (Nat.le_of_ble_eq_true rfl) dX3_lightByActs_93 ?_
      show q_Gs w g 96 [(0, .ref 81), (1, .int x1)] [] (q_mm I1 L)
      obtain ⟨hr, hI, hL⟩ := h
      subst hr hI hL
      exact g_vreturn K rfl dX3_lightByActs_96
theorem c0_X3_lightByActs_81 {r : Option Value} {I I' : Nat → Nat → Int32} {L L' : Nat → Nat → Int64} {x1 : Int32} (h : v_X3_lightByActs_81_0 r I' L' I L x1) : q_C kX3_lightByActs [.ref 81, .int x1] I L r I' L' := fun w l => q_ct (by decide) (Nat.le_of_ble_eq_true rfl) (Nat.le_refl _) (fun g _ K => h w g K)
abbrev v_X3_noteLit_75_0 (r : Option Value) (I' : Nat → Nat → Int32) (L' : Nat → Nat → Int64) (I : Nat → Nat → Int32) (L : Nat → Nat → Int64) (x1 : Int32) : Prop := q_W kX3_noteLit 0 [(0, .ref 75), (1, .int x1)] [] I L r I' L'
abbrev v_X3_noteLit_75_4 (r : Option Value) (I' : Nat → Nat → Int32) (L' : Nat → Nat → Int64) (I : Nat → Nat → Int32) (L : Nat → Nat → Int64) (x1 : Int32) (x2 : Int32) (x3 : Int32) : Prop := q_W kX3_noteLit 4 [(0, .ref 75), (1, .int x1), (2, .int x2), (3, .int x3)] [] I L r I' L'
set_option maxRecDepth 20000 in
set_option maxHeartbeats 2000000 in
theorem vc_X3_noteLit_75_0 {r : Option Value} {I' : Nat → Nat → Int32} {L' : Nat → Nat → Int64} {I : Nat → Nat → Int32} {L : Nat → Nat → Int64} {x1 : Int32} (h : (v_X3_noteLit_75_4 r I' L' I L x1 0 0)) : v_X3_noteLit_75_0 r I' L' I L x1 := by
  intro w g K
  have K1 := K.1
  refine g_iconst K1 0 dX3_noteLit_0 rfl ?_
  refine g_istore_n K1 dX3_noteLit_1 rfl (by decide) rfl ?_
  refine g_iconst K1 0 dX3_noteLit_2 rfl ?_
  refine g_istore_n K1 dX3_noteLit_3 rfl (by decide) rfl ?_
  exact g_perm [2, 3, 1, 0] rfl (h w g K)
set_option maxRecDepth 20000 in
set_option maxHeartbeats 2000000 in
theorem vc_X3_noteLit_75_4 {r : Option Value} {I' : Nat → Nat → Int32} {L' : Nat → Nat → Int64} {I : Nat → Nat → Int32} {L : Nat → Nat → Int64} {x1 : Int32} {x2 : Int32} {x3 : Int32} (h : (((I 12 4) ≤ x3 → (vp_in x1 13 ∧ (r = none ∧ I' = (up2 I 76 x1.toNatClampNeg x2) ∧ L' = L))) ∧ (¬ (I 12 4) ≤ x3 → (vp_in ((x1 * 7) + x3) 91 ∧ (((I 77 (((x1 * 7) + x3) : Int32).toNatClampNeg) = 0 → (v_X3_noteLit_75_4 r I' L' I L x1 x2 (x3 + 1))) ∧ (¬ (I 77 (((x1 * 7) + x3) : Int32).toNatClampNeg) = 0 → (v_X3_noteLit_75_4 r I' L' I L x1 (x2 ||| ((1 : Int32) <<< (x3 &&& 31))) (x3 + 1)))))))) : v_X3_noteLit_75_4 r I' L' I L x1 x2 x3 := by
  intro w g K
  have K1 := K.1
  refine g_iload_n K1 3 dX3_noteLit_4 rfl ?_
  refine g_aload_n K1 0 dX3_noteLit_5 rfl ?_
  refine h_getO K1 q_clX3 5 12 lyp_75 fkX3_5 rfl fl_X3_27 dX3_noteLit_6 ?_
  refine h_getI K1 q_clX5 4 lyp_12 fkX5_4 fl_X3_95 dX3_noteLit_9 ?_
  refine g_icmp_ge K1 41 dX3_noteLit_12 rfl (fun hc => ?_) (fun hc => ?_)
  · replace h := h.1 hc
    refine g_aload_n K1 0 dX3_noteLit_41 rfl ?_
    refine h_getO K1 q_clX3 0 76 lyp_75 fkX3_0 rfl fl_X3_9 dX3_noteLit_42 ?_
    refine g_iload_n K1 1 dX3_noteLit_45 rfl ?_
    refine g_iload_n K1 2 dX3_noteLit_46 rfl ?_
    obtain ⟨hg, h⟩ := h
    refine h_iastore K1 lyp_76 hg dX3_noteLit_47 ?_
    obtain ⟨hr, hI, hL⟩ := h
    subst hr hI hL
    exact g_vreturn K rfl dX3_noteLit_48
  · replace h := h.2 hc
    refine g_aload_n K1 0 dX3_noteLit_15 rfl ?_
    refine h_getO K1 q_clX3 1 77 lyp_75 fkX3_1 rfl fl_X3_15 dX3_noteLit_16 ?_
    refine g_iload_n K1 1 dX3_noteLit_19 rfl ?_
    refine g_bipush K1 7 dX3_noteLit_20 rfl ?_
    refine g_imul K1 dX3_noteLit_22 ?_
    refine g_iload_n K1 3 dX3_noteLit_23 rfl ?_
    refine g_iadd K1 dX3_noteLit_24 ?_
    obtain ⟨hg, h⟩ := h
    refine h_iaload K1 lyp_77 hg dX3_noteLit_25 ?_
    refine g_if_eq K1 35 dX3_noteLit_26 rfl (fun hc => ?_) (fun hc => ?_)
    · replace h := h.1 hc
      refine g_iinc K1 (x3 + 1) 3 dX3_noteLit_35 rfl rfl (by decide) rfl ?_
      refine g_goto K1 4 dX3_noteLit_38 rfl ?_
      exact g_perm [1, 2, 3, 0] rfl (h w g K)
    · replace h := h.2 hc
      refine g_iload_n K1 2 dX3_noteLit_29 rfl ?_
      refine g_iconst K1 1 dX3_noteLit_30 rfl ?_
      refine g_iload_n K1 3 dX3_noteLit_31 rfl ?_
      refine g_ishl K1 dX3_noteLit_32 ?_
      refine g_ior K1 dX3_noteLit_33 ?_
      refine g_istore_n K1 dX3_noteLit_34 rfl (by decide) rfl ?_
      refine g_iinc K1 (x3 + 1) 3 dX3_noteLit_35 rfl rfl (by decide) rfl ?_
      refine g_goto K1 4 dX3_noteLit_38 rfl ?_
      exact g_perm [2, 3, 1, 0] rfl (h w g K)
theorem c0_X3_noteLit_75 {r : Option Value} {I I' : Nat → Nat → Int32} {L L' : Nat → Nat → Int64} {x1 : Int32} (h : v_X3_noteLit_75_0 r I' L' I L x1) : q_C kX3_noteLit [.ref 75, .int x1] I L r I' L' := fun w l => q_ct (by decide) (Nat.le_of_ble_eq_true rfl) (Nat.le_refl _) (fun g _ K => h w g K)
abbrev v_X3_noteLit_81_0 (r : Option Value) (I' : Nat → Nat → Int32) (L' : Nat → Nat → Int64) (I : Nat → Nat → Int32) (L : Nat → Nat → Int64) (x1 : Int32) : Prop := q_W kX3_noteLit 0 [(0, .ref 81), (1, .int x1)] [] I L r I' L'
abbrev v_X3_noteLit_81_4 (r : Option Value) (I' : Nat → Nat → Int32) (L' : Nat → Nat → Int64) (I : Nat → Nat → Int32) (L : Nat → Nat → Int64) (x1 : Int32) (x2 : Int32) (x3 : Int32) : Prop := q_W kX3_noteLit 4 [(0, .ref 81), (1, .int x1), (2, .int x2), (3, .int x3)] [] I L r I' L'
set_option maxRecDepth 20000 in
set_option maxHeartbeats 2000000 in
theorem vc_X3_noteLit_81_0 {r : Option Value} {I' : Nat → Nat → Int32} {L' : Nat → Nat → Int64} {I : Nat → Nat → Int32} {L : Nat → Nat → Int64} {x1 : Int32} (h : (v_X3_noteLit_81_4 r I' L' I L x1 0 0)) : v_X3_noteLit_81_0 r I' L' I L x1 := by
  intro w g K
  have K1 := K.1
  refine g_iconst K1 0 dX3_noteLit_0 rfl ?_
  refine g_istore_n K1 dX3_noteLit_1 rfl (by decide) rfl ?_
  refine g_iconst K1 0 dX3_noteLit_2 rfl ?_
  refine g_istore_n K1 dX3_noteLit_3 rfl (by decide) rfl ?_
  exact g_perm [2, 3, 1, 0] rfl (h w g K)
set_option maxRecDepth 20000 in
set_option maxHeartbeats 2000000 in
theorem vc_X3_noteLit_81_4 {r : Option Value} {I' : Nat → Nat → Int32} {L' : Nat → Nat → Int64} {I : Nat → Nat → Int32} {L : Nat → Nat → Int64} {x1 : Int32} {x2 : Int32} {x3 : Int32} (h : (((I 12 4) ≤ x3 → (vp_in x1 13 ∧ (r = none ∧ I' = (up2 I 82 x1.toNatClampNeg x2) ∧ L' = L))) ∧ (¬ (I 12 4) ≤ x3 → (vp_in ((x1 * 7) + x3) 91 ∧ (((I 83 (((x1 * 7) + x3) : Int32).toNatClampNeg) = 0 → (v_X3_noteLit_81_4 r I' L' I L x1 x2 (x3 + 1))) ∧ (¬ (I 83 (((x1 * 7) + x3) : Int32).toNatClampNeg) = 0 → (v_X3_noteLit_81_4 r I' L' I L x1 (x2 ||| ((1 : Int32) <<< (x3 &&& 31))) (x3 + 1)))))))) : v_X3_noteLit_81_4 r I' L' I L x1 x2 x3 := by
  intro w g K
  have K1 := K.1
  refine g_iload_n K1 3 dX3_noteLit_4 rfl ?_
  refine g_aload_n K1 0 dX3_noteLit_5 rfl ?_
  refine h_getO K1 q_clX3 5 12 lyp_81 fkX3_5 rfl fl_X3_27 dX3_noteLit_6 ?_
  refine h_getI K1 q_clX5 4 lyp_12 fkX5_4 fl_X3_95 dX3_noteLit_9 ?_
  refine g_icmp_ge K1 41 dX3_noteLit_12 rfl (fun hc => ?_) (fun hc => ?_)
  · replace h := h.1 hc
    refine g_aload_n K1 0 dX3_noteLit_41 rfl ?_
    refine h_getO K1 q_clX3 0 82 lyp_81 fkX3_0 rfl fl_X3_9 dX3_noteLit_42 ?_
    refine g_iload_n K1 1 dX3_noteLit_45 rfl ?_
    refine g_iload_n K1 2 dX3_noteLit_46 rfl ?_
    obtain ⟨hg, h⟩ := h
    refine h_iastore K1 lyp_82 hg dX3_noteLit_47 ?_
    obtain ⟨hr, hI, hL⟩ := h
    subst hr hI hL
    exact g_vreturn K rfl dX3_noteLit_48
  · replace h := h.2 hc
    refine g_aload_n K1 0 dX3_noteLit_15 rfl ?_
    refine h_getO K1 q_clX3 1 83 lyp_81 fkX3_1 rfl fl_X3_15 dX3_noteLit_16 ?_
    refine g_iload_n K1 1 dX3_noteLit_19 rfl ?_
    refine g_bipush K1 7 dX3_noteLit_20 rfl ?_
    refine g_imul K1 dX3_noteLit_22 ?_
    refine g_iload_n K1 3 dX3_noteLit_23 rfl ?_
    refine g_iadd K1 dX3_noteLit_24 ?_
    obtain ⟨hg, h⟩ := h
    refine h_iaload K1 lyp_83 hg dX3_noteLit_25 ?_
    refine g_if_eq K1 35 dX3_noteLit_26 rfl (fun hc => ?_) (fun hc => ?_)
    · replace h := h.1 hc
      refine g_iinc K1 (x3 + 1) 3 dX3_noteLit_35 rfl rfl (by decide) rfl ?_
      refine g_goto K1 4 dX3_noteLit_38 rfl ?_
      exact g_perm [1, 2, 3, 0] rfl (h w g K)
    · replace h := h.2 hc
      refine g_iload_n K1 2 dX3_noteLit_29 rfl ?_
      refine g_iconst K1 1 dX3_noteLit_30 rfl ?_
      refine g_iload_n K1 3 dX3_noteLit_31 rfl ?_
      refine g_ishl K1 dX3_noteLit_32 ?_
      refine g_ior K1 dX3_noteLit_33 ?_
      refine g_istore_n K1 dX3_noteLit_34 rfl (by decide) rfl ?_
      refine g_iinc K1 (x3 + 1) 3 dX3_noteLit_35 rfl rfl (by decide) rfl ?_
      refine g_goto K1 4 dX3_noteLit_38 rfl ?_
      exact g_perm [2, 3, 1, 0] rfl (h w g K)
theorem c0_X3_noteLit_81 {r : Option Value} {I I' : Nat → Nat → Int32} {L L' : Nat → Nat → Int64} {x1 : Int32} (h : v_X3_noteLit_81_0 r I' L' I L x1) : q_C kX3_noteLit [.ref 81, .int x1] I L r I' L' := fun w l => q_ct (by decide) (Nat.le_of_ble_eq_true rfl) (Nat.le_refl _) (fun g _ K => h w g K)
abbrev v_X3_otherwise_0 (r : Option Value) (I' : Nat → Nat → Int32) (L' : Nat → Nat → Int64) (I : Nat → Nat → Int32) (L : Nat → Nat → Int64) (x1 : Int32) (x2 : Int32) : Prop := q_W kX3_otherwise 0 [(0, .ref 75), (1, .int x1), (2, .int x2)] [] I L r I' L'
abbrev v_X3_otherwise_5 (r : Option Value) (I' : Nat → Nat → Int32) (L' : Nat → Nat → Int64) (I : Nat → Nat → Int32) (L : Nat → Nat → Int64) (x1 : Int32) (x2 : Int32) (x3 : Int32) (x4 : Int32) : Prop := q_W kX3_otherwise 5 [(0, .ref 75), (1, .int x1), (2, .int x2), (3, .int x3), (4, .int x4)] [] I L r I' L'
set_option maxRecDepth 20000 in
set_option maxHeartbeats 2000000 in
theorem vc_X3_otherwise_0 {r : Option Value} {I' : Nat → Nat → Int32} {L' : Nat → Nat → Int64} {I : Nat → Nat → Int32} {L : Nat → Nat → Int64} {x1 : Int32} {x2 : Int32} (h : (v_X3_otherwise_5 r I' L' I L x1 x2 0 0)) : v_X3_otherwise_0 r I' L' I L x1 x2 := by
  intro w g K
  have K1 := K.1
  refine g_iconst K1 0 dX3_otherwise_0 rfl ?_
  refine g_istore_n K1 dX3_otherwise_1 rfl (by decide) rfl ?_
  refine g_iconst K1 0 dX3_otherwise_2 rfl ?_
  refine g_istore K1 dX3_otherwise_3 (by decide) rfl ?_
  exact g_perm [2, 3, 4, 1, 0] rfl (h w g K)
set_option maxRecDepth 20000 in
set_option maxHeartbeats 2000000 in
theorem vc_X3_otherwise_5 {r : Option Value} {I' : Nat → Nat → Int32} {L' : Nat → Nat → Int64} {I : Nat → Nat → Int32} {L : Nat → Nat → Int64} {x1 : Int32} {x2 : Int32} {x3 : Int32} {x4 : Int32} (h : (((I 12 4) ≤ x4 → (r = some (.int x3) ∧ I' = I ∧ L' = L)) ∧ (¬ (I 12 4) ≤ x4 → (vp_in ((x1 * 7) + x4) 91 ∧ (vp_in ((x2 * 7) + x4) 91 ∧ (((I 77 (((x1 * 7) + x4) : Int32).toNatClampNeg) = (I 77 (((x2 * 7) + x4) : Int32).toNatClampNeg) → (v_X3_otherwise_5 r I' L' I L x1 x2 x3 (x4 + 1))) ∧ (¬ (I 77 (((x1 * 7) + x4) : Int32).toNatClampNeg) = (I 77 (((x2 * 7) + x4) : Int32).toNatClampNeg) → (v_X3_otherwise_5 r I' L' I L x1 x2 (x3 ||| ((1 : Int32) <<< (x4 &&& 31))) (x4 + 1))))))))) : v_X3_otherwise_5 r I' L' I L x1 x2 x3 x4 := by
  intro w g K
  have K1 := K.1
  refine g_iload K1 4 dX3_otherwise_5 rfl ?_
  refine g_aload_n K1 0 dX3_otherwise_7 rfl ?_
  refine h_getO K1 q_clX3 5 12 lyp_75 fkX3_5 rfl fl_X3_27 dX3_otherwise_8 ?_
  refine h_getI K1 q_clX5 4 lyp_12 fkX5_4 fl_X3_95 dX3_otherwise_11 ?_
  refine g_icmp_ge K1 57 dX3_otherwise_14 rfl (fun hc => ?_) (fun hc => ?_)
  · replace h := h.1 hc
    refine g_iload_n K1 3 dX3_otherwise_57 rfl ?_
    obtain ⟨hr, hI, hL⟩ := h
    subst hr hI hL
    exact g_ireturn K rfl dX3_otherwise_58
  · replace h := h.2 hc
    refine g_aload_n K1 0 dX3_otherwise_17 rfl ?_
    refine h_getO K1 q_clX3 1 77 lyp_75 fkX3_1 rfl fl_X3_15 dX3_otherwise_18 ?_
    refine g_iload_n K1 1 dX3_otherwise_21 rfl ?_
    refine g_bipush K1 7 dX3_otherwise_22 rfl ?_
    refine g_imul K1 dX3_otherwise_24 ?_
    refine g_iload K1 4 dX3_otherwise_25 rfl ?_
    refine g_iadd K1 dX3_otherwise_27 ?_
    obtain ⟨hg, h⟩ := h
    refine h_iaload K1 lyp_77 hg dX3_otherwise_28 ?_
    refine g_aload_n K1 0 dX3_otherwise_29 rfl ?_
    refine h_getO K1 q_clX3 1 77 lyp_75 fkX3_1 rfl fl_X3_15 dX3_otherwise_30 ?_
    refine g_iload_n K1 2 dX3_otherwise_33 rfl ?_
    refine g_bipush K1 7 dX3_otherwise_34 rfl ?_
    refine g_imul K1 dX3_otherwise_36 ?_
    refine g_iload K1 4 dX3_otherwise_37 rfl ?_
    refine g_iadd K1 dX3_otherwise_39 ?_
    obtain ⟨hg, h⟩ := h
    refine h_iaload K1 lyp_77 hg dX3_otherwise_40 ?_
    refine g_icmp_eq K1 51 dX3_otherwise_41 rfl (fun hc => ?_) (fun hc => ?_)
    · replace h := h.1 hc
      refine g_iinc K1 (x4 + 1) 4 dX3_otherwise_51 rfl rfl (by decide) rfl ?_
      refine g_goto K1 5 dX3_otherwise_54 rfl ?_
      exact g_perm [1, 2, 3, 4, 0] rfl (h w g K)
    · replace h := h.2 hc
      refine g_iload_n K1 3 dX3_otherwise_44 rfl ?_
      refine g_iconst K1 1 dX3_otherwise_45 rfl ?_
      refine g_iload K1 4 dX3_otherwise_46 rfl ?_
      refine g_ishl K1 dX3_otherwise_48 ?_
      refine g_ior K1 dX3_otherwise_49 ?_
      refine g_istore_n K1 dX3_otherwise_50 rfl (by decide) rfl ?_
      refine g_iinc K1 (x4 + 1) 4 dX3_otherwise_51 rfl rfl (by decide) rfl ?_
      refine g_goto K1 5 dX3_otherwise_54 rfl ?_
      exact g_perm [2, 3, 4, 1, 0] rfl (h w g K)
theorem c0_X3_otherwise {r : Option Value} {I I' : Nat → Nat → Int32} {L L' : Nat → Nat → Int64} {x1 : Int32} {x2 : Int32} (h : v_X3_otherwise_0 r I' L' I L x1 x2) : q_C kX3_otherwise [.ref 75, .int x1, .int x2] I L r I' L' := fun w l => q_ct (by decide) (Nat.le_of_ble_eq_true rfl) (Nat.le_refl _) (fun g _ K => h w g K)
abbrev v_X3_putOut_75_0 (r : Option Value) (I' : Nat → Nat → Int32) (L' : Nat → Nat → Int64) (I : Nat → Nat → Int32) (L : Nat → Nat → Int64) (x1 : Int32) : Prop := q_W kX3_putOut 0 [(0, .ref 75), (1, .int x1)] [] I L r I' L'
abbrev v_X3_putOut_75_2 (r : Option Value) (I' : Nat → Nat → Int32) (L' : Nat → Nat → Int64) (I : Nat → Nat → Int32) (L : Nat → Nat → Int64) (x1 : Int32) (x2 : Int32) : Prop := q_W kX3_putOut 2 [(0, .ref 75), (1, .int x1), (2, .int x2)] [] I L r I' L'
abbrev v_X3_putOut_75_60 (r : Option Value) (I' : Nat → Nat → Int32) (L' : Nat → Nat → Int64) (I : Nat → Nat → Int32) (L : Nat → Nat → Int64) (x1 : Int32) (x2 : Int32) : Prop := q_W kX3_putOut 60 [(0, .ref 75), (1, .int x1), (2, .int x2)] [] I L r I' L'
set_option maxRecDepth 20000 in
set_option maxHeartbeats 2000000 in
theorem vc_X3_putOut_75_0 {r : Option Value} {I' : Nat → Nat → Int32} {L' : Nat → Nat → Int64} {I : Nat → Nat → Int32} {L : Nat → Nat → Int64} {x1 : Int32} (h : (v_X3_putOut_75_2 r I' L' I L x1 0)) : v_X3_putOut_75_0 r I' L' I L x1 := by
  intro w g K
  have K1 := K.1
  refine g_iconst K1 0 dX3_putOut_0 rfl ?_
  refine g_istore_n K1 dX3_putOut_1 rfl (by decide) rfl ?_
  exact g_perm [1, 2, 0] rfl (h w g K)
set_option maxRecDepth 20000 in
set_option maxHeartbeats 2000000 in
theorem vc_X3_putOut_75_2 {r : Option Value} {I' : Nat → Nat → Int32} {L' : Nat → Nat → Int64} {I : Nat → Nat → Int32} {L : Nat → Nat → Int64} {x1 : Int32} {x2 : Int32} (h : (((I 12 7) ≤ x2 → (v_X3_putOut_75_60 r I' L' I L x1 0)) ∧ (¬ (I 12 7) ≤ x2 → (vp_in x2 6 ∧ (((I 20 x2.toNatClampNeg) = x1 → ((x2 = (I 75 13) → (v_X3_putOut_75_2 r I' L' I L x1 (x2 + 1))) ∧ (¬ x2 = (I 75 13) → (vp_in x2 6 ∧ (∃ I1, q_C kX3_quench [.ref 75, .int ((x1 * 7) + (I 19 x2.toNatClampNeg))] I L none I1 L ∧ (v_X3_putOut_75_2 r I' L' I1 L x1 (x2 + 1))))))) ∧ (¬ (I 20 x2.toNatClampNeg) = x1 → (v_X3_putOut_75_2 r I' L' I L x1 (x2 + 1)))))))) : v_X3_putOut_75_2 r I' L' I L x1 x2 := by
  intro w g K
  have K1 := K.1
  refine g_iload_n K1 2 dX3_putOut_2 rfl ?_
  refine g_aload_n K1 0 dX3_putOut_3 rfl ?_
  refine h_getO K1 q_clX3 5 12 lyp_75 fkX3_5 rfl fl_X3_27 dX3_putOut_4 ?_
  refine h_getI K1 q_clX5 7 lyp_12 fkX5_7 fl_X3_149 dX3_putOut_7 ?_
  refine g_icmp_ge K1 58 dX3_putOut_10 rfl (fun hc => ?_) (fun hc => ?_)
  · replace h := h.1 hc
    refine g_iconst K1 0 dX3_putOut_58 rfl ?_
    refine g_istore_n K1 dX3_putOut_59 rfl (by decide) rfl ?_
    exact g_perm [1, 2, 0] rfl (h w g K)
  · replace h := h.2 hc
    refine g_aload_n K1 0 dX3_putOut_13 rfl ?_
    refine h_getO K1 q_clX3 5 12 lyp_75 fkX3_5 rfl fl_X3_27 dX3_putOut_14 ?_
    refine h_getO K1 q_clX5 15 20 lyp_12 fkX5_15 rfl fl_X3_152 dX3_putOut_17 ?_
    refine g_iload_n K1 2 dX3_putOut_20 rfl ?_
    obtain ⟨hg, h⟩ := h
    refine h_iaload K1 lyp_20 hg dX3_putOut_21 ?_
    refine g_iload_n K1 1 dX3_putOut_22 rfl ?_
    refine g_icmp_ne K1 52 dX3_putOut_23 rfl (fun hc => ?_) (fun hc => ?_)
    · replace h := h.2 hc
      refine g_iinc K1 (x2 + 1) 2 dX3_putOut_52 rfl rfl (by decide) rfl ?_
      refine g_goto K1 2 dX3_putOut_55 rfl ?_
      exact g_perm [1, 2, 0] rfl (h w g K)
    · replace h := h.1 hc
      refine g_iload_n K1 2 dX3_putOut_26 rfl ?_
      refine g_aload_n K1 0 dX3_putOut_27 rfl ?_
      refine h_getI K1 q_clX3 13 lyp_75 fkX3_13 fl_X3_57 dX3_putOut_28 ?_
      refine g_icmp_eq K1 52 dX3_putOut_31 rfl (fun hc => ?_) (fun hc => ?_)
      · replace h := h.1 hc
        refine g_iinc K1 (x2 + 1) 2 dX3_putOut_52 rfl rfl (by decide) rfl ?_
        refine g_goto K1 2 dX3_putOut_55 rfl ?_
        exact g_perm [1, 2, 0] rfl (h w g K)
      · replace h := h.2 hc
        refine g_aload_n K1 0 dX3_putOut_34 rfl ?_
        refine g_iload_n K1 1 dX3_putOut_35 rfl ?_
        refine g_bipush K1 7 dX3_putOut_36 rfl ?_
        refine g_imul K1 dX3_putOut_38 ?_
        refine g_aload_n K1 0 dX3_putOut_39 rfl ?_
        refine h_getO K1 q_clX3 5 12 lyp_75 fkX3_5 rfl fl_X3_27 dX3_putOut_40 ?_
        refine h_getO K1 q_clX5 14 19 lyp_12 fkX5_14 rfl fl_X3_155 dX3_putOut_43 ?_
        refine g_iload_n K1 2 dX3_putOut_46 rfl ?_
        obtain ⟨hg, h⟩ := h
        refine h_iaload K1 lyp_19 hg dX3_putOut_47 ?_
        refine g_iadd K1 dX3_putOut_48 ?_
        obtain ⟨I1, hct, h⟩ := h
        refine h_callV K1 (st := []) [.int ((x1 * 7) + (I 19 x2.toNatClampNeg))] (hct w (gl g)) q_clX3 lyp_75 rfl ok_X3_quench ml_X3_98 ⟨Nat.le_of_ble_eq_true rfl, Nat.le_of_ble_eq_true rfl⟩ (Nat.le_of_ble_eq_true rfl) dX3_putOut_49 ?_
        show q_Gs w g 52 [(0, .ref 75), (1, .int x1), (2, .int x2)] [] (q_mm I1 L)
        refine g_iinc K1 (x2 + 1) 2 dX3_putOut_52 rfl rfl (by decide) rfl ?_
        refine g_goto K1 2 dX3_putOut_55 rfl ?_
        exact g_perm [1, 2, 0] rfl (h w g K)
set_option maxRecDepth 20000 in
set_option maxHeartbeats 2000000 in
theorem vc_X3_putOut_75_60 {r : Option Value} {I' : Nat → Nat → Int32} {L' : Nat → Nat → Int64} {I : Nat → Nat → Int32} {L : Nat → Nat → Int64} {x1 : Int32} {x2 : Int32} (h : (((I 21 0) ≤ x2 → (((I 75 12) = x1 → (((I 75 11) = (-1) → (r = none ∧ I' = I ∧ L' = L)) ∧ (¬ (I 75 11) = (-1) → (∃ I1, q_C kX3_quench [.ref 75, .int ((x1 * 7) + (I 75 11))] I L none I1 L ∧ (r = none ∧ I' = I1 ∧ L' = L))))) ∧ (¬ (I 75 12) = x1 → (r = none ∧ I' = I ∧ L' = L)))) ∧ (¬ (I 21 0) ≤ x2 → (vp_in x2 30 ∧ (((I 24 x2.toNatClampNeg) = x1 → (vp_in x2 30 ∧ (((I 23 x2.toNatClampNeg) = 0 → (vp_in x2 30 ∧ (∃ I2, q_C kX3_quench [.ref 75, .int ((x1 * 7) + (I 22 x2.toNatClampNeg))] I L none I2 L ∧ (v_X3_putOut_75_60 r I' L' I2 L x1 (x2 + 1))))) ∧ (¬ (I 23 x2.toNatClampNeg) = 0 → (v_X3_putOut_75_60 r I' L' I L x1 (x2 + 1)))))) ∧ (¬ (I 24 x2.toNatClampNeg) = x1 → (v_X3_putOut_75_60 r I' L' I L x1 (x2 + 1)))))))) : v_X3_putOut_75_60 r I' L' I L x1 x2 := by
  intro w g K
  have K1 := K.1
  refine g_iload_n K1 2 dX3_putOut_60 rfl ?_
  refine g_aload_n K1 0 dX3_putOut_61 rfl ?_
  refine h_getO K1 q_clX3 6 21 lyp_75 fkX3_6 rfl fl_X3_31 dX3_putOut_62 ?_
  refine h_getI K1 q_clX0 0 lyp_21 fkX0_0 fl_X3_135 dX3_putOut_65 ?_
  refine g_icmp_ge K1 120 dX3_putOut_68 rfl (fun hc => ?_) (fun hc => ?_)
  · replace h := h.1 hc
    refine g_aload_n K1 0 dX3_putOut_120 rfl ?_
    refine h_getI K1 q_clX3 12 lyp_75 fkX3_12 fl_X3_54 dX3_putOut_121 ?_
    refine g_iload_n K1 1 dX3_putOut_124 rfl ?_
    refine g_icmp_ne K1 149 dX3_putOut_125 rfl (fun hc => ?_) (fun hc => ?_)
    · replace h := h.2 hc
      obtain ⟨hr, hI, hL⟩ := h
      subst hr hI hL
      exact g_vreturn K rfl dX3_putOut_149
    · replace h := h.1 hc
      refine g_aload_n K1 0 dX3_putOut_128 rfl ?_
      refine h_getI K1 q_clX3 11 lyp_75 fkX3_11 fl_X3_51 dX3_putOut_129 ?_
      refine g_iconst K1 (-1) dX3_putOut_132 rfl ?_
      refine g_icmp_eq K1 149 dX3_putOut_133 rfl (fun hc => ?_) (fun hc => ?_)
      · replace h := h.1 hc
        obtain ⟨hr, hI, hL⟩ := h
        subst hr hI hL
        exact g_vreturn K rfl dX3_putOut_149
      · replace h := h.2 hc
        refine g_aload_n K1 0 dX3_putOut_136 rfl ?_
        refine g_iload_n K1 1 dX3_putOut_137 rfl ?_
        refine g_bipush K1 7 dX3_putOut_138 rfl ?_
        refine g_imul K1 dX3_putOut_140 ?_
        refine g_aload_n K1 0 dX3_putOut_141 rfl ?_
        refine h_getI K1 q_clX3 11 lyp_75 fkX3_11 fl_X3_51 dX3_putOut_142 ?_
        refine g_iadd K1 dX3_putOut_145 ?_
        obtain ⟨I1, hct, h⟩ := h
        refine h_callV K1 (st := []) [.int ((x1 * 7) + (I 75 11))] (hct w (gl g)) q_clX3 lyp_75 rfl ok_X3_quench ml_X3_98 ⟨Nat.le_of_ble_eq_true rfl, Nat.le_of_ble_eq_true rfl⟩ (Nat.le_of_ble_eq_true rfl) dX3_putOut_146 ?_
        show q_Gs w g 149 [(0, .ref 75), (1, .int x1), (2, .int x2)] [] (q_mm I1 L)
        obtain ⟨hr, hI, hL⟩ := h
        subst hr hI hL
        exact g_vreturn K rfl dX3_putOut_149
  · replace h := h.2 hc
    refine g_aload_n K1 0 dX3_putOut_71 rfl ?_
    refine h_getO K1 q_clX3 6 21 lyp_75 fkX3_6 rfl fl_X3_31 dX3_putOut_72 ?_
    refine h_getO K1 q_clX0 3 24 lyp_21 fkX0_3 rfl fl_X3_140 dX3_putOut_75 ?_
    refine g_iload_n K1 2 dX3_putOut_78 rfl ?_
    obtain ⟨hg, h⟩ := h
    refine h_iaload K1 lyp_24 hg dX3_putOut_79 ?_
    refine g_iload_n K1 1 dX3_putOut_80 rfl ?_
    refine g_icmp_ne K1 114 dX3_putOut_81 rfl (fun hc => ?_) (fun hc => ?_)
    · replace h := h.2 hc
      refine g_iinc K1 (x2 + 1) 2 dX3_putOut_114 rfl rfl (by decide) rfl ?_
      refine g_goto K1 60 dX3_putOut_117 rfl ?_
      exact g_perm [1, 2, 0] rfl (h w g K)
    · replace h := h.1 hc
      refine g_aload_n K1 0 dX3_putOut_84 rfl ?_
      refine h_getO K1 q_clX3 6 21 lyp_75 fkX3_6 rfl fl_X3_31 dX3_putOut_85 ?_
      refine h_getO K1 q_clX0 2 23 lyp_21 fkX0_2 rfl fl_X3_143 dX3_putOut_88 ?_
      refine g_iload_n K1 2 dX3_putOut_91 rfl ?_
      obtain ⟨hg, h⟩ := h
      refine h_iaload K1 lyp_23 hg dX3_putOut_92 ?_
      refine g_if_ne K1 114 dX3_putOut_93 rfl (fun hc => ?_) (fun hc => ?_)
      · replace h := h.2 hc
        refine g_iinc K1 (x2 + 1) 2 dX3_putOut_114 rfl rfl (by decide) rfl ?_
        refine g_goto K1 60 dX3_putOut_117 rfl ?_
        exact g_perm [1, 2, 0] rfl (h w g K)
      · replace h := h.1 hc
        refine g_aload_n K1 0 dX3_putOut_96 rfl ?_
        refine g_iload_n K1 1 dX3_putOut_97 rfl ?_
        refine g_bipush K1 7 dX3_putOut_98 rfl ?_
        refine g_imul K1 dX3_putOut_100 ?_
        refine g_aload_n K1 0 dX3_putOut_101 rfl ?_
        refine h_getO K1 q_clX3 6 21 lyp_75 fkX3_6 rfl fl_X3_31 dX3_putOut_102 ?_
        refine h_getO K1 q_clX0 1 22 lyp_21 fkX0_1 rfl fl_X3_146 dX3_putOut_105 ?_
        refine g_iload_n K1 2 dX3_putOut_108 rfl ?_
        obtain ⟨hg, h⟩ := h
        refine h_iaload K1 lyp_22 hg dX3_putOut_109 ?_
        refine g_iadd K1 dX3_putOut_110 ?_
        obtain ⟨I2, hct, h⟩ := h
        refine h_callV K1 (st := []) [.int ((x1 * 7) + (I 22 x2.toNatClampNeg))] (hct w (gl g)) q_clX3 lyp_75 rfl ok_X3_quench ml_X3_98 ⟨Nat.le_of_ble_eq_true rfl, Nat.le_of_ble_eq_true rfl⟩ (Nat.le_of_ble_eq_true rfl) dX3_putOut_111 ?_
        show q_Gs w g 114 [(0, .ref 75), (1, .int x1), (2, .int x2)] [] (q_mm I2 L)
        refine g_iinc K1 (x2 + 1) 2 dX3_putOut_114 rfl rfl (by decide) rfl ?_
        refine g_goto K1 60 dX3_putOut_117 rfl ?_
        exact g_perm [1, 2, 0] rfl (h w g K)
theorem c0_X3_putOut_75 {r : Option Value} {I I' : Nat → Nat → Int32} {L L' : Nat → Nat → Int64} {x1 : Int32} (h : v_X3_putOut_75_0 r I' L' I L x1) : q_C kX3_putOut [.ref 75, .int x1] I L r I' L' := fun w l => q_ct (by decide) (Nat.le_of_ble_eq_true rfl) (Nat.le_refl _) (fun g _ K => h w g K)
abbrev v_X3_putOut_81_0 (r : Option Value) (I' : Nat → Nat → Int32) (L' : Nat → Nat → Int64) (I : Nat → Nat → Int32) (L : Nat → Nat → Int64) (x1 : Int32) : Prop := q_W kX3_putOut 0 [(0, .ref 81), (1, .int x1)] [] I L r I' L'
abbrev v_X3_putOut_81_2 (r : Option Value) (I' : Nat → Nat → Int32) (L' : Nat → Nat → Int64) (I : Nat → Nat → Int32) (L : Nat → Nat → Int64) (x1 : Int32) (x2 : Int32) : Prop := q_W kX3_putOut 2 [(0, .ref 81), (1, .int x1), (2, .int x2)] [] I L r I' L'
abbrev v_X3_putOut_81_60 (r : Option Value) (I' : Nat → Nat → Int32) (L' : Nat → Nat → Int64) (I : Nat → Nat → Int32) (L : Nat → Nat → Int64) (x1 : Int32) (x2 : Int32) : Prop := q_W kX3_putOut 60 [(0, .ref 81), (1, .int x1), (2, .int x2)] [] I L r I' L'
set_option maxRecDepth 20000 in
set_option maxHeartbeats 2000000 in
theorem vc_X3_putOut_81_0 {r : Option Value} {I' : Nat → Nat → Int32} {L' : Nat → Nat → Int64} {I : Nat → Nat → Int32} {L : Nat → Nat → Int64} {x1 : Int32} (h : (v_X3_putOut_81_2 r I' L' I L x1 0)) : v_X3_putOut_81_0 r I' L' I L x1 := by
  intro w g K
  have K1 := K.1
  refine g_iconst K1 0 dX3_putOut_0 rfl ?_
  refine g_istore_n K1 dX3_putOut_1 rfl (by decide) rfl ?_
  exact g_perm [1, 2, 0] rfl (h w g K)
set_option maxRecDepth 20000 in
set_option maxHeartbeats 2000000 in
theorem vc_X3_putOut_81_2 {r : Option Value} {I' : Nat → Nat → Int32} {L' : Nat → Nat → Int64} {I : Nat → Nat → Int32} {L : Nat → Nat → Int64} {x1 : Int32} {x2 : Int32} (h : (((I 12 7) ≤ x2 → (v_X3_putOut_81_60 r I' L' I L x1 0)) ∧ (¬ (I 12 7) ≤ x2 → (vp_in x2 6 ∧ (((I 20 x2.toNatClampNeg) = x1 → ((x2 = (I 81 13) → (v_X3_putOut_81_2 r I' L' I L x1 (x2 + 1))) ∧ (¬ x2 = (I 81 13) → (vp_in x2 6 ∧ (∃ I1, q_C kX3_quench [.ref 81, .int ((x1 * 7) + (I 19 x2.toNatClampNeg))] I L none I1 L ∧ (v_X3_putOut_81_2 r I' L' I1 L x1 (x2 + 1))))))) ∧ (¬ (I 20 x2.toNatClampNeg) = x1 → (v_X3_putOut_81_2 r I' L' I L x1 (x2 + 1)))))))) : v_X3_putOut_81_2 r I' L' I L x1 x2 := by
  intro w g K
  have K1 := K.1
  refine g_iload_n K1 2 dX3_putOut_2 rfl ?_
  refine g_aload_n K1 0 dX3_putOut_3 rfl ?_
  refine h_getO K1 q_clX3 5 12 lyp_81 fkX3_5 rfl fl_X3_27 dX3_putOut_4 ?_
  refine h_getI K1 q_clX5 7 lyp_12 fkX5_7 fl_X3_149 dX3_putOut_7 ?_
  refine g_icmp_ge K1 58 dX3_putOut_10 rfl (fun hc => ?_) (fun hc => ?_)
  · replace h := h.1 hc
    refine g_iconst K1 0 dX3_putOut_58 rfl ?_
    refine g_istore_n K1 dX3_putOut_59 rfl (by decide) rfl ?_
    exact g_perm [1, 2, 0] rfl (h w g K)
  · replace h := h.2 hc
    refine g_aload_n K1 0 dX3_putOut_13 rfl ?_
    refine h_getO K1 q_clX3 5 12 lyp_81 fkX3_5 rfl fl_X3_27 dX3_putOut_14 ?_
    refine h_getO K1 q_clX5 15 20 lyp_12 fkX5_15 rfl fl_X3_152 dX3_putOut_17 ?_
    refine g_iload_n K1 2 dX3_putOut_20 rfl ?_
    obtain ⟨hg, h⟩ := h
    refine h_iaload K1 lyp_20 hg dX3_putOut_21 ?_
    refine g_iload_n K1 1 dX3_putOut_22 rfl ?_
    refine g_icmp_ne K1 52 dX3_putOut_23 rfl (fun hc => ?_) (fun hc => ?_)
    · replace h := h.2 hc
      refine g_iinc K1 (x2 + 1) 2 dX3_putOut_52 rfl rfl (by decide) rfl ?_
      refine g_goto K1 2 dX3_putOut_55 rfl ?_
      exact g_perm [1, 2, 0] rfl (h w g K)
    · replace h := h.1 hc
      refine g_iload_n K1 2 dX3_putOut_26 rfl ?_
      refine g_aload_n K1 0 dX3_putOut_27 rfl ?_
      refine h_getI K1 q_clX3 13 lyp_81 fkX3_13 fl_X3_57 dX3_putOut_28 ?_
      refine g_icmp_eq K1 52 dX3_putOut_31 rfl (fun hc => ?_) (fun hc => ?_)
      · replace h := h.1 hc
        refine g_iinc K1 (x2 + 1) 2 dX3_putOut_52 rfl rfl (by decide) rfl ?_
        refine g_goto K1 2 dX3_putOut_55 rfl ?_
        exact g_perm [1, 2, 0] rfl (h w g K)
      · replace h := h.2 hc
        refine g_aload_n K1 0 dX3_putOut_34 rfl ?_
        refine g_iload_n K1 1 dX3_putOut_35 rfl ?_
        refine g_bipush K1 7 dX3_putOut_36 rfl ?_
        refine g_imul K1 dX3_putOut_38 ?_
        refine g_aload_n K1 0 dX3_putOut_39 rfl ?_
        refine h_getO K1 q_clX3 5 12 lyp_81 fkX3_5 rfl fl_X3_27 dX3_putOut_40 ?_
        refine h_getO K1 q_clX5 14 19 lyp_12 fkX5_14 rfl fl_X3_155 dX3_putOut_43 ?_
        refine g_iload_n K1 2 dX3_putOut_46 rfl ?_
        obtain ⟨hg, h⟩ := h
        refine h_iaload K1 lyp_19 hg dX3_putOut_47 ?_
        refine g_iadd K1 dX3_putOut_48 ?_
        obtain ⟨I1, hct, h⟩ := h
        refine h_callV K1 (st := []) [.int ((x1 * 7) + (I 19 x2.toNatClampNeg))] (hct w (gl g)) q_clX3 lyp_81 rfl ok_X3_quench ml_X3_98 ⟨Nat.le_of_ble_eq_true rfl, Nat.le_of_ble_eq_true rfl⟩ (Nat.le_of_ble_eq_true rfl) dX3_putOut_49 ?_
        show q_Gs w g 52 [(0, .ref 81), (1, .int x1), (2, .int x2)] [] (q_mm I1 L)
        refine g_iinc K1 (x2 + 1) 2 dX3_putOut_52 rfl rfl (by decide) rfl ?_
        refine g_goto K1 2 dX3_putOut_55 rfl ?_
        exact g_perm [1, 2, 0] rfl (h w g K)
set_option maxRecDepth 20000 in
set_option maxHeartbeats 2000000 in
theorem vc_X3_putOut_81_60 {r : Option Value} {I' : Nat → Nat → Int32} {L' : Nat → Nat → Int64} {I : Nat → Nat → Int32} {L : Nat → Nat → Int64} {x1 : Int32} {x2 : Int32} (h : (((I 21 0) ≤ x2 → (((I 81 12) = x1 → (((I 81 11) = (-1) → (r = none ∧ I' = I ∧ L' = L)) ∧ (¬ (I 81 11) = (-1) → (∃ I1, q_C kX3_quench [.ref 81, .int ((x1 * 7) + (I 81 11))] I L none I1 L ∧ (r = none ∧ I' = I1 ∧ L' = L))))) ∧ (¬ (I 81 12) = x1 → (r = none ∧ I' = I ∧ L' = L)))) ∧ (¬ (I 21 0) ≤ x2 → (vp_in x2 30 ∧ (((I 24 x2.toNatClampNeg) = x1 → (vp_in x2 30 ∧ (((I 23 x2.toNatClampNeg) = 0 → (vp_in x2 30 ∧ (∃ I2, q_C kX3_quench [.ref 81, .int ((x1 * 7) + (I 22 x2.toNatClampNeg))] I L none I2 L ∧ (v_X3_putOut_81_60 r I' L' I2 L x1 (x2 + 1))))) ∧ (¬ (I 23 x2.toNatClampNeg) = 0 → (v_X3_putOut_81_60 r I' L' I L x1 (x2 + 1)))))) ∧ (¬ (I 24 x2.toNatClampNeg) = x1 → (v_X3_putOut_81_60 r I' L' I L x1 (x2 + 1)))))))) : v_X3_putOut_81_60 r I' L' I L x1 x2 := by
  intro w g K
  have K1 := K.1
  refine g_iload_n K1 2 dX3_putOut_60 rfl ?_
  refine g_aload_n K1 0 dX3_putOut_61 rfl ?_
  refine h_getO K1 q_clX3 6 21 lyp_81 fkX3_6 rfl fl_X3_31 dX3_putOut_62 ?_
  refine h_getI K1 q_clX0 0 lyp_21 fkX0_0 fl_X3_135 dX3_putOut_65 ?_
  refine g_icmp_ge K1 120 dX3_putOut_68 rfl (fun hc => ?_) (fun hc => ?_)
  · replace h := h.1 hc
    refine g_aload_n K1 0 dX3_putOut_120 rfl ?_
    refine h_getI K1 q_clX3 12 lyp_81 fkX3_12 fl_X3_54 dX3_putOut_121 ?_
    refine g_iload_n K1 1 dX3_putOut_124 rfl ?_
    refine g_icmp_ne K1 149 dX3_putOut_125 rfl (fun hc => ?_) (fun hc => ?_)
    · replace h := h.2 hc
      obtain ⟨hr, hI, hL⟩ := h
      subst hr hI hL
      exact g_vreturn K rfl dX3_putOut_149
    · replace h := h.1 hc
      refine g_aload_n K1 0 dX3_putOut_128 rfl ?_
      refine h_getI K1 q_clX3 11 lyp_81 fkX3_11 fl_X3_51 dX3_putOut_129 ?_
      refine g_iconst K1 (-1) dX3_putOut_132 rfl ?_
      refine g_icmp_eq K1 149 dX3_putOut_133 rfl (fun hc => ?_) (fun hc => ?_)
      · replace h := h.1 hc
        obtain ⟨hr, hI, hL⟩ := h
        subst hr hI hL
        exact g_vreturn K rfl dX3_putOut_149
      · replace h := h.2 hc
        refine g_aload_n K1 0 dX3_putOut_136 rfl ?_
        refine g_iload_n K1 1 dX3_putOut_137 rfl ?_
        refine g_bipush K1 7 dX3_putOut_138 rfl ?_
        refine g_imul K1 dX3_putOut_140 ?_
        refine g_aload_n K1 0 dX3_putOut_141 rfl ?_
        refine h_getI K1 q_clX3 11 lyp_81 fkX3_11 fl_X3_51 dX3_putOut_142 ?_
        refine g_iadd K1 dX3_putOut_145 ?_
        obtain ⟨I1, hct, h⟩ := h
        refine h_callV K1 (st := []) [.int ((x1 * 7) + (I 81 11))] (hct w (gl g)) q_clX3 lyp_81 rfl ok_X3_quench ml_X3_98 ⟨Nat.le_of_ble_eq_true rfl, Nat.le_of_ble_eq_true rfl⟩ (Nat.le_of_ble_eq_true rfl) dX3_putOut_146 ?_
        show q_Gs w g 149 [(0, .ref 81), (1, .int x1), (2, .int x2)] [] (q_mm I1 L)
        obtain ⟨hr, hI, hL⟩ := h
        subst hr hI hL
        exact g_vreturn K rfl dX3_putOut_149
  · replace h := h.2 hc
    refine g_aload_n K1 0 dX3_putOut_71 rfl ?_
    refine h_getO K1 q_clX3 6 21 lyp_81 fkX3_6 rfl fl_X3_31 dX3_putOut_72 ?_
    refine h_getO K1 q_clX0 3 24 lyp_21 fkX0_3 rfl fl_X3_140 dX3_putOut_75 ?_
    refine g_iload_n K1 2 dX3_putOut_78 rfl ?_
    obtain ⟨hg, h⟩ := h
    refine h_iaload K1 lyp_24 hg dX3_putOut_79 ?_
    refine g_iload_n K1 1 dX3_putOut_80 rfl ?_
    refine g_icmp_ne K1 114 dX3_putOut_81 rfl (fun hc => ?_) (fun hc => ?_)
    · replace h := h.2 hc
      refine g_iinc K1 (x2 + 1) 2 dX3_putOut_114 rfl rfl (by decide) rfl ?_
      refine g_goto K1 60 dX3_putOut_117 rfl ?_
      exact g_perm [1, 2, 0] rfl (h w g K)
    · replace h := h.1 hc
      refine g_aload_n K1 0 dX3_putOut_84 rfl ?_
      refine h_getO K1 q_clX3 6 21 lyp_81 fkX3_6 rfl fl_X3_31 dX3_putOut_85 ?_
      refine h_getO K1 q_clX0 2 23 lyp_21 fkX0_2 rfl fl_X3_143 dX3_putOut_88 ?_
      refine g_iload_n K1 2 dX3_putOut_91 rfl ?_
      obtain ⟨hg, h⟩ := h
      refine h_iaload K1 lyp_23 hg dX3_putOut_92 ?_
      refine g_if_ne K1 114 dX3_putOut_93 rfl (fun hc => ?_) (fun hc => ?_)
      · replace h := h.2 hc
        refine g_iinc K1 (x2 + 1) 2 dX3_putOut_114 rfl rfl (by decide) rfl ?_
        refine g_goto K1 60 dX3_putOut_117 rfl ?_
        exact g_perm [1, 2, 0] rfl (h w g K)
      · replace h := h.1 hc
        refine g_aload_n K1 0 dX3_putOut_96 rfl ?_
        refine g_iload_n K1 1 dX3_putOut_97 rfl ?_
        refine g_bipush K1 7 dX3_putOut_98 rfl ?_
        refine g_imul K1 dX3_putOut_100 ?_
        refine g_aload_n K1 0 dX3_putOut_101 rfl ?_
        refine h_getO K1 q_clX3 6 21 lyp_81 fkX3_6 rfl fl_X3_31 dX3_putOut_102 ?_
        refine h_getO K1 q_clX0 1 22 lyp_21 fkX0_1 rfl fl_X3_146 dX3_putOut_105 ?_
        refine g_iload_n K1 2 dX3_putOut_108 rfl ?_
        obtain ⟨hg, h⟩ := h
        refine h_iaload K1 lyp_22 hg dX3_putOut_109 ?_
        refine g_iadd K1 dX3_putOut_110 ?_
        obtain ⟨I2, hct, h⟩ := h
        refine h_callV K1 (st := []) [.int ((x1 * 7) + (I 22 x2.toNatClampNeg))] (hct w (gl g)) q_clX3 lyp_81 rfl ok_X3_quench ml_X3_98 ⟨Nat.le_of_ble_eq_true rfl, Nat.le_of_ble_eq_true rfl⟩ (Nat.le_of_ble_eq_true rfl) dX3_putOut_111 ?_
        show q_Gs w g 114 [(0, .ref 81), (1, .int x1), (2, .int x2)] [] (q_mm I2 L)
        refine g_iinc K1 (x2 + 1) 2 dX3_putOut_114 rfl rfl (by decide) rfl ?_
        refine g_goto K1 60 dX3_putOut_117 rfl ?_
        exact g_perm [1, 2, 0] rfl (h w g K)
theorem c0_X3_putOut_81 {r : Option Value} {I I' : Nat → Nat → Int32} {L L' : Nat → Nat → Int64} {x1 : Int32} (h : v_X3_putOut_81_0 r I' L' I L x1) : q_C kX3_putOut [.ref 81, .int x1] I L r I' L' := fun w l => q_ct (by decide) (Nat.le_of_ble_eq_true rfl) (Nat.le_refl _) (fun g _ K => h w g K)
abbrev v_X3_quench_75_0 (r : Option Value) (I' : Nat → Nat → Int32) (L' : Nat → Nat → Int64) (I : Nat → Nat → Int32) (L : Nat → Nat → Int64) (x1 : Int32) : Prop := q_W kX3_quench 0 [(0, .ref 75), (1, .int x1)] [] I L r I' L'
set_option maxRecDepth 20000 in
set_option maxHeartbeats 2000000 in
theorem vc_X3_quench_75_0 {r : Option Value} {I' : Nat → Nat → Int32} {L' : Nat → Nat → Int64} {I : Nat → Nat → Int32} {L : Nat → Nat → Int64} {x1 : Int32} (h : (vp_in x1 91 ∧ (vp_in x1 91 ∧ (vp_in x1 91 ∧ ∀ I1, I1 = (up2 (up2 (up2 I 77 x1.toNatClampNeg 0) 78 x1.toNatClampNeg (-1)) 79 x1.toNatClampNeg (-1)) → (vp_in x1 91 ∧ (r = none ∧ I' = (up2 I1 80 x1.toNatClampNeg (-1)) ∧ L' = L)))))) : v_X3_quench_75_0 r I' L' I L x1 := by
  intro w g K
  have K1 := K.1
  refine g_aload_n K1 0 dX3_quench_0 rfl ?_
  refine h_getO K1 q_clX3 1 77 lyp_75 fkX3_1 rfl fl_X3_15 dX3_quench_1 ?_
  refine g_iload_n K1 1 dX3_quench_4 rfl ?_
  refine g_iconst K1 0 dX3_quench_5 rfl ?_
  obtain ⟨hg, h⟩ := h
  refine h_iastore K1 lyp_77 hg dX3_quench_6 ?_
  refine g_aload_n K1 0 dX3_quench_7 rfl ?_
  refine h_getO K1 q_clX3 2 78 lyp_75 fkX3_2 rfl fl_X3_18 dX3_quench_8 ?_
  refine g_iload_n K1 1 dX3_quench_11 rfl ?_
  refine g_iconst K1 (-1) dX3_quench_12 rfl ?_
  obtain ⟨hg, h⟩ := h
  refine h_iastore K1 lyp_78 hg dX3_quench_13 ?_
  refine g_aload_n K1 0 dX3_quench_14 rfl ?_
  refine h_getO K1 q_clX3 3 79 lyp_75 fkX3_3 rfl fl_X3_21 dX3_quench_15 ?_
  refine g_iload_n K1 1 dX3_quench_18 rfl ?_
  refine g_iconst K1 (-1) dX3_quench_19 rfl ?_
  obtain ⟨hg, h⟩ := h
  refine h_iastore K1 lyp_79 hg dX3_quench_20 ?_
  refine g_nameMI (fun I1 hI1 => ?_)
  replace h := h I1 hI1
  refine g_aload_n K1 0 dX3_quench_21 rfl ?_
  refine h_getO K1 q_clX3 4 80 lyp_75 fkX3_4 rfl fl_X3_24 dX3_quench_22 ?_
  refine g_iload_n K1 1 dX3_quench_25 rfl ?_
  refine g_iconst K1 (-1) dX3_quench_26 rfl ?_
  obtain ⟨hg, h⟩ := h
  refine h_iastore K1 lyp_80 hg dX3_quench_27 ?_
  obtain ⟨hr, hI, hL⟩ := h
  subst hr hI hL
  exact g_vreturn K rfl dX3_quench_28
theorem c0_X3_quench_75 {r : Option Value} {I I' : Nat → Nat → Int32} {L L' : Nat → Nat → Int64} {x1 : Int32} (h : v_X3_quench_75_0 r I' L' I L x1) : q_C kX3_quench [.ref 75, .int x1] I L r I' L' := fun w l => q_ct (by decide) (Nat.le_of_ble_eq_true rfl) (Nat.le_refl _) (fun g _ K => h w g K)
abbrev v_X3_quench_81_0 (r : Option Value) (I' : Nat → Nat → Int32) (L' : Nat → Nat → Int64) (I : Nat → Nat → Int32) (L : Nat → Nat → Int64) (x1 : Int32) : Prop := q_W kX3_quench 0 [(0, .ref 81), (1, .int x1)] [] I L r I' L'
set_option maxRecDepth 20000 in
set_option maxHeartbeats 2000000 in
theorem vc_X3_quench_81_0 {r : Option Value} {I' : Nat → Nat → Int32} {L' : Nat → Nat → Int64} {I : Nat → Nat → Int32} {L : Nat → Nat → Int64} {x1 : Int32} (h : (vp_in x1 91 ∧ (vp_in x1 91 ∧ (vp_in x1 91 ∧ ∀ I1, I1 = (up2 (up2 (up2 I 83 x1.toNatClampNeg 0) 84 x1.toNatClampNeg (-1)) 85 x1.toNatClampNeg (-1)) → (vp_in x1 91 ∧ (r = none ∧ I' = (up2 I1 86 x1.toNatClampNeg (-1)) ∧ L' = L)))))) : v_X3_quench_81_0 r I' L' I L x1 := by
  intro w g K
  have K1 := K.1
  refine g_aload_n K1 0 dX3_quench_0 rfl ?_
  refine h_getO K1 q_clX3 1 83 lyp_81 fkX3_1 rfl fl_X3_15 dX3_quench_1 ?_
  refine g_iload_n K1 1 dX3_quench_4 rfl ?_
  refine g_iconst K1 0 dX3_quench_5 rfl ?_
  obtain ⟨hg, h⟩ := h
  refine h_iastore K1 lyp_83 hg dX3_quench_6 ?_
  refine g_aload_n K1 0 dX3_quench_7 rfl ?_
  refine h_getO K1 q_clX3 2 84 lyp_81 fkX3_2 rfl fl_X3_18 dX3_quench_8 ?_
  refine g_iload_n K1 1 dX3_quench_11 rfl ?_
  refine g_iconst K1 (-1) dX3_quench_12 rfl ?_
  obtain ⟨hg, h⟩ := h
  refine h_iastore K1 lyp_84 hg dX3_quench_13 ?_
  refine g_aload_n K1 0 dX3_quench_14 rfl ?_
  refine h_getO K1 q_clX3 3 85 lyp_81 fkX3_3 rfl fl_X3_21 dX3_quench_15 ?_
  refine g_iload_n K1 1 dX3_quench_18 rfl ?_
  refine g_iconst K1 (-1) dX3_quench_19 rfl ?_
  obtain ⟨hg, h⟩ := h
  refine h_iastore K1 lyp_85 hg dX3_quench_20 ?_
  refine g_nameMI (fun I1 hI1 => ?_)
  replace h := h I1 hI1
  refine g_aload_n K1 0 dX3_quench_21 rfl ?_
  refine h_getO K1 q_clX3 4 86 lyp_81 fkX3_4 rfl fl_X3_24 dX3_quench_22 ?_
  refine g_iload_n K1 1 dX3_quench_25 rfl ?_
  refine g_iconst K1 (-1) dX3_quench_26 rfl ?_
  obtain ⟨hg, h⟩ := h
  refine h_iastore K1 lyp_86 hg dX3_quench_27 ?_
  obtain ⟨hr, hI, hL⟩ := h
  subst hr hI hL
  exact g_vreturn K rfl dX3_quench_28
theorem c0_X3_quench_81 {r : Option Value} {I I' : Nat → Nat → Int32} {L L' : Nat → Nat → Int64} {x1 : Int32} (h : v_X3_quench_81_0 r I' L' I L x1) : q_C kX3_quench [.ref 81, .int x1] I L r I' L' := fun w l => q_ct (by decide) (Nat.le_of_ble_eq_true rfl) (Nat.le_refl _) (fun g _ K => h w g K)
abbrev v_X3_run_75_0 (r : Option Value) (I' : Nat → Nat → Int32) (L' : Nat → Nat → Int64) (I : Nat → Nat → Int32) (L : Nat → Nat → Int64) (x1 : Int32) (x2 : Int32) : Prop := q_W kX3_run 0 [(0, .ref 75), (1, .int x1), (2, .int x2)] [] I L r I' L'
abbrev v_X3_run_75_2 (r : Option Value) (I' : Nat → Nat → Int32) (L' : Nat → Nat → Int64) (I : Nat → Nat → Int32) (L : Nat → Nat → Int64) (x2 : Int32) (x3 : Int32) : Prop := q_W kX3_run 2 [(0, .ref 75), (2, .int x2), (3, .int x3)] [] I L r I' L'
set_option maxRecDepth 20000 in
set_option maxHeartbeats 2000000 in
theorem vc_X3_run_75_0 {r : Option Value} {I' : Nat → Nat → Int32} {L' : Nat → Nat → Int64} {I : Nat → Nat → Int32} {L : Nat → Nat → Int64} {x1 : Int32} {x2 : Int32} (h : (v_X3_run_75_2 r I' L' I L x2 x1)) : v_X3_run_75_0 r I' L' I L x1 x2 := by
  intro w g K
  have K1 := K.1
  refine g_iload_n K1 1 dX3_run_0 rfl ?_
  refine g_istore_n K1 dX3_run_1 rfl (by decide) rfl ?_
  exact g_perm [1, 3, 0] rfl (h w g K)
set_option maxRecDepth 20000 in
set_option maxHeartbeats 2000000 in
theorem vc_X3_run_75_2 {r : Option Value} {I' : Nat → Nat → Int32} {L' : Nat → Nat → Int64} {I : Nat → Nat → Int32} {L : Nat → Nat → Int64} {x2 : Int32} {x3 : Int32} (h : ((x2 < x3 → (vp_in x2 13 ∧ (∃ r1, q_C kJ6_bitCount_0f7a4 [.int (I 76 x2.toNatClampNeg)] I L (some (.int r1)) I L ∧ (r = some (.int r1) ∧ I' = I ∧ L' = L)))) ∧ (¬ x2 < x3 → ((x3 = 0 → (∃ I6, q_C kX3_begin [.ref 75] I L none I6 L ∧ (∃ I7, q_C kX3_lightByActs [.ref 75, .int x3] I6 L none I7 L ∧ (∃ I8, q_C kX3_putOut [.ref 75, .int x3] I7 L none I8 L ∧ (∃ I9, q_C kX3_noteLit [.ref 75, .int x3] I8 L none I9 L ∧ (v_X3_run_75_2 r I' L' I9 L x2 (x3 + 1))))))) ∧ (¬ x3 = 0 → (∃ I2, q_C kX3_carry [.ref 75, .int x3] I L none I2 L ∧ (∃ I3, q_C kX3_lightByActs [.ref 75, .int x3] I2 L none I3 L ∧ (∃ I4, q_C kX3_putOut [.ref 75, .int x3] I3 L none I4 L ∧ (∃ I5, q_C kX3_noteLit [.ref 75, .int x3] I4 L none I5 L ∧ (v_X3_run_75_2 r I' L' I5 L x2 (x3 + 1))))))))))) : v_X3_run_75_2 r I' L' I L x2 x3 := by
  intro w g K
  have K1 := K.1
  refine g_iload_n K1 2 dX3_run_2 rfl ?_
  refine g_iload_n K1 1 dX3_run_3 rfl ?_
  refine g_icmp_gt K1 44 dX3_run_4 rfl (fun hc => ?_) (fun hc => ?_)
  · replace h := h.1 hc
    refine g_aload_n K1 0 dX3_run_44 rfl ?_
    refine h_getO K1 q_clX3 0 76 lyp_75 fkX3_0 rfl fl_X3_9 dX3_run_45 ?_
    refine g_iload_n K1 1 dX3_run_48 rfl ?_
    obtain ⟨hg, h⟩ := h
    refine h_iaload K1 lyp_76 hg dX3_run_49 ?_
    obtain ⟨r1, hct, h⟩ := h
    refine h_callS K1 (st := []) [.int (I 76 x2.toNatClampNeg)] (hct w (gl g)) ok_J6_bitCount_0f7a4 ml_X3_89 ⟨Nat.le_of_ble_eq_true rfl, Nat.le_of_ble_eq_true rfl⟩ (Nat.le_of_ble_eq_true rfl) dX3_run_50 ?_
    show q_Gs w g 53 [(0, .ref 75), (2, .int x2), (3, .int x3)] [.int r1] (q_mm I L)
    obtain ⟨hr, hI, hL⟩ := h
    subst hr hI hL
    exact g_ireturn K rfl dX3_run_53
  · replace h := h.2 hc
    refine g_iload_n K1 2 dX3_run_7 rfl ?_
    refine g_if_ne K1 18 dX3_run_8 rfl (fun hc => ?_) (fun hc => ?_)
    · replace h := h.2 hc
      refine g_aload_n K1 0 dX3_run_18 rfl ?_
      refine g_iload_n K1 2 dX3_run_19 rfl ?_
      obtain ⟨I2, hct, h⟩ := h
      refine h_callV K1 (st := []) [.int x3] (hct w (gl g)) q_clX3 lyp_75 rfl ok_X3_carry ml_X3_76 ⟨Nat.le_of_ble_eq_true rfl, Nat.le_of_ble_eq_true rfl⟩ (Nat.le_of_ble_eq_true rfl) dX3_run_20 ?_
      show q_Gs w g 23 [(0, .ref 75), (2, .int x2), (3, .int x3)] [] (q_mm I2 L)
      refine g_aload_n K1 0 dX3_run_23 rfl ?_
      refine g_iload_n K1 2 dX3_run_24 rfl ?_
      obtain ⟨I3, hct, h⟩ := h
      refine h_callV K1 (st := []) [.int x3] (hct w (gl g)) q_clX3 lyp_75 rfl ok_X3_lightByActs ml_X3_80 ⟨Nat.le_of_ble_eq_true rfl, Nat.le_of_ble_eq_true rfl⟩ (Nat.le_of_ble_eq_true rfl) dX3_run_25 ?_
      show q_Gs w g 28 [(0, .ref 75), (2, .int x2), (3, .int x3)] [] (q_mm I3 L)
      refine g_aload_n K1 0 dX3_run_28 rfl ?_
      refine g_iload_n K1 2 dX3_run_29 rfl ?_
      obtain ⟨I4, hct, h⟩ := h
      refine h_callV K1 (st := []) [.int x3] (hct w (gl g)) q_clX3 lyp_75 rfl ok_X3_putOut ml_X3_83 ⟨Nat.le_of_ble_eq_true rfl, Nat.le_of_ble_eq_true rfl⟩ (Nat.le_of_ble_eq_true rfl) dX3_run_30 ?_
      show q_Gs w g 33 [(0, .ref 75), (2, .int x2), (3, .int x3)] [] (q_mm I4 L)
      refine g_aload_n K1 0 dX3_run_33 rfl ?_
      refine g_iload_n K1 2 dX3_run_34 rfl ?_
      obtain ⟨I5, hct, h⟩ := h
      refine h_callV K1 (st := []) [.int x3] (hct w (gl g)) q_clX3 lyp_75 rfl ok_X3_noteLit ml_X3_86 ⟨Nat.le_of_ble_eq_true rfl, Nat.le_of_ble_eq_true rfl⟩ (Nat.le_of_ble_eq_true rfl) dX3_run_35 ?_
      show q_Gs w g 38 [(0, .ref 75), (2, .int x2), (3, .int x3)] [] (q_mm I5 L)
      refine g_iinc K1 (x3 + 1) 2 dX3_run_38 rfl rfl (by decide) rfl ?_
      refine g_goto K1 2 dX3_run_41 rfl ?_
      exact g_perm [1, 2, 0] rfl (h w g K)
    · replace h := h.1 hc
      refine g_aload_n K1 0 dX3_run_11 rfl ?_
      obtain ⟨I6, hct, h⟩ := h
      refine h_callV K1 (st := []) [] (hct w (gl g)) q_clX3 lyp_75 rfl ok_X3_begin ml_X3_73 ⟨Nat.le_of_ble_eq_true rfl, Nat.le_of_ble_eq_true rfl⟩ (Nat.le_of_ble_eq_true rfl) dX3_run_12 ?_
      show q_Gs w g 15 [(0, .ref 75), (2, .int x2), (3, .int x3)] [] (q_mm I6 L)
      refine g_goto K1 23 dX3_run_15 rfl ?_
      refine g_aload_n K1 0 dX3_run_23 rfl ?_
      refine g_iload_n K1 2 dX3_run_24 rfl ?_
      obtain ⟨I7, hct, h⟩ := h
      refine h_callV K1 (st := []) [.int x3] (hct w (gl g)) q_clX3 lyp_75 rfl ok_X3_lightByActs ml_X3_80 ⟨Nat.le_of_ble_eq_true rfl, Nat.le_of_ble_eq_true rfl⟩ (Nat.le_of_ble_eq_true rfl) dX3_run_25 ?_
      show q_Gs w g 28 [(0, .ref 75), (2, .int x2), (3, .int x3)] [] (q_mm I7 L)
      refine g_aload_n K1 0 dX3_run_28 rfl ?_
      refine g_iload_n K1 2 dX3_run_29 rfl ?_
      obtain ⟨I8, hct, h⟩ := h
      refine h_callV K1 (st := []) [.int x3] (hct w (gl g)) q_clX3 lyp_75 rfl ok_X3_putOut ml_X3_83 ⟨Nat.le_of_ble_eq_true rfl, Nat.le_of_ble_eq_true rfl⟩ (Nat.le_of_ble_eq_true rfl) dX3_run_30 ?_
      show q_Gs w g 33 [(0, .ref 75), (2, .int x2), (3, .int x3)] [] (q_mm I8 L)
      refine g_aload_n K1 0 dX3_run_33 rfl ?_
      refine g_iload_n K1 2 dX3_run_34 rfl ?_
      obtain ⟨I9, hct, h⟩ := h
      refine h_callV K1 (st := []) [.int x3] (hct w (gl g)) q_clX3 lyp_75 rfl ok_X3_noteLit ml_X3_86 ⟨Nat.le_of_ble_eq_true rfl, Nat.le_of_ble_eq_true rfl⟩ (Nat.le_of_ble_eq_true rfl) dX3_run_35 ?_
      show q_Gs w g 38 [(0, .ref 75), (2, .int x2), (3, .int x3)] [] (q_mm I9 L)
      refine g_iinc K1 (x3 + 1) 2 dX3_run_38 rfl rfl (by decide) rfl ?_
      refine g_goto K1 2 dX3_run_41 rfl ?_
      exact g_perm [1, 2, 0] rfl (h w g K)
theorem c0_X3_run_75 {r : Option Value} {I I' : Nat → Nat → Int32} {L L' : Nat → Nat → Int64} {x1 : Int32} {x2 : Int32} (h : v_X3_run_75_0 r I' L' I L x1 x2) : q_C kX3_run [.ref 75, .int x1, .int x2] I L r I' L' := fun w l => q_ct (by decide) (Nat.le_of_ble_eq_true rfl) (Nat.le_refl _) (fun g _ K => h w g K)
abbrev v_X3_run_81_0 (r : Option Value) (I' : Nat → Nat → Int32) (L' : Nat → Nat → Int64) (I : Nat → Nat → Int32) (L : Nat → Nat → Int64) (x1 : Int32) (x2 : Int32) : Prop := q_W kX3_run 0 [(0, .ref 81), (1, .int x1), (2, .int x2)] [] I L r I' L'
abbrev v_X3_run_81_2 (r : Option Value) (I' : Nat → Nat → Int32) (L' : Nat → Nat → Int64) (I : Nat → Nat → Int32) (L : Nat → Nat → Int64) (x2 : Int32) (x3 : Int32) : Prop := q_W kX3_run 2 [(0, .ref 81), (2, .int x2), (3, .int x3)] [] I L r I' L'
set_option maxRecDepth 20000 in
set_option maxHeartbeats 2000000 in
theorem vc_X3_run_81_0 {r : Option Value} {I' : Nat → Nat → Int32} {L' : Nat → Nat → Int64} {I : Nat → Nat → Int32} {L : Nat → Nat → Int64} {x1 : Int32} {x2 : Int32} (h : (v_X3_run_81_2 r I' L' I L x2 x1)) : v_X3_run_81_0 r I' L' I L x1 x2 := by
  intro w g K
  have K1 := K.1
  refine g_iload_n K1 1 dX3_run_0 rfl ?_
  refine g_istore_n K1 dX3_run_1 rfl (by decide) rfl ?_
  exact g_perm [1, 3, 0] rfl (h w g K)
set_option maxRecDepth 20000 in
set_option maxHeartbeats 2000000 in
theorem vc_X3_run_81_2 {r : Option Value} {I' : Nat → Nat → Int32} {L' : Nat → Nat → Int64} {I : Nat → Nat → Int32} {L : Nat → Nat → Int64} {x2 : Int32} {x3 : Int32} (h : ((x2 < x3 → (vp_in x2 13 ∧ (∃ r1, q_C kJ6_bitCount_0f7a4 [.int (I 82 x2.toNatClampNeg)] I L (some (.int r1)) I L ∧ (r = some (.int r1) ∧ I' = I ∧ L' = L)))) ∧ (¬ x2 < x3 → ((x3 = 0 → (∃ I6, q_C kX3_begin [.ref 81] I L none I6 L ∧ (∃ I7, q_C kX3_lightByActs [.ref 81, .int x3] I6 L none I7 L ∧ (∃ I8, q_C kX3_putOut [.ref 81, .int x3] I7 L none I8 L ∧ (∃ I9, q_C kX3_noteLit [.ref 81, .int x3] I8 L none I9 L ∧ (v_X3_run_81_2 r I' L' I9 L x2 (x3 + 1))))))) ∧ (¬ x3 = 0 → (∃ I2, q_C kX3_carry [.ref 81, .int x3] I L none I2 L ∧ (∃ I3, q_C kX3_lightByActs [.ref 81, .int x3] I2 L none I3 L ∧ (∃ I4, q_C kX3_putOut [.ref 81, .int x3] I3 L none I4 L ∧ (∃ I5, q_C kX3_noteLit [.ref 81, .int x3] I4 L none I5 L ∧ (v_X3_run_81_2 r I' L' I5 L x2 (x3 + 1))))))))))) : v_X3_run_81_2 r I' L' I L x2 x3 := by
  intro w g K
  have K1 := K.1
  refine g_iload_n K1 2 dX3_run_2 rfl ?_
  refine g_iload_n K1 1 dX3_run_3 rfl ?_
  refine g_icmp_gt K1 44 dX3_run_4 rfl (fun hc => ?_) (fun hc => ?_)
  · replace h := h.1 hc
    refine g_aload_n K1 0 dX3_run_44 rfl ?_
    refine h_getO K1 q_clX3 0 82 lyp_81 fkX3_0 rfl fl_X3_9 dX3_run_45 ?_
    refine g_iload_n K1 1 dX3_run_48 rfl ?_
    obtain ⟨hg, h⟩ := h
    refine h_iaload K1 lyp_82 hg dX3_run_49 ?_
    obtain ⟨r1, hct, h⟩ := h
    refine h_callS K1 (st := []) [.int (I 82 x2.toNatClampNeg)] (hct w (gl g)) ok_J6_bitCount_0f7a4 ml_X3_89 ⟨Nat.le_of_ble_eq_true rfl, Nat.le_of_ble_eq_true rfl⟩ (Nat.le_of_ble_eq_true rfl) dX3_run_50 ?_
    show q_Gs w g 53 [(0, .ref 81), (2, .int x2), (3, .int x3)] [.int r1] (q_mm I L)
    obtain ⟨hr, hI, hL⟩ := h
    subst hr hI hL
    exact g_ireturn K rfl dX3_run_53
  · replace h := h.2 hc
    refine g_iload_n K1 2 dX3_run_7 rfl ?_
    refine g_if_ne K1 18 dX3_run_8 rfl (fun hc => ?_) (fun hc => ?_)
    · replace h := h.2 hc
      refine g_aload_n K1 0 dX3_run_18 rfl ?_
      refine g_iload_n K1 2 dX3_run_19 rfl ?_
      obtain ⟨I2, hct, h⟩ := h
      refine h_callV K1 (st := []) [.int x3] (hct w (gl g)) q_clX3 lyp_81 rfl ok_X3_carry ml_X3_76 ⟨Nat.le_of_ble_eq_true rfl, Nat.le_of_ble_eq_true rfl⟩ (Nat.le_of_ble_eq_true rfl) dX3_run_20 ?_
      show q_Gs w g 23 [(0, .ref 81), (2, .int x2), (3, .int x3)] [] (q_mm I2 L)
      refine g_aload_n K1 0 dX3_run_23 rfl ?_
      refine g_iload_n K1 2 dX3_run_24 rfl ?_
      obtain ⟨I3, hct, h⟩ := h
      refine h_callV K1 (st := []) [.int x3] (hct w (gl g)) q_clX3 lyp_81 rfl ok_X3_lightByActs ml_X3_80 ⟨Nat.le_of_ble_eq_true rfl, Nat.le_of_ble_eq_true rfl⟩ (Nat.le_of_ble_eq_true rfl) dX3_run_25 ?_
      show q_Gs w g 28 [(0, .ref 81), (2, .int x2), (3, .int x3)] [] (q_mm I3 L)
      refine g_aload_n K1 0 dX3_run_28 rfl ?_
      refine g_iload_n K1 2 dX3_run_29 rfl ?_
      obtain ⟨I4, hct, h⟩ := h
      refine h_callV K1 (st := []) [.int x3] (hct w (gl g)) q_clX3 lyp_81 rfl ok_X3_putOut ml_X3_83 ⟨Nat.le_of_ble_eq_true rfl, Nat.le_of_ble_eq_true rfl⟩ (Nat.le_of_ble_eq_true rfl) dX3_run_30 ?_
      show q_Gs w g 33 [(0, .ref 81), (2, .int x2), (3, .int x3)] [] (q_mm I4 L)
      refine g_aload_n K1 0 dX3_run_33 rfl ?_
      refine g_iload_n K1 2 dX3_run_34 rfl ?_
      obtain ⟨I5, hct, h⟩ := h
      refine h_callV K1 (st := []) [.int x3] (hct w (gl g)) q_clX3 lyp_81 rfl ok_X3_noteLit ml_X3_86 ⟨Nat.le_of_ble_eq_true rfl, Nat.le_of_ble_eq_true rfl⟩ (Nat.le_of_ble_eq_true rfl) dX3_run_35 ?_
      show q_Gs w g 38 [(0, .ref 81), (2, .int x2), (3, .int x3)] [] (q_mm I5 L)
      refine g_iinc K1 (x3 + 1) 2 dX3_run_38 rfl rfl (by decide) rfl ?_
      refine g_goto K1 2 dX3_run_41 rfl ?_
      exact g_perm [1, 2, 0] rfl (h w g K)
    · replace h := h.1 hc
      refine g_aload_n K1 0 dX3_run_11 rfl ?_
      obtain ⟨I6, hct, h⟩ := h
      refine h_callV K1 (st := []) [] (hct w (gl g)) q_clX3 lyp_81 rfl ok_X3_begin ml_X3_73 ⟨Nat.le_of_ble_eq_true rfl, Nat.le_of_ble_eq_true rfl⟩ (Nat.le_of_ble_eq_true rfl) dX3_run_12 ?_
      show q_Gs w g 15 [(0, .ref 81), (2, .int x2), (3, .int x3)] [] (q_mm I6 L)
      refine g_goto K1 23 dX3_run_15 rfl ?_
      refine g_aload_n K1 0 dX3_run_23 rfl ?_
      refine g_iload_n K1 2 dX3_run_24 rfl ?_
      obtain ⟨I7, hct, h⟩ := h
      refine h_callV K1 (st := []) [.int x3] (hct w (gl g)) q_clX3 lyp_81 rfl ok_X3_lightByActs ml_X3_80 ⟨Nat.le_of_ble_eq_true rfl, Nat.le_of_ble_eq_true rfl⟩ (Nat.le_of_ble_eq_true rfl) dX3_run_25 ?_
      show q_Gs w g 28 [(0, .ref 81), (2, .int x2), (3, .int x3)] [] (q_mm I7 L)
      refine g_aload_n K1 0 dX3_run_28 rfl ?_
      refine g_iload_n K1 2 dX3_run_29 rfl ?_
      obtain ⟨I8, hct, h⟩ := h
      refine h_callV K1 (st := []) [.int x3] (hct w (gl g)) q_clX3 lyp_81 rfl ok_X3_putOut ml_X3_83 ⟨Nat.le_of_ble_eq_true rfl, Nat.le_of_ble_eq_true rfl⟩ (Nat.le_of_ble_eq_true rfl) dX3_run_30 ?_
      show q_Gs w g 33 [(0, .ref 81), (2, .int x2), (3, .int x3)] [] (q_mm I8 L)
      refine g_aload_n K1 0 dX3_run_33 rfl ?_
      refine g_iload_n K1 2 dX3_run_34 rfl ?_
      obtain ⟨I9, hct, h⟩ := h
      refine h_callV K1 (st := []) [.int x3] (hct w (gl g)) q_clX3 lyp_81 rfl ok_X3_noteLit ml_X3_86 ⟨Nat.le_of_ble_eq_true rfl, Nat.le_of_ble_eq_true rfl⟩ (Nat.le_of_ble_eq_true rfl) dX3_run_35 ?_
      show q_Gs w g 38 [(0, .ref 81), (2, .int x2), (3, .int x3)] [] (q_mm I9 L)
      refine g_iinc K1 (x3 + 1) 2 dX3_run_38 rfl rfl (by decide) rfl ?_
      refine g_goto K1 2 dX3_run_41 rfl ?_
      exact g_perm [1, 2, 0] rfl (h w g K)
theorem c0_X3_run_81 {r : Option Value} {I I' : Nat → Nat → Int32} {L L' : Nat → Nat → Int64} {x1 : Int32} {x2 : Int32} (h : v_X3_run_81_0 r I' L' I L x1 x2) : q_C kX3_run [.ref 81, .int x1, .int x2] I L r I' L' := fun w l => q_ct (by decide) (Nat.le_of_ble_eq_true rfl) (Nat.le_refl _) (fun g _ K => h w g K)
abbrev v_X3_sayingSame_0 (r : Option Value) (I' : Nat → Nat → Int32) (L' : Nat → Nat → Int64) (I : Nat → Nat → Int32) (L : Nat → Nat → Int64) (x1 : Int32) (x2 : Int32) : Prop := q_W kX3_sayingSame 0 [(0, .ref 75), (1, .int x1), (2, .int x2)] [] I L r I' L'
abbrev v_X3_sayingSame_18 (r : Option Value) (I' : Nat → Nat → Int32) (L' : Nat → Nat → Int64) (I : Nat → Nat → Int32) (L : Nat → Nat → Int64) (x2 : Int32) (x3 : Int32) (x4 : Int32) (x5 : Int32) : Prop := q_W kX3_sayingSame 18 [(0, .ref 75), (2, .int x2), (3, .int x3), (4, .int x4), (5, .int x5)] [] I L r I' L'
set_option maxRecDepth 20000 in
set_option maxHeartbeats 2000000 in
theorem vc_X3_sayingSame_0 {r : Option Value} {I' : Nat → Nat → Int32} {L' : Nat → Nat → Int64} {I : Nat → Nat → Int32} {L : Nat → Nat → Int64} {x1 : Int32} {x2 : Int32} (h : (vp_in ((x2 * 7) + x1) 91 ∧ (v_X3_sayingSame_18 r I' L' I L x2 (I 77 (((x2 * 7) + x1) : Int32).toNatClampNeg) 0 0))) : v_X3_sayingSame_0 r I' L' I L x1 x2 := by
  intro w g K
  have K1 := K.1
  refine g_aload_n K1 0 dX3_sayingSame_0 rfl ?_
  refine h_getO K1 q_clX3 1 77 lyp_75 fkX3_1 rfl fl_X3_15 dX3_sayingSame_1 ?_
  refine g_iload_n K1 2 dX3_sayingSame_4 rfl ?_
  refine g_bipush K1 7 dX3_sayingSame_5 rfl ?_
  refine g_imul K1 dX3_sayingSame_7 ?_
  refine g_iload_n K1 1 dX3_sayingSame_8 rfl ?_
  refine g_iadd K1 dX3_sayingSame_9 ?_
  obtain ⟨hg, h⟩ := h
  refine h_iaload K1 lyp_77 hg dX3_sayingSame_10 ?_
  refine g_istore_n K1 dX3_sayingSame_11 rfl (by decide) rfl ?_
  refine g_iconst K1 0 dX3_sayingSame_12 rfl ?_
  refine g_istore K1 dX3_sayingSame_13 (by decide) rfl ?_
  refine g_iconst K1 0 dX3_sayingSame_15 rfl ?_
  refine g_istore K1 dX3_sayingSame_16 (by decide) rfl ?_
  exact g_perm [3, 5, 2, 1, 0] rfl (h w g K)
set_option maxRecDepth 20000 in
set_option maxHeartbeats 2000000 in
theorem vc_X3_sayingSame_18 {r : Option Value} {I' : Nat → Nat → Int32} {L' : Nat → Nat → Int64} {I : Nat → Nat → Int32} {L : Nat → Nat → Int64} {x2 : Int32} {x3 : Int32} {x4 : Int32} {x5 : Int32} (h : (((I 12 4) ≤ x5 → (r = some (.int x4) ∧ I' = I ∧ L' = L)) ∧ (¬ (I 12 4) ≤ x5 → ((x3 = 0 → (r = some (.int x4) ∧ I' = I ∧ L' = L)) ∧ (¬ x3 = 0 → (vp_in ((x2 * 7) + x5) 91 ∧ (((I 77 (((x2 * 7) + x5) : Int32).toNatClampNeg) = x3 → (v_X3_sayingSame_18 r I' L' I L x2 x3 (x4 ||| ((1 : Int32) <<< (x5 &&& 31))) (x5 + 1))) ∧ (¬ (I 77 (((x2 * 7) + x5) : Int32).toNatClampNeg) = x3 → (v_X3_sayingSame_18 r I' L' I L x2 x3 x4 (x5 + 1)))))))))) : v_X3_sayingSame_18 r I' L' I L x2 x3 x4 x5 := by
  intro w g K
  have K1 := K.1
  refine g_iload K1 4 dX3_sayingSame_18 rfl ?_
  refine g_aload_n K1 0 dX3_sayingSame_20 rfl ?_
  refine h_getO K1 q_clX3 5 12 lyp_75 fkX3_5 rfl fl_X3_27 dX3_sayingSame_21 ?_
  refine h_getI K1 q_clX5 4 lyp_12 fkX5_4 fl_X3_95 dX3_sayingSame_24 ?_
  refine g_icmp_ge K1 65 dX3_sayingSame_27 rfl (fun hc => ?_) (fun hc => ?_)
  · replace h := h.1 hc
    refine g_iload K1 3 dX3_sayingSame_65 rfl ?_
    obtain ⟨hr, hI, hL⟩ := h
    subst hr hI hL
    exact g_ireturn K rfl dX3_sayingSame_67
  · replace h := h.2 hc
    refine g_iload_n K1 2 dX3_sayingSame_30 rfl ?_
    refine g_if_eq K1 65 dX3_sayingSame_31 rfl (fun hc => ?_) (fun hc => ?_)
    · replace h := h.1 hc
      refine g_iload K1 3 dX3_sayingSame_65 rfl ?_
      obtain ⟨hr, hI, hL⟩ := h
      subst hr hI hL
      exact g_ireturn K rfl dX3_sayingSame_67
    · replace h := h.2 hc
      refine g_aload_n K1 0 dX3_sayingSame_34 rfl ?_
      refine h_getO K1 q_clX3 1 77 lyp_75 fkX3_1 rfl fl_X3_15 dX3_sayingSame_35 ?_
      refine g_iload_n K1 1 dX3_sayingSame_38 rfl ?_
      refine g_bipush K1 7 dX3_sayingSame_39 rfl ?_
      refine g_imul K1 dX3_sayingSame_41 ?_
      refine g_iload K1 4 dX3_sayingSame_42 rfl ?_
      refine g_iadd K1 dX3_sayingSame_44 ?_
      obtain ⟨hg, h⟩ := h
      refine h_iaload K1 lyp_77 hg dX3_sayingSame_45 ?_
      refine g_iload_n K1 2 dX3_sayingSame_46 rfl ?_
      refine g_icmp_ne K1 59 dX3_sayingSame_47 rfl (fun hc => ?_) (fun hc => ?_)
      · replace h := h.2 hc
        refine g_iinc K1 (x5 + 1) 4 dX3_sayingSame_59 rfl rfl (by decide) rfl ?_
        refine g_goto K1 18 dX3_sayingSame_62 rfl ?_
        exact g_perm [1, 2, 3, 4, 0] rfl (h w g K)
      · replace h := h.1 hc
        refine g_iload K1 3 dX3_sayingSame_50 rfl ?_
        refine g_iconst K1 1 dX3_sayingSame_52 rfl ?_
        refine g_iload K1 4 dX3_sayingSame_53 rfl ?_
        refine g_ishl K1 dX3_sayingSame_55 ?_
        refine g_ior K1 dX3_sayingSame_56 ?_
        refine g_istore K1 dX3_sayingSame_57 (by decide) rfl ?_
        refine g_iinc K1 (x5 + 1) 4 dX3_sayingSame_59 rfl rfl (by decide) rfl ?_
        refine g_goto K1 18 dX3_sayingSame_62 rfl ?_
        exact g_perm [2, 3, 4, 1, 0] rfl (h w g K)
theorem c0_X3_sayingSame {r : Option Value} {I I' : Nat → Nat → Int32} {L L' : Nat → Nat → Int64} {x1 : Int32} {x2 : Int32} (h : v_X3_sayingSame_0 r I' L' I L x1 x2) : q_C kX3_sayingSame [.ref 75, .int x1, .int x2] I L r I' L' := fun w l => q_ct (by decide) (Nat.le_of_ble_eq_true rfl) (Nat.le_refl _) (fun g _ K => h w g K)
abbrev v_X3_speaker_75_0 (r : Option Value) (I' : Nat → Nat → Int32) (L' : Nat → Nat → Int64) (I : Nat → Nat → Int32) (L : Nat → Nat → Int64) (x1 : Int32) (x2 : Int32) : Prop := q_W kX3_speaker 0 [(0, .ref 75), (1, .int x1), (2, .int x2)] [] I L r I' L'
abbrev v_X3_speaker_75_8 (r : Option Value) (I' : Nat → Nat → Int32) (L' : Nat → Nat → Int64) (I : Nat → Nat → Int32) (L : Nat → Nat → Int64) (x1 : Int32) (x2 : Int32) (x3 : Int32) (x4 : Int32) (x5 : Int32) : Prop := q_W kX3_speaker 8 [(0, .ref 75), (1, .int x1), (2, .int x2), (3, .int x3), (4, .int x4), (5, .int x5)] [] I L r I' L'
set_option maxRecDepth 20000 in
set_option maxHeartbeats 2000000 in
theorem vc_X3_speaker_75_0 {r : Option Value} {I' : Nat → Nat → Int32} {L' : Nat → Nat → Int64} {I : Nat → Nat → Int32} {L : Nat → Nat → Int64} {x1 : Int32} {x2 : Int32} (h : (v_X3_speaker_75_8 r I' L' I L x1 x2 (-1) (-1) 0)) : v_X3_speaker_75_0 r I' L' I L x1 x2 := by
  intro w g K
  have K1 := K.1
  refine g_iconst K1 (-1) dX3_speaker_0 rfl ?_
  refine g_istore_n K1 dX3_speaker_1 rfl (by decide) rfl ?_
  refine g_iconst K1 (-1) dX3_speaker_2 rfl ?_
  refine g_istore K1 dX3_speaker_3 (by decide) rfl ?_
  refine g_iconst K1 0 dX3_speaker_5 rfl ?_
  refine g_istore K1 dX3_speaker_6 (by decide) rfl ?_
  exact g_perm [3, 4, 5, 2, 1, 0] rfl (h w g K)
set_option maxRecDepth 20000 in
set_option maxHeartbeats 2000000 in
theorem vc_X3_speaker_75_8 {r : Option Value} {I' : Nat → Nat → Int32} {L' : Nat → Nat → Int64} {I : Nat → Nat → Int32} {L : Nat → Nat → Int64} {x1 : Int32} {x2 : Int32} {x3 : Int32} {x4 : Int32} {x5 : Int32} (h : (((I 12 4) ≤ x5 → (r = some (.int x3) ∧ I' = I ∧ L' = L)) ∧ (¬ (I 12 4) ≤ x5 → ((((x1 >>> (x5 &&& 31)) &&& 1) = 0 → (v_X3_speaker_75_8 r I' L' I L x1 x2 x3 x4 (x5 + 1))) ∧ (¬ ((x1 >>> (x5 &&& 31)) &&& 1) = 0 → (((I 75 7) = 1 → ((x5 ≤ x4 → (v_X3_speaker_75_8 r I' L' I L x1 x2 x3 x4 (x5 + 1))) ∧ (¬ x5 ≤ x4 → (v_X3_speaker_75_8 r I' L' I L x1 x2 x5 x5 (x5 + 1))))) ∧ (¬ (I 75 7) = 1 → (((I 75 7) = 2 → (vp_in (x2 + x5) 91 ∧ (∃ r1, q_C kX7_size [.int (I 77 ((x2 + x5) : Int32).toNatClampNeg)] I L (some (.int r1)) I L ∧ ((r1 ≤ x4 → (v_X3_speaker_75_8 r I' L' I L x1 x2 x3 x4 (x5 + 1))) ∧ (¬ r1 ≤ x4 → (v_X3_speaker_75_8 r I' L' I L x1 x2 x5 r1 (x5 + 1))))))) ∧ (¬ (I 75 7) = 2 → (((I 75 7) = 3 → (vp_in (x2 + x5) 91 ∧ (((I 79 ((x2 + x5) : Int32).toNatClampNeg) ≤ x4 → (v_X3_speaker_75_8 r I' L' I L x1 x2 x3 x4 (x5 + 1))) ∧ (¬ (I 79 ((x2 + x5) : Int32).toNatClampNeg) ≤ x4 → (v_X3_speaker_75_8 r I' L' I L x1 x2 x5 (I 79 ((x2 + x5) : Int32).toNatClampNeg) (x5 + 1)))))) ∧ (¬ (I 75 7) = 3 → ((0 ≤ x4 → (v_X3_speaker_75_8 r I' L' I L x1 x2 x3 x4 (x5 + 1))) ∧ (¬ 0 ≤ x4 → (v_X3_speaker_75_8 r I' L' I L x1 x2 x5 0 (x5 + 1))))))))))))))) : v_X3_speaker_75_8 r I' L' I L x1 x2 x3 x4 x5 := by
  intro w g K
  have K1 := K.1
  refine g_iload K1 5 dX3_speaker_8 rfl ?_
  refine g_aload_n K1 0 dX3_speaker_10 rfl ?_
  refine h_getO K1 q_clX3 5 12 lyp_75 fkX3_5 rfl fl_X3_27 dX3_speaker_11 ?_
  refine h_getI K1 q_clX5 4 lyp_12 fkX5_4 fl_X3_95 dX3_speaker_14 ?_
  refine g_icmp_ge K1 122 dX3_speaker_17 rfl (fun hc => ?_) (fun hc => ?_)
  · replace h := h.1 hc
    refine g_iload_n K1 3 dX3_speaker_122 rfl ?_
    obtain ⟨hr, hI, hL⟩ := h
    subst hr hI hL
    exact g_ireturn K rfl dX3_speaker_123
  · replace h := h.2 hc
    refine g_iload_n K1 1 dX3_speaker_20 rfl ?_
    refine g_iload K1 5 dX3_speaker_21 rfl ?_
    refine g_ishr K1 dX3_speaker_23 ?_
    refine g_iconst K1 1 dX3_speaker_24 rfl ?_
    refine g_iand K1 dX3_speaker_25 ?_
    refine g_if_eq K1 116 dX3_speaker_26 rfl (fun hc => ?_) (fun hc => ?_)
    · replace h := h.1 hc
      refine g_iinc K1 (x5 + 1) 5 dX3_speaker_116 rfl rfl (by decide) rfl ?_
      refine g_goto K1 8 dX3_speaker_119 rfl ?_
      exact g_perm [1, 2, 3, 4, 5, 0] rfl (h w g K)
    · replace h := h.2 hc
      refine g_iconst K1 0 dX3_speaker_29 rfl ?_
      refine g_istore K1 dX3_speaker_30 (by decide) rfl ?_
      refine g_aload_n K1 1 dX3_speaker_32 rfl ?_
      refine h_getI K1 q_clX3 7 lyp_75 fkX3_7 fl_X3_41 dX3_speaker_33 ?_
      by_cases hn1 : (I 75 7) = 1
      · replace h := h.1 hn1
        refine g_tabIn K1 64 dX3_speaker_36 (by rw [hn1]; decide) (by rw [hn1]; decide) (by rw [hn1]; rfl) rfl ?_
        refine g_iload K1 6 dX3_speaker_64 rfl ?_
        refine g_istore K1 dX3_speaker_66 (by decide) rfl ?_
        refine g_goto K1 102 dX3_speaker_68 rfl ?_
        refine g_iload K1 0 dX3_speaker_102 rfl ?_
        refine g_iload K1 5 dX3_speaker_104 rfl ?_
        refine g_icmp_le K1 116 dX3_speaker_106 rfl (fun hc => ?_) (fun hc => ?_)
        · replace h := h.1 hc
          refine g_iinc K1 (x5 + 1) 6 dX3_speaker_116 rfl rfl (by decide) rfl ?_
          refine g_goto K1 8 dX3_speaker_119 rfl ?_
          exact g_perm [2, 3, 4, 5, 6, 0] rfl (h w g K)
        · replace h := h.2 hc
          refine g_iload K1 0 dX3_speaker_109 rfl ?_
          refine g_istore K1 dX3_speaker_111 (by decide) rfl ?_
          refine g_iload K1 6 dX3_speaker_113 rfl ?_
          refine g_istore_n K1 dX3_speaker_115 rfl (by decide) rfl ?_
          refine g_iinc K1 (x5 + 1) 6 dX3_speaker_116 rfl rfl (by decide) rfl ?_
          refine g_goto K1 8 dX3_speaker_119 rfl ?_
          exact g_perm [4, 5, 6, 1, 2, 0] rfl (h w g K)
      · replace h := h.2 hn1
        by_cases hn2 : (I 75 7) = 2
        · replace h := h.1 hn2
          refine g_tabIn K1 71 dX3_speaker_36 (by rw [hn2]; decide) (by rw [hn2]; decide) (by rw [hn2]; rfl) rfl ?_
          refine g_aload_n K1 1 dX3_speaker_71 rfl ?_
          refine h_getO K1 q_clX3 1 77 lyp_75 fkX3_1 rfl fl_X3_15 dX3_speaker_72 ?_
          refine g_iload_n K1 3 dX3_speaker_75 rfl ?_
          refine g_iload K1 6 dX3_speaker_76 rfl ?_
          refine g_iadd K1 dX3_speaker_78 ?_
          obtain ⟨hg, h⟩ := h
          refine h_iaload K1 lyp_77 hg dX3_speaker_79 ?_
          obtain ⟨r1, hct, h⟩ := h
          refine h_callS K1 (st := []) [.int (I 77 ((x2 + x5) : Int32).toNatClampNeg)] (hct w (gl g)) ok_X7_size ml_X3_132 ⟨Nat.le_of_ble_eq_true rfl, Nat.le_of_ble_eq_true rfl⟩ (Nat.le_of_ble_eq_true rfl) dX3_speaker_80 ?_
          show q_Gs w g 83 [(6, .int 0), (0, .ref 75), (1, .int x1), (2, .int x2), (3, .int x3), (4, .int x4), (5, .int x5)] [.int r1] (q_mm I L)
          refine g_istore K1 dX3_speaker_83 (by decide) rfl ?_
          refine g_goto K1 102 dX3_speaker_85 rfl ?_
          refine g_iload K1 0 dX3_speaker_102 rfl ?_
          refine g_iload K1 5 dX3_speaker_104 rfl ?_
          refine g_icmp_le K1 116 dX3_speaker_106 rfl (fun hc => ?_) (fun hc => ?_)
          · replace h := h.1 hc
            refine g_iinc K1 (x5 + 1) 6 dX3_speaker_116 rfl rfl (by decide) rfl ?_
            refine g_goto K1 8 dX3_speaker_119 rfl ?_
            exact g_perm [2, 3, 4, 5, 6, 0] rfl (h w g K)
          · replace h := h.2 hc
            refine g_iload K1 0 dX3_speaker_109 rfl ?_
            refine g_istore K1 dX3_speaker_111 (by decide) rfl ?_
            refine g_iload K1 6 dX3_speaker_113 rfl ?_
            refine g_istore_n K1 dX3_speaker_115 rfl (by decide) rfl ?_
            refine g_iinc K1 (x5 + 1) 6 dX3_speaker_116 rfl rfl (by decide) rfl ?_
            refine g_goto K1 8 dX3_speaker_119 rfl ?_
            exact g_perm [4, 5, 6, 1, 2, 0] rfl (h w g K)
        · replace h := h.2 hn2
          by_cases hn3 : (I 75 7) = 3
          · replace h := h.1 hn3
            refine g_tabIn K1 88 dX3_speaker_36 (by rw [hn3]; decide) (by rw [hn3]; decide) (by rw [hn3]; rfl) rfl ?_
            refine g_aload_n K1 1 dX3_speaker_88 rfl ?_
            refine h_getO K1 q_clX3 3 79 lyp_75 fkX3_3 rfl fl_X3_21 dX3_speaker_89 ?_
            refine g_iload_n K1 3 dX3_speaker_92 rfl ?_
            refine g_iload K1 6 dX3_speaker_93 rfl ?_
            refine g_iadd K1 dX3_speaker_95 ?_
            obtain ⟨hg, h⟩ := h
            refine h_iaload K1 lyp_79 hg dX3_speaker_96 ?_
            refine g_istore K1 dX3_speaker_97 (by decide) rfl ?_
            refine g_goto K1 102 dX3_speaker_99 rfl ?_
            refine g_iload K1 0 dX3_speaker_102 rfl ?_
            refine g_iload K1 5 dX3_speaker_104 rfl ?_
            refine g_icmp_le K1 116 dX3_speaker_106 rfl (fun hc => ?_) (fun hc => ?_)
            · replace h := h.1 hc
              refine g_iinc K1 (x5 + 1) 6 dX3_speaker_116 rfl rfl (by decide) rfl ?_
              refine g_goto K1 8 dX3_speaker_119 rfl ?_
              exact g_perm [2, 3, 4, 5, 6, 0] rfl (h w g K)
            · replace h := h.2 hc
              refine g_iload K1 0 dX3_speaker_109 rfl ?_
              refine g_istore K1 dX3_speaker_111 (by decide) rfl ?_
              refine g_iload K1 6 dX3_speaker_113 rfl ?_
              refine g_istore_n K1 dX3_speaker_115 rfl (by decide) rfl ?_
              refine g_iinc K1 (x5 + 1) 6 dX3_speaker_116 rfl rfl (by decide) rfl ?_
              refine g_goto K1 8 dX3_speaker_119 rfl ?_
              exact g_perm [4, 5, 6, 1, 2, 0] rfl (h w g K)
          · replace h := h.2 hn3
            refine g_tabOut K1 102 dX3_speaker_36 (by have := tb_ne hn1 (n := 1) rfl; have := tb_ne hn2 (n := 2) rfl; have := tb_ne hn3 (n := 3) rfl; omega) rfl ?_
            refine g_iload K1 0 dX3_speaker_102 rfl ?_
            refine g_iload K1 5 dX3_speaker_104 rfl ?_
            refine g_icmp_le K1 116 dX3_speaker_106 rfl (fun hc => ?_) (fun hc => ?_)
            · replace h := h.1 hc
              refine g_iinc K1 (x5 + 1) 6 dX3_speaker_116 rfl rfl (by decide) rfl ?_
              refine g_goto K1 8 dX3_speaker_119 rfl ?_
              exact g_perm [2, 3, 4, 5, 6, 0] rfl (h w g K)
            · replace h := h.2 hc
              refine g_iload K1 0 dX3_speaker_109 rfl ?_
              refine g_istore K1 dX3_speaker_111 (by decide) rfl ?_
              refine g_iload K1 6 dX3_speaker_113 rfl ?_
              refine g_istore_n K1 dX3_speaker_115 rfl (by decide) rfl ?_
              refine g_iinc K1 (x5 + 1) 6 dX3_speaker_116 rfl rfl (by decide) rfl ?_
              refine g_goto K1 8 dX3_speaker_119 rfl ?_
              exact g_perm [4, 5, 6, 1, 2, 0] rfl (h w g K)
theorem c0_X3_speaker_75 {r : Option Value} {I I' : Nat → Nat → Int32} {L L' : Nat → Nat → Int64} {x1 : Int32} {x2 : Int32} (h : v_X3_speaker_75_0 r I' L' I L x1 x2) : q_C kX3_speaker [.ref 75, .int x1, .int x2] I L r I' L' := fun w l => q_ct (by decide) (Nat.le_of_ble_eq_true rfl) (Nat.le_refl _) (fun g _ K => h w g K)
abbrev v_X3_speaker_81_0 (r : Option Value) (I' : Nat → Nat → Int32) (L' : Nat → Nat → Int64) (I : Nat → Nat → Int32) (L : Nat → Nat → Int64) (x1 : Int32) (x2 : Int32) : Prop := q_W kX3_speaker 0 [(0, .ref 81), (1, .int x1), (2, .int x2)] [] I L r I' L'
abbrev v_X3_speaker_81_8 (r : Option Value) (I' : Nat → Nat → Int32) (L' : Nat → Nat → Int64) (I : Nat → Nat → Int32) (L : Nat → Nat → Int64) (x1 : Int32) (x2 : Int32) (x3 : Int32) (x4 : Int32) (x5 : Int32) : Prop := q_W kX3_speaker 8 [(0, .ref 81), (1, .int x1), (2, .int x2), (3, .int x3), (4, .int x4), (5, .int x5)] [] I L r I' L'
set_option maxRecDepth 20000 in
set_option maxHeartbeats 2000000 in
theorem vc_X3_speaker_81_0 {r : Option Value} {I' : Nat → Nat → Int32} {L' : Nat → Nat → Int64} {I : Nat → Nat → Int32} {L : Nat → Nat → Int64} {x1 : Int32} {x2 : Int32} (h : (v_X3_speaker_81_8 r I' L' I L x1 x2 (-1) (-1) 0)) : v_X3_speaker_81_0 r I' L' I L x1 x2 := by
  intro w g K
  have K1 := K.1
  refine g_iconst K1 (-1) dX3_speaker_0 rfl ?_
  refine g_istore_n K1 dX3_speaker_1 rfl (by decide) rfl ?_
  refine g_iconst K1 (-1) dX3_speaker_2 rfl ?_
  refine g_istore K1 dX3_speaker_3 (by decide) rfl ?_
  refine g_iconst K1 0 dX3_speaker_5 rfl ?_
  refine g_istore K1 dX3_speaker_6 (by decide) rfl ?_
  exact g_perm [3, 4, 5, 2, 1, 0] rfl (h w g K)
set_option maxRecDepth 20000 in
set_option maxHeartbeats 2000000 in
theorem vc_X3_speaker_81_8 {r : Option Value} {I' : Nat → Nat → Int32} {L' : Nat → Nat → Int64} {I : Nat → Nat → Int32} {L : Nat → Nat → Int64} {x1 : Int32} {x2 : Int32} {x3 : Int32} {x4 : Int32} {x5 : Int32} (h : (((I 12 4) ≤ x5 → (r = some (.int x3) ∧ I' = I ∧ L' = L)) ∧ (¬ (I 12 4) ≤ x5 → ((((x1 >>> (x5 &&& 31)) &&& 1) = 0 → (v_X3_speaker_81_8 r I' L' I L x1 x2 x3 x4 (x5 + 1))) ∧ (¬ ((x1 >>> (x5 &&& 31)) &&& 1) = 0 → (((I 81 7) = 1 → ((x5 ≤ x4 → (v_X3_speaker_81_8 r I' L' I L x1 x2 x3 x4 (x5 + 1))) ∧ (¬ x5 ≤ x4 → (v_X3_speaker_81_8 r I' L' I L x1 x2 x5 x5 (x5 + 1))))) ∧ (¬ (I 81 7) = 1 → (((I 81 7) = 2 → (vp_in (x2 + x5) 91 ∧ (∃ r1, q_C kX7_size [.int (I 83 ((x2 + x5) : Int32).toNatClampNeg)] I L (some (.int r1)) I L ∧ ((r1 ≤ x4 → (v_X3_speaker_81_8 r I' L' I L x1 x2 x3 x4 (x5 + 1))) ∧ (¬ r1 ≤ x4 → (v_X3_speaker_81_8 r I' L' I L x1 x2 x5 r1 (x5 + 1))))))) ∧ (¬ (I 81 7) = 2 → (((I 81 7) = 3 → (vp_in (x2 + x5) 91 ∧ (((I 85 ((x2 + x5) : Int32).toNatClampNeg) ≤ x4 → (v_X3_speaker_81_8 r I' L' I L x1 x2 x3 x4 (x5 + 1))) ∧ (¬ (I 85 ((x2 + x5) : Int32).toNatClampNeg) ≤ x4 → (v_X3_speaker_81_8 r I' L' I L x1 x2 x5 (I 85 ((x2 + x5) : Int32).toNatClampNeg) (x5 + 1)))))) ∧ (¬ (I 81 7) = 3 → ((0 ≤ x4 → (v_X3_speaker_81_8 r I' L' I L x1 x2 x3 x4 (x5 + 1))) ∧ (¬ 0 ≤ x4 → (v_X3_speaker_81_8 r I' L' I L x1 x2 x5 0 (x5 + 1))))))))))))))) : v_X3_speaker_81_8 r I' L' I L x1 x2 x3 x4 x5 := by
  intro w g K
  have K1 := K.1
  refine g_iload K1 5 dX3_speaker_8 rfl ?_
  refine g_aload_n K1 0 dX3_speaker_10 rfl ?_
  refine h_getO K1 q_clX3 5 12 lyp_81 fkX3_5 rfl fl_X3_27 dX3_speaker_11 ?_
  refine h_getI K1 q_clX5 4 lyp_12 fkX5_4 fl_X3_95 dX3_speaker_14 ?_
  refine g_icmp_ge K1 122 dX3_speaker_17 rfl (fun hc => ?_) (fun hc => ?_)
  · replace h := h.1 hc
    refine g_iload_n K1 3 dX3_speaker_122 rfl ?_
    obtain ⟨hr, hI, hL⟩ := h
    subst hr hI hL
    exact g_ireturn K rfl dX3_speaker_123
  · replace h := h.2 hc
    refine g_iload_n K1 1 dX3_speaker_20 rfl ?_
    refine g_iload K1 5 dX3_speaker_21 rfl ?_
    refine g_ishr K1 dX3_speaker_23 ?_
    refine g_iconst K1 1 dX3_speaker_24 rfl ?_
    refine g_iand K1 dX3_speaker_25 ?_
    refine g_if_eq K1 116 dX3_speaker_26 rfl (fun hc => ?_) (fun hc => ?_)
    · replace h := h.1 hc
      refine g_iinc K1 (x5 + 1) 5 dX3_speaker_116 rfl rfl (by decide) rfl ?_
      refine g_goto K1 8 dX3_speaker_119 rfl ?_
      exact g_perm [1, 2, 3, 4, 5, 0] rfl (h w g K)
    · replace h := h.2 hc
      refine g_iconst K1 0 dX3_speaker_29 rfl ?_
      refine g_istore K1 dX3_speaker_30 (by decide) rfl ?_
      refine g_aload_n K1 1 dX3_speaker_32 rfl ?_
      refine h_getI K1 q_clX3 7 lyp_81 fkX3_7 fl_X3_41 dX3_speaker_33 ?_
      by_cases hn1 : (I 81 7) = 1
      · replace h := h.1 hn1
        refine g_tabIn K1 64 dX3_speaker_36 (by rw [hn1]; decide) (by rw [hn1]; decide) (by rw [hn1]; rfl) rfl ?_
        refine g_iload K1 6 dX3_speaker_64 rfl ?_
        refine g_istore K1 dX3_speaker_66 (by decide) rfl ?_
        refine g_goto K1 102 dX3_speaker_68 rfl ?_
        refine g_iload K1 0 dX3_speaker_102 rfl ?_
        refine g_iload K1 5 dX3_speaker_104 rfl ?_
        refine g_icmp_le K1 116 dX3_speaker_106 rfl (fun hc => ?_) (fun hc => ?_)
        · replace h := h.1 hc
          refine g_iinc K1 (x5 + 1) 6 dX3_speaker_116 rfl rfl (by decide) rfl ?_
          refine g_goto K1 8 dX3_speaker_119 rfl ?_
          exact g_perm [2, 3, 4, 5, 6, 0] rfl (h w g K)
        · replace h := h.2 hc
          refine g_iload K1 0 dX3_speaker_109 rfl ?_
          refine g_istore K1 dX3_speaker_111 (by decide) rfl ?_
          refine g_iload K1 6 dX3_speaker_113 rfl ?_
          refine g_istore_n K1 dX3_speaker_115 rfl (by decide) rfl ?_
          refine g_iinc K1 (x5 + 1) 6 dX3_speaker_116 rfl rfl (by decide) rfl ?_
          refine g_goto K1 8 dX3_speaker_119 rfl ?_
          exact g_perm [4, 5, 6, 1, 2, 0] rfl (h w g K)
      · replace h := h.2 hn1
        by_cases hn2 : (I 81 7) = 2
        · replace h := h.1 hn2
          refine g_tabIn K1 71 dX3_speaker_36 (by rw [hn2]; decide) (by rw [hn2]; decide) (by rw [hn2]; rfl) rfl ?_
          refine g_aload_n K1 1 dX3_speaker_71 rfl ?_
          refine h_getO K1 q_clX3 1 83 lyp_81 fkX3_1 rfl fl_X3_15 dX3_speaker_72 ?_
          refine g_iload_n K1 3 dX3_speaker_75 rfl ?_
          refine g_iload K1 6 dX3_speaker_76 rfl ?_
          refine g_iadd K1 dX3_speaker_78 ?_
          obtain ⟨hg, h⟩ := h
          refine h_iaload K1 lyp_83 hg dX3_speaker_79 ?_
          obtain ⟨r1, hct, h⟩ := h
          refine h_callS K1 (st := []) [.int (I 83 ((x2 + x5) : Int32).toNatClampNeg)] (hct w (gl g)) ok_X7_size ml_X3_132 ⟨Nat.le_of_ble_eq_true rfl, Nat.le_of_ble_eq_true rfl⟩ (Nat.le_of_ble_eq_true rfl) dX3_speaker_80 ?_
          show q_Gs w g 83 [(6, .int 0), (0, .ref 81), (1, .int x1), (2, .int x2), (3, .int x3), (4, .int x4), (5, .int x5)] [.int r1] (q_mm I L)
          refine g_istore K1 dX3_speaker_83 (by decide) rfl ?_
          refine g_goto K1 102 dX3_speaker_85 rfl ?_
          refine g_iload K1 0 dX3_speaker_102 rfl ?_
          refine g_iload K1 5 dX3_speaker_104 rfl ?_
          refine g_icmp_le K1 116 dX3_speaker_106 rfl (fun hc => ?_) (fun hc => ?_)
          · replace h := h.1 hc
            refine g_iinc K1 (x5 + 1) 6 dX3_speaker_116 rfl rfl (by decide) rfl ?_
            refine g_goto K1 8 dX3_speaker_119 rfl ?_
            exact g_perm [2, 3, 4, 5, 6, 0] rfl (h w g K)
          · replace h := h.2 hc
            refine g_iload K1 0 dX3_speaker_109 rfl ?_
            refine g_istore K1 dX3_speaker_111 (by decide) rfl ?_
            refine g_iload K1 6 dX3_speaker_113 rfl ?_
            refine g_istore_n K1 dX3_speaker_115 rfl (by decide) rfl ?_
            refine g_iinc K1 (x5 + 1) 6 dX3_speaker_116 rfl rfl (by decide) rfl ?_
            refine g_goto K1 8 dX3_speaker_119 rfl ?_
            exact g_perm [4, 5, 6, 1, 2, 0] rfl (h w g K)
        · replace h := h.2 hn2
          by_cases hn3 : (I 81 7) = 3
          · replace h := h.1 hn3
            refine g_tabIn K1 88 dX3_speaker_36 (by rw [hn3]; decide) (by rw [hn3]; decide) (by rw [hn3]; rfl) rfl ?_
            refine g_aload_n K1 1 dX3_speaker_88 rfl ?_
            refine h_getO K1 q_clX3 3 85 lyp_81 fkX3_3 rfl fl_X3_21 dX3_speaker_89 ?_
            refine g_iload_n K1 3 dX3_speaker_92 rfl ?_
            refine g_iload K1 6 dX3_speaker_93 rfl ?_
            refine g_iadd K1 dX3_speaker_95 ?_
            obtain ⟨hg, h⟩ := h
            refine h_iaload K1 lyp_85 hg dX3_speaker_96 ?_
            refine g_istore K1 dX3_speaker_97 (by decide) rfl ?_
            refine g_goto K1 102 dX3_speaker_99 rfl ?_
            refine g_iload K1 0 dX3_speaker_102 rfl ?_
            refine g_iload K1 5 dX3_speaker_104 rfl ?_
            refine g_icmp_le K1 116 dX3_speaker_106 rfl (fun hc => ?_) (fun hc => ?_)
            · replace h := h.1 hc
              refine g_iinc K1 (x5 + 1) 6 dX3_speaker_116 rfl rfl (by decide) rfl ?_
              refine g_goto K1 8 dX3_speaker_119 rfl ?_
              exact g_perm [2, 3, 4, 5, 6, 0] rfl (h w g K)
            · replace h := h.2 hc
              refine g_iload K1 0 dX3_speaker_109 rfl ?_
              refine g_istore K1 dX3_speaker_111 (by decide) rfl ?_
              refine g_iload K1 6 dX3_speaker_113 rfl ?_
              refine g_istore_n K1 dX3_speaker_115 rfl (by decide) rfl ?_
              refine g_iinc K1 (x5 + 1) 6 dX3_speaker_116 rfl rfl (by decide) rfl ?_
              refine g_goto K1 8 dX3_speaker_119 rfl ?_
              exact g_perm [4, 5, 6, 1, 2, 0] rfl (h w g K)
          · replace h := h.2 hn3
            refine g_tabOut K1 102 dX3_speaker_36 (by have := tb_ne hn1 (n := 1) rfl; have := tb_ne hn2 (n := 2) rfl; have := tb_ne hn3 (n := 3) rfl; omega) rfl ?_
            refine g_iload K1 0 dX3_speaker_102 rfl ?_
            refine g_iload K1 5 dX3_speaker_104 rfl ?_
            refine g_icmp_le K1 116 dX3_speaker_106 rfl (fun hc => ?_) (fun hc => ?_)
            · replace h := h.1 hc
              refine g_iinc K1 (x5 + 1) 6 dX3_speaker_116 rfl rfl (by decide) rfl ?_
              refine g_goto K1 8 dX3_speaker_119 rfl ?_
              exact g_perm [2, 3, 4, 5, 6, 0] rfl (h w g K)
            · replace h := h.2 hc
              refine g_iload K1 0 dX3_speaker_109 rfl ?_
              refine g_istore K1 dX3_speaker_111 (by decide) rfl ?_
              refine g_iload K1 6 dX3_speaker_113 rfl ?_
              refine g_istore_n K1 dX3_speaker_115 rfl (by decide) rfl ?_
              refine g_iinc K1 (x5 + 1) 6 dX3_speaker_116 rfl rfl (by decide) rfl ?_
              refine g_goto K1 8 dX3_speaker_119 rfl ?_
              exact g_perm [4, 5, 6, 1, 2, 0] rfl (h w g K)
theorem c0_X3_speaker_81 {r : Option Value} {I I' : Nat → Nat → Int32} {L L' : Nat → Nat → Int64} {x1 : Int32} {x2 : Int32} (h : v_X3_speaker_81_0 r I' L' I L x1 x2) : q_C kX3_speaker [.ref 81, .int x1, .int x2] I L r I' L' := fun w l => q_ct (by decide) (Nat.le_of_ble_eq_true rfl) (Nat.le_refl _) (fun g _ K => h w g K)
abbrev v_X3_tellAlone_0 (r : Option Value) (I' : Nat → Nat → Int32) (L' : Nat → Nat → Int64) (I : Nat → Nat → Int32) (L : Nat → Nat → Int64) (x1 : Int32) (x2 : Int32) : Prop := q_W kX3_tellAlone 0 [(0, .ref 81), (1, .int x1), (2, .int x2)] [] I L r I' L'
set_option maxRecDepth 20000 in
set_option maxHeartbeats 2000000 in
theorem vc_X3_tellAlone_0 {r : Option Value} {I' : Nat → Nat → Int32} {L' : Nat → Nat → Int64} {I : Nat → Nat → Int32} {L : Nat → Nat → Int64} {x1 : Int32} {x2 : Int32} (h : (∃ I1, q_C kX3_asNow [.ref 81] I L none I1 L ∧ (r = none ∧ I' = (up2 (up2 (up2 I1 81 14 1) 81 15 x1) 81 16 x2) ∧ L' = L))) : v_X3_tellAlone_0 r I' L' I L x1 x2 := by
  intro w g K
  have K1 := K.1
  refine g_aload_n K1 0 dX3_tellAlone_0 rfl ?_
  obtain ⟨I1, hct, h⟩ := h
  refine h_callV K1 (st := []) [] (hct w (gl g)) q_clX3 lyp_81 rfl ok_X3_asNow ml_X3_64 ⟨Nat.le_of_ble_eq_true rfl, Nat.le_of_ble_eq_true rfl⟩ (Nat.le_of_ble_eq_true rfl) dX3_tellAlone_1 ?_
  show q_Gs w g 4 [(0, .ref 81), (1, .int x1), (2, .int x2)] [] (q_mm I1 L)
  refine g_aload_n K1 0 dX3_tellAlone_4 rfl ?_
  refine g_iconst K1 1 dX3_tellAlone_5 rfl ?_
  refine h_putI K1 q_clX3 14 lyp_81 fkX3_14 fl_X3_60 rfl (by decide) (by decide) dX3_tellAlone_6 ?_
  refine g_aload_n K1 0 dX3_tellAlone_9 rfl ?_
  refine g_iload_n K1 1 dX3_tellAlone_10 rfl ?_
  refine h_putI K1 q_clX3 15 lyp_81 fkX3_15 fl_X3_67 rfl rfl rfl dX3_tellAlone_11 ?_
  refine g_aload_n K1 0 dX3_tellAlone_14 rfl ?_
  refine g_iload_n K1 2 dX3_tellAlone_15 rfl ?_
  refine h_putI K1 q_clX3 16 lyp_81 fkX3_16 fl_X3_70 rfl rfl rfl dX3_tellAlone_16 ?_
  obtain ⟨hr, hI, hL⟩ := h
  subst hr hI hL
  exact g_vreturn K rfl dX3_tellAlone_19
theorem c0_X3_tellAlone {r : Option Value} {I I' : Nat → Nat → Int32} {L L' : Nat → Nat → Int64} {x1 : Int32} {x2 : Int32} (h : v_X3_tellAlone_0 r I' L' I L x1 x2) : q_C kX3_tellAlone [.ref 81, .int x1, .int x2] I L r I' L' := fun w l => q_ct (by decide) (Nat.le_of_ble_eq_true rfl) (Nat.le_refl _) (fun g _ K => h w g K)
abbrev v_X5_addAisle_0 (r : Option Value) (I' : Nat → Nat → Int32) (L' : Nat → Nat → Int64) (I : Nat → Nat → Int32) (L : Nat → Nat → Int64) (x1 : Int32) (x2 : Int32) : Prop := q_W kX5_addAisle 0 [(0, .ref 3), (1, .int x1), (2, .int x2)] [] I L r I' L'
set_option maxRecDepth 20000 in
set_option maxHeartbeats 2000000 in
theorem vc_X5_addAisle_0 {r : Option Value} {I' : Nat → Nat → Int32} {L' : Nat → Nat → Int64} {I : Nat → Nat → Int32} {L : Nat → Nat → Int64} {x1 : Int32} {x2 : Int32} (h : (vp_in x1 7 ∧ (vp_in x1 7 ∧ ∀ I1, I1 = (up2 I 7 x1.toNatClampNeg ((I 7 x1.toNatClampNeg) ||| ((1 : Int32) <<< (x2 &&& 31)))) → (vp_in x2 7 ∧ (vp_in x2 7 ∧ ∀ I2, I2 = (up2 I1 7 x2.toNatClampNeg ((I1 7 x2.toNatClampNeg) ||| ((1 : Int32) <<< (x1 &&& 31)))) → (r = none ∧ I' = (up2 I2 3 5 ((I2 3 5) + 1)) ∧ L' = L)))))) : v_X5_addAisle_0 r I' L' I L x1 x2 := by
  intro w g K
  have K1 := K.1
  refine g_aload_n K1 0 dX5_addAisle_0 rfl ?_
  refine h_getO K1 q_clX5 11 7 lyp_3 fkX5_11 rfl fl_X5_21 dX5_addAisle_1 ?_
  refine g_iload_n K1 1 dX5_addAisle_4 rfl ?_
  refine g_dup2 K1 dX5_addAisle_5 rfl rfl ?_
  obtain ⟨hg, h⟩ := h
  refine h_iaload K1 lyp_7 hg dX5_addAisle_6 ?_
  refine g_iconst K1 1 dX5_addAisle_7 rfl ?_
  refine g_iload_n K1 2 dX5_addAisle_8 rfl ?_
  refine g_ishl K1 dX5_addAisle_9 ?_
  refine g_ior K1 dX5_addAisle_10 ?_
  obtain ⟨hg, h⟩ := h
  refine h_iastore K1 lyp_7 hg dX5_addAisle_11 ?_
  refine g_nameMI (fun I1 hI1 => ?_)
  replace h := h I1 hI1
  refine g_aload_n K1 0 dX5_addAisle_12 rfl ?_
  refine h_getO K1 q_clX5 11 7 lyp_3 fkX5_11 rfl fl_X5_21 dX5_addAisle_13 ?_
  refine g_iload_n K1 2 dX5_addAisle_16 rfl ?_
  refine g_dup2 K1 dX5_addAisle_17 rfl rfl ?_
  obtain ⟨hg, h⟩ := h
  refine h_iaload K1 lyp_7 hg dX5_addAisle_18 ?_
  refine g_iconst K1 1 dX5_addAisle_19 rfl ?_
  refine g_iload_n K1 1 dX5_addAisle_20 rfl ?_
  refine g_ishl K1 dX5_addAisle_21 ?_
  refine g_ior K1 dX5_addAisle_22 ?_
  obtain ⟨hg, h⟩ := h
  refine h_iastore K1 lyp_7 hg dX5_addAisle_23 ?_
  refine g_nameMI (fun I2 hI2 => ?_)
  replace h := h I2 hI2
  refine g_aload_n K1 0 dX5_addAisle_24 rfl ?_
  refine g_dup K1 dX5_addAisle_25 rfl ?_
  refine h_getI K1 q_clX5 5 lyp_3 fkX5_5 fl_X5_52 dX5_addAisle_26 ?_
  refine g_iconst K1 1 dX5_addAisle_29 rfl ?_
  refine g_iadd K1 dX5_addAisle_30 ?_
  refine h_putI K1 q_clX5 5 lyp_3 fkX5_5 fl_X5_52 rfl rfl rfl dX5_addAisle_31 ?_
  obtain ⟨hr, hI, hL⟩ := h
  subst hr hI hL
  exact g_vreturn K rfl dX5_addAisle_34
theorem c0_X5_addAisle {r : Option Value} {I I' : Nat → Nat → Int32} {L L' : Nat → Nat → Int64} {x1 : Int32} {x2 : Int32} (h : v_X5_addAisle_0 r I' L' I L x1 x2) : q_C kX5_addAisle [.ref 3, .int x1, .int x2] I L r I' L' := fun w l => q_ct (by decide) (Nat.le_of_ble_eq_true rfl) (Nat.le_refl _) (fun g _ K => h w g K)
abbrev v_X5_addDraught_0 (r : Option Value) (I' : Nat → Nat → Int32) (L' : Nat → Nat → Int64) (I : Nat → Nat → Int32) (L : Nat → Nat → Int64) (x1 : Int32) (x2 : Int32) : Prop := q_W kX5_addDraught 0 [(0, .ref 3), (1, .int x1), (2, .int x2)] [] I L r I' L'
set_option maxRecDepth 20000 in
set_option maxHeartbeats 2000000 in
theorem vc_X5_addDraught_0 {r : Option Value} {I' : Nat → Nat → Int32} {L' : Nat → Nat → Int64} {I : Nat → Nat → Int32} {L : Nat → Nat → Int64} {x1 : Int32} {x2 : Int32} (h : (vp_in (I 3 7) 6 ∧ (vp_in ((up2 I 10 ((I 3 7) : Int32).toNatClampNeg x1) 3 7) 6 ∧ ∀ I1, I1 = (up2 (up2 I 10 ((I 3 7) : Int32).toNatClampNeg x1) 11 (((up2 I 10 ((I 3 7) : Int32).toNatClampNeg x1) 3 7) : Int32).toNatClampNeg x2) → (r = none ∧ I' = (up2 I1 3 7 ((I1 3 7) + 1)) ∧ L' = L)))) : v_X5_addDraught_0 r I' L' I L x1 x2 := by
  intro w g K
  have K1 := K.1
  refine g_aload_n K1 0 dX5_addDraught_0 rfl ?_
  refine h_getO K1 q_clX5 14 10 lyp_3 fkX5_14 rfl fl_X5_30 dX5_addDraught_1 ?_
  refine g_aload_n K1 0 dX5_addDraught_4 rfl ?_
  refine h_getI K1 q_clX5 7 lyp_3 fkX5_7 fl_X5_58 dX5_addDraught_5 ?_
  refine g_iload_n K1 1 dX5_addDraught_8 rfl ?_
  obtain ⟨hg, h⟩ := h
  refine h_iastore K1 lyp_10 hg dX5_addDraught_9 ?_
  refine g_aload_n K1 0 dX5_addDraught_10 rfl ?_
  refine h_getO K1 q_clX5 15 11 lyp_3 fkX5_15 rfl fl_X5_33 dX5_addDraught_11 ?_
  refine g_aload_n K1 0 dX5_addDraught_14 rfl ?_
  refine h_getI K1 q_clX5 7 lyp_3 fkX5_7 fl_X5_58 dX5_addDraught_15 ?_
  refine g_iload_n K1 2 dX5_addDraught_18 rfl ?_
  obtain ⟨hg, h⟩ := h
  refine h_iastore K1 lyp_11 hg dX5_addDraught_19 ?_
  refine g_nameMI (fun I1 hI1 => ?_)
  replace h := h I1 hI1
  refine g_aload_n K1 0 dX5_addDraught_20 rfl ?_
  refine g_dup K1 dX5_addDraught_21 rfl ?_
  refine h_getI K1 q_clX5 7 lyp_3 fkX5_7 fl_X5_58 dX5_addDraught_22 ?_
  refine g_iconst K1 1 dX5_addDraught_25 rfl ?_
  refine g_iadd K1 dX5_addDraught_26 ?_
  refine h_putI K1 q_clX5 7 lyp_3 fkX5_7 fl_X5_58 rfl rfl rfl dX5_addDraught_27 ?_
  obtain ⟨hr, hI, hL⟩ := h
  subst hr hI hL
  exact g_vreturn K rfl dX5_addDraught_30
theorem c0_X5_addDraught {r : Option Value} {I I' : Nat → Nat → Int32} {L L' : Nat → Nat → Int64} {x1 : Int32} {x2 : Int32} (h : v_X5_addDraught_0 r I' L' I L x1 x2) : q_C kX5_addDraught [.ref 3, .int x1, .int x2] I L r I' L' := fun w l => q_ct (by decide) (Nat.le_of_ble_eq_true rfl) (Nat.le_refl _) (fun g _ K => h w g K)
abbrev v_X5_addLight_0 (r : Option Value) (I' : Nat → Nat → Int32) (L' : Nat → Nat → Int64) (I : Nat → Nat → Int32) (L : Nat → Nat → Int64) (x1 : Int32) (x2 : Int32) : Prop := q_W kX5_addLight 0 [(0, .ref 3), (1, .int x1), (2, .int x2)] [] I L r I' L'
set_option maxRecDepth 20000 in
set_option maxHeartbeats 2000000 in
theorem vc_X5_addLight_0 {r : Option Value} {I' : Nat → Nat → Int32} {L' : Nat → Nat → Int64} {I : Nat → Nat → Int32} {L : Nat → Nat → Int64} {x1 : Int32} {x2 : Int32} (h : (vp_in (I 3 6) 4 ∧ (vp_in ((up2 I 8 ((I 3 6) : Int32).toNatClampNeg x1) 3 6) 4 ∧ ∀ I1, I1 = (up2 (up2 I 8 ((I 3 6) : Int32).toNatClampNeg x1) 9 (((up2 I 8 ((I 3 6) : Int32).toNatClampNeg x1) 3 6) : Int32).toNatClampNeg x2) → (r = none ∧ I' = (up2 I1 3 6 ((I1 3 6) + 1)) ∧ L' = L)))) : v_X5_addLight_0 r I' L' I L x1 x2 := by
  intro w g K
  have K1 := K.1
  refine g_aload_n K1 0 dX5_addLight_0 rfl ?_
  refine h_getO K1 q_clX5 12 8 lyp_3 fkX5_12 rfl fl_X5_24 dX5_addLight_1 ?_
  refine g_aload_n K1 0 dX5_addLight_4 rfl ?_
  refine h_getI K1 q_clX5 6 lyp_3 fkX5_6 fl_X5_55 dX5_addLight_5 ?_
  refine g_iload_n K1 1 dX5_addLight_8 rfl ?_
  obtain ⟨hg, h⟩ := h
  refine h_iastore K1 lyp_8 hg dX5_addLight_9 ?_
  refine g_aload_n K1 0 dX5_addLight_10 rfl ?_
  refine h_getO K1 q_clX5 13 9 lyp_3 fkX5_13 rfl fl_X5_27 dX5_addLight_11 ?_
  refine g_aload_n K1 0 dX5_addLight_14 rfl ?_
  refine h_getI K1 q_clX5 6 lyp_3 fkX5_6 fl_X5_55 dX5_addLight_15 ?_
  refine g_iload_n K1 2 dX5_addLight_18 rfl ?_
  obtain ⟨hg, h⟩ := h
  refine h_iastore K1 lyp_9 hg dX5_addLight_19 ?_
  refine g_nameMI (fun I1 hI1 => ?_)
  replace h := h I1 hI1
  refine g_aload_n K1 0 dX5_addLight_20 rfl ?_
  refine g_dup K1 dX5_addLight_21 rfl ?_
  refine h_getI K1 q_clX5 6 lyp_3 fkX5_6 fl_X5_55 dX5_addLight_22 ?_
  refine g_iconst K1 1 dX5_addLight_25 rfl ?_
  refine g_iadd K1 dX5_addLight_26 ?_
  refine h_putI K1 q_clX5 6 lyp_3 fkX5_6 fl_X5_55 rfl rfl rfl dX5_addLight_27 ?_
  obtain ⟨hr, hI, hL⟩ := h
  subst hr hI hL
  exact g_vreturn K rfl dX5_addLight_30
theorem c0_X5_addLight {r : Option Value} {I I' : Nat → Nat → Int32} {L L' : Nat → Nat → Int64} {x1 : Int32} {x2 : Int32} (h : v_X5_addLight_0 r I' L' I L x1 x2) : q_C kX5_addLight [.ref 3, .int x1, .int x2] I L r I' L' := fun w l => q_ct (by decide) (Nat.le_of_ble_eq_true rfl) (Nat.le_refl _) (fun g _ K => h w g K)
abbrev v_X5_addPew_0 (r : Option Value) (I' : Nat → Nat → Int32) (L' : Nat → Nat → Int64) (I : Nat → Nat → Int32) (L : Nat → Nat → Int64) (x1 : Int32) (x2 : Int32) (x3 : Int32) : Prop := q_W kX5_addPew 0 [(0, .ref 3), (1, .int x1), (2, .int x2), (3, .int x3)] [] I L r I' L'
set_option maxRecDepth 20000 in
set_option maxHeartbeats 2000000 in
theorem vc_X5_addPew_0 {r : Option Value} {I' : Nat → Nat → Int32} {L' : Nat → Nat → Int64} {I : Nat → Nat → Int32} {L : Nat → Nat → Int64} {x1 : Int32} {x2 : Int32} {x3 : Int32} (h : (vp_in (I 3 4) 7 ∧ (∃ I1, q_C kX5_setRule [.ref 3, .int ((up2 I 7 ((I 3 4) : Int32).toNatClampNeg 0) 3 4), .int x1, .int x2, .int x3] (up2 I 7 ((I 3 4) : Int32).toNatClampNeg 0) L none I1 L ∧ (r = none ∧ I' = (up2 I1 3 4 ((I1 3 4) + 1)) ∧ L' = L)))) : v_X5_addPew_0 r I' L' I L x1 x2 x3 := by
  intro w g K
  have K1 := K.1
  refine g_aload_n K1 0 dX5_addPew_0 rfl ?_
  refine h_getO K1 q_clX5 11 7 lyp_3 fkX5_11 rfl fl_X5_21 dX5_addPew_1 ?_
  refine g_aload_n K1 0 dX5_addPew_4 rfl ?_
  refine h_getI K1 q_clX5 4 lyp_3 fkX5_4 fl_X5_49 dX5_addPew_5 ?_
  refine g_iconst K1 0 dX5_addPew_8 rfl ?_
  obtain ⟨hg, h⟩ := h
  refine h_iastore K1 lyp_7 hg dX5_addPew_9 ?_
  refine g_aload_n K1 0 dX5_addPew_10 rfl ?_
  refine g_aload_n K1 0 dX5_addPew_11 rfl ?_
  refine h_getI K1 q_clX5 4 lyp_3 fkX5_4 fl_X5_49 dX5_addPew_12 ?_
  refine g_iload_n K1 1 dX5_addPew_15 rfl ?_
  refine g_iload_n K1 2 dX5_addPew_16 rfl ?_
  refine g_iload_n K1 3 dX5_addPew_17 rfl ?_
  obtain ⟨I1, hct, h⟩ := h
  refine h_callV K1 (st := []) [.int ((up2 I 7 ((I 3 4) : Int32).toNatClampNeg 0) 3 4), .int x1, .int x2, .int x3] (hct w (gl g)) q_clX5 lyp_3 rfl ok_X5_setRule ml_X5_67 ⟨Nat.le_of_ble_eq_true rfl, Nat.le_of_ble_eq_true rfl⟩ (Nat.le_of_ble_eq_true rfl) dX5_addPew_18 ?_
  show q_Gs w g 21 [(0, .ref 3), (1, .int x1), (2, .int x2), (3, .int x3)] [] (q_mm I1 L)
  refine g_aload_n K1 0 dX5_addPew_21 rfl ?_
  refine g_dup K1 dX5_addPew_22 rfl ?_
  refine h_getI K1 q_clX5 4 lyp_3 fkX5_4 fl_X5_49 dX5_addPew_23 ?_
  refine g_iconst K1 1 dX5_addPew_26 rfl ?_
  refine g_iadd K1 dX5_addPew_27 ?_
  refine h_putI K1 q_clX5 4 lyp_3 fkX5_4 fl_X5_49 rfl rfl rfl dX5_addPew_28 ?_
  obtain ⟨hr, hI, hL⟩ := h
  subst hr hI hL
  exact g_vreturn K rfl dX5_addPew_31
theorem c0_X5_addPew {r : Option Value} {I I' : Nat → Nat → Int32} {L L' : Nat → Nat → Int64} {x1 : Int32} {x2 : Int32} {x3 : Int32} (h : v_X5_addPew_0 r I' L' I L x1 x2 x3) : q_C kX5_addPew [.ref 3, .int x1, .int x2, .int x3] I L r I' L' := fun w l => q_ct (by decide) (Nat.le_of_ble_eq_true rfl) (Nat.le_refl _) (fun g _ K => h w g K)
abbrev v_X5_allPews_0 (r : Option Value) (I' : Nat → Nat → Int32) (L' : Nat → Nat → Int64) (I : Nat → Nat → Int32) (L : Nat → Nat → Int64)  : Prop := q_W kX5_allPews 0 [(0, .ref 12)] [] I L r I' L'
set_option maxRecDepth 20000 in
set_option maxHeartbeats 2000000 in
theorem vc_X5_allPews_0 {r : Option Value} {I' : Nat → Nat → Int32} {L' : Nat → Nat → Int64} {I : Nat → Nat → Int32} {L : Nat → Nat → Int64}  (h : (r = some (.int (((1 : Int32) <<< ((I 12 4) &&& 31)) - 1)) ∧ I' = I ∧ L' = L)) : v_X5_allPews_0 r I' L' I L  := by
  intro w g K
  have K1 := K.1
  refine g_iconst K1 1 dX5_allPews_0 rfl ?_
  refine g_aload_n K1 0 dX5_allPews_1 rfl ?_
  refine h_getI K1 q_clX5 4 lyp_12 fkX5_4 fl_X5_49 dX5_allPews_2 ?_
  refine g_ishl K1 dX5_allPews_5 ?_
  refine g_iconst K1 1 dX5_allPews_6 rfl ?_
  refine g_isub K1 dX5_allPews_7 ?_
  obtain ⟨hr, hI, hL⟩ := h
  subst hr hI hL
  exact g_ireturn K rfl dX5_allPews_8
theorem c0_X5_allPews {r : Option Value} {I I' : Nat → Nat → Int32} {L L' : Nat → Nat → Int64}  (h : v_X5_allPews_0 r I' L' I L ) : q_C kX5_allPews [.ref 12] I L r I' L' := fun w l => q_ct (by decide) (Nat.le_of_ble_eq_true rfl) (Nat.le_refl _) (fun g _ K => h w g K)
abbrev v_X5_clear_0 (r : Option Value) (I' : Nat → Nat → Int32) (L' : Nat → Nat → Int64) (I : Nat → Nat → Int32) (L : Nat → Nat → Int64)  : Prop := q_W kX5_clear 0 [(0, .ref 3)] [] I L r I' L'
set_option maxRecDepth 20000 in
set_option maxHeartbeats 2000000 in
theorem vc_X5_clear_0 {r : Option Value} {I' : Nat → Nat → Int32} {L' : Nat → Nat → Int64} {I : Nat → Nat → Int32} {L : Nat → Nat → Int64}  (h : ∀ I1, I1 = (up2 (up2 (up2 (up2 (up2 (up2 I 3 0 0) 3 1 0) 3 2 0) 3 3 0) 3 4 0) 3 5 0) → (r = none ∧ I' = (up2 (up2 I1 3 6 0) 3 7 0) ∧ L' = L)) : v_X5_clear_0 r I' L' I L  := by
  intro w g K
  have K1 := K.1
  refine g_aload_n K1 0 dX5_clear_0 rfl ?_
  refine g_iconst K1 0 dX5_clear_1 rfl ?_
  refine h_putI K1 q_clX5 0 lyp_3 fkX5_0 fl_X5_36 rfl rfl rfl dX5_clear_2 ?_
  refine g_aload_n K1 0 dX5_clear_5 rfl ?_
  refine g_iconst K1 0 dX5_clear_6 rfl ?_
  refine h_putI K1 q_clX5 1 lyp_3 fkX5_1 fl_X5_40 rfl rfl rfl dX5_clear_7 ?_
  refine g_aload_n K1 0 dX5_clear_10 rfl ?_
  refine g_iconst K1 0 dX5_clear_11 rfl ?_
  refine h_putI K1 q_clX5 2 lyp_3 fkX5_2 fl_X5_43 rfl rfl rfl dX5_clear_12 ?_
  refine g_aload_n K1 0 dX5_clear_15 rfl ?_
  refine g_iconst K1 0 dX5_clear_16 rfl ?_
  refine h_putI K1 q_clX5 3 lyp_3 fkX5_3 fl_X5_46 rfl rfl rfl dX5_clear_17 ?_
  refine g_aload_n K1 0 dX5_clear_20 rfl ?_
  refine g_iconst K1 0 dX5_clear_21 rfl ?_
  refine h_putI K1 q_clX5 4 lyp_3 fkX5_4 fl_X5_49 rfl rfl rfl dX5_clear_22 ?_
  refine g_aload_n K1 0 dX5_clear_25 rfl ?_
  refine g_iconst K1 0 dX5_clear_26 rfl ?_
  refine h_putI K1 q_clX5 5 lyp_3 fkX5_5 fl_X5_52 rfl rfl rfl dX5_clear_27 ?_
  refine g_nameMI (fun I1 hI1 => ?_)
  replace h := h I1 hI1
  refine g_aload_n K1 0 dX5_clear_30 rfl ?_
  refine g_iconst K1 0 dX5_clear_31 rfl ?_
  refine h_putI K1 q_clX5 6 lyp_3 fkX5_6 fl_X5_55 rfl rfl rfl dX5_clear_32 ?_
  refine g_aload_n K1 0 dX5_clear_35 rfl ?_
  refine g_iconst K1 0 dX5_clear_36 rfl ?_
  refine h_putI K1 q_clX5 7 lyp_3 fkX5_7 fl_X5_58 rfl rfl rfl dX5_clear_37 ?_
  obtain ⟨hr, hI, hL⟩ := h
  subst hr hI hL
  exact g_vreturn K rfl dX5_clear_40
theorem c0_X5_clear {r : Option Value} {I I' : Nat → Nat → Int32} {L L' : Nat → Nat → Int64}  (h : v_X5_clear_0 r I' L' I L ) : q_C kX5_clear [.ref 3] I L r I' L' := fun w l => q_ct (by decide) (Nat.le_of_ble_eq_true rfl) (Nat.le_refl _) (fun g _ K => h w g K)
abbrev v_X5_heardBy_0 (r : Option Value) (I' : Nat → Nat → Int32) (L' : Nat → Nat → Int64) (I : Nat → Nat → Int32) (L : Nat → Nat → Int64) (x1 : Int32) (x2 : Int32) : Prop := q_W kX5_heardBy 0 [(0, .ref 12), (1, .int x1), (2, .int x2)] [] I L r I' L'
set_option maxRecDepth 20000 in
set_option maxHeartbeats 2000000 in
theorem vc_X5_heardBy_0 {r : Option Value} {I' : Nat → Nat → Int32} {L' : Nat → Nat → Int64} {I : Nat → Nat → Int32} {L : Nat → Nat → Int64} {x1 : Int32} {x2 : Int32} (h : (∃ r1, q_C kX7_size [.int x2] I L (some (.int r1)) I L ∧ ((r1 = 0 → (r = some (.int 0) ∧ I' = I ∧ L' = L)) ∧ (¬ r1 = 0 → (vp_in x1 7 ∧ (((I 13 x1.toNatClampNeg) = 1 → (∃ r2, q_C kX7_reversed [.int x2] I L (some (.int r2)) I L ∧ (r = some (.int r2) ∧ I' = I ∧ L' = L))) ∧ (¬ (I 13 x1.toNatClampNeg) = 1 → (((I 13 x1.toNatClampNeg) = 2 → (∃ r3, q_C kX7_with [.int x2, .int (r1 - 1), .int 0] I L (some (.int r3)) I L ∧ (r = some (.int r3) ∧ I' = I ∧ L' = L))) ∧ (¬ (I 13 x1.toNatClampNeg) = 2 → (((I 13 x1.toNatClampNeg) = 3 → ((r1 = 6 → (r = some (.int x2) ∧ I' = I ∧ L' = L)) ∧ (¬ r1 = 6 → (vp_in x1 7 ∧ (∃ r4, q_C kX7_with [.int x2, .int r1, .int (I 14 x1.toNatClampNeg)] I L (some (.int r4)) I L ∧ (r = some (.int r4) ∧ I' = I ∧ L' = L)))))) ∧ (¬ (I 13 x1.toNatClampNeg) = 3 → (((I 13 x1.toNatClampNeg) = 4 → (vp_in x1 7 ∧ (vp_in x1 7 ∧ (∃ r5, q_C kX7_replaced [.int x2, .int (I 14 x1.toNatClampNeg), .int (I 15 x1.toNatClampNeg)] I L (some (.int r5)) I L ∧ (r = some (.int r5) ∧ I' = I ∧ L' = L))))) ∧ (¬ (I 13 x1.toNatClampNeg) = 4 → (r = some (.int x2) ∧ I' = I ∧ L' = L)))))))))))))) : v_X5_heardBy_0 r I' L' I L x1 x2 := by
  intro w g K
  have K1 := K.1
  refine g_iload_n K1 2 dX5_heardBy_0 rfl ?_
  obtain ⟨r1, hct, h⟩ := h
  refine h_callS K1 (st := []) [.int x2] (hct w (gl g)) ok_X7_size ml_X5_71 ⟨Nat.le_of_ble_eq_true rfl, Nat.le_of_ble_eq_true rfl⟩ (Nat.le_of_ble_eq_true rfl) dX5_heardBy_1 ?_
  show q_Gs w g 4 [(0, .ref 12), (1, .int x1), (2, .int x2)] [.int r1] (q_mm I L)
  refine g_istore_n K1 dX5_heardBy_4 rfl (by decide) rfl ?_
  refine g_iload_n K1 0 dX5_heardBy_5 rfl ?_
  refine g_if_ne K1 11 dX5_heardBy_6 rfl (fun hc => ?_) (fun hc => ?_)
  · replace h := h.2 hc
    refine g_aload_n K1 1 dX5_heardBy_11 rfl ?_
    refine h_getO K1 q_clX5 8 13 lyp_12 fkX5_8 rfl fl_X5_9 dX5_heardBy_12 ?_
    refine g_iload_n K1 2 dX5_heardBy_15 rfl ?_
    obtain ⟨hg, h⟩ := h
    refine h_iaload K1 lyp_13 hg dX5_heardBy_16 ?_
    by_cases hn1 : (I 13 x1.toNatClampNeg) = 1
    · replace h := h.1 hn1
      refine g_tabIn K1 48 dX5_heardBy_17 (by rw [hn1]; decide) (by rw [hn1]; decide) (by rw [hn1]; rfl) rfl ?_
      refine g_iload_n K1 3 dX5_heardBy_48 rfl ?_
      obtain ⟨r2, hct, h⟩ := h
      refine h_callS K1 (st := []) [.int x2] (hct w (gl g)) ok_X7_reversed ml_X5_77 ⟨Nat.le_of_ble_eq_true rfl, Nat.le_of_ble_eq_true rfl⟩ (Nat.le_of_ble_eq_true rfl) dX5_heardBy_49 ?_
      show q_Gs w g 52 [(3, .int r1), (0, .ref 12), (1, .int x1), (2, .int x2)] [.int r2] (q_mm I L)
      obtain ⟨hr, hI, hL⟩ := h
      subst hr hI hL
      exact g_ireturn K rfl dX5_heardBy_52
    · replace h := h.2 hn1
      by_cases hn2 : (I 13 x1.toNatClampNeg) = 2
      · replace h := h.1 hn2
        refine g_tabIn K1 53 dX5_heardBy_17 (by rw [hn2]; decide) (by rw [hn2]; decide) (by rw [hn2]; rfl) rfl ?_
        refine g_iload_n K1 3 dX5_heardBy_53 rfl ?_
        refine g_iload_n K1 0 dX5_heardBy_54 rfl ?_
        refine g_iconst K1 1 dX5_heardBy_55 rfl ?_
        refine g_isub K1 dX5_heardBy_56 ?_
        refine g_iconst K1 0 dX5_heardBy_57 rfl ?_
        obtain ⟨r3, hct, h⟩ := h
        refine h_callS K1 (st := []) [.int x2, .int (r1 - 1), .int 0] (hct w (gl g)) ok_X7_with ml_X5_80 ⟨Nat.le_of_ble_eq_true rfl, Nat.le_of_ble_eq_true rfl⟩ (Nat.le_of_ble_eq_true rfl) dX5_heardBy_58 ?_
        show q_Gs w g 61 [(3, .int r1), (0, .ref 12), (1, .int x1), (2, .int x2)] [.int r3] (q_mm I L)
        obtain ⟨hr, hI, hL⟩ := h
        subst hr hI hL
        exact g_ireturn K rfl dX5_heardBy_61
      · replace h := h.2 hn2
        by_cases hn3 : (I 13 x1.toNatClampNeg) = 3
        · replace h := h.1 hn3
          refine g_tabIn K1 62 dX5_heardBy_17 (by rw [hn3]; decide) (by rw [hn3]; decide) (by rw [hn3]; rfl) rfl ?_
          refine g_iload_n K1 0 dX5_heardBy_62 rfl ?_
          refine g_bipush K1 6 dX5_heardBy_63 rfl ?_
          refine g_icmp_ne K1 72 dX5_heardBy_65 rfl (fun hc => ?_) (fun hc => ?_)
          · replace h := h.2 hc
            refine g_iload_n K1 3 dX5_heardBy_72 rfl ?_
            refine g_iload_n K1 0 dX5_heardBy_73 rfl ?_
            refine g_aload_n K1 1 dX5_heardBy_74 rfl ?_
            refine h_getO K1 q_clX5 9 14 lyp_12 fkX5_9 rfl fl_X5_15 dX5_heardBy_75 ?_
            refine g_iload_n K1 2 dX5_heardBy_78 rfl ?_
            obtain ⟨hg, h⟩ := h
            refine h_iaload K1 lyp_14 hg dX5_heardBy_79 ?_
            obtain ⟨r4, hct, h⟩ := h
            refine h_callS K1 (st := []) [.int x2, .int r1, .int (I 14 x1.toNatClampNeg)] (hct w (gl g)) ok_X7_with ml_X5_80 ⟨Nat.le_of_ble_eq_true rfl, Nat.le_of_ble_eq_true rfl⟩ (Nat.le_of_ble_eq_true rfl) dX5_heardBy_80 ?_
            show q_Gs w g 83 [(3, .int r1), (0, .ref 12), (1, .int x1), (2, .int x2)] [.int r4] (q_mm I L)
            obtain ⟨hr, hI, hL⟩ := h
            subst hr hI hL
            exact g_ireturn K rfl dX5_heardBy_83
          · replace h := h.1 hc
            refine g_iload_n K1 3 dX5_heardBy_68 rfl ?_
            refine g_goto K1 83 dX5_heardBy_69 rfl ?_
            obtain ⟨hr, hI, hL⟩ := h
            subst hr hI hL
            exact g_ireturn K rfl dX5_heardBy_83
        · replace h := h.2 hn3
          by_cases hn4 : (I 13 x1.toNatClampNeg) = 4
          · replace h := h.1 hn4
            refine g_tabIn K1 84 dX5_heardBy_17 (by rw [hn4]; decide) (by rw [hn4]; decide) (by rw [hn4]; rfl) rfl ?_
            refine g_iload_n K1 3 dX5_heardBy_84 rfl ?_
            refine g_aload_n K1 1 dX5_heardBy_85 rfl ?_
            refine h_getO K1 q_clX5 9 14 lyp_12 fkX5_9 rfl fl_X5_15 dX5_heardBy_86 ?_
            refine g_iload_n K1 2 dX5_heardBy_89 rfl ?_
            obtain ⟨hg, h⟩ := h
            refine h_iaload K1 lyp_14 hg dX5_heardBy_90 ?_
            refine g_aload_n K1 1 dX5_heardBy_91 rfl ?_
            refine h_getO K1 q_clX5 10 15 lyp_12 fkX5_10 rfl fl_X5_18 dX5_heardBy_92 ?_
            refine g_iload_n K1 2 dX5_heardBy_95 rfl ?_
            obtain ⟨hg, h⟩ := h
            refine h_iaload K1 lyp_15 hg dX5_heardBy_96 ?_
            obtain ⟨r5, hct, h⟩ := h
            refine h_callS K1 (st := []) [.int x2, .int (I 14 x1.toNatClampNeg), .int (I 15 x1.toNatClampNeg)] (hct w (gl g)) ok_X7_replaced ml_X5_84 ⟨Nat.le_of_ble_eq_true rfl, Nat.le_of_ble_eq_true rfl⟩ (Nat.le_of_ble_eq_true rfl) dX5_heardBy_97 ?_
            show q_Gs w g 100 [(3, .int r1), (0, .ref 12), (1, .int x1), (2, .int x2)] [.int r5] (q_mm I L)
            obtain ⟨hr, hI, hL⟩ := h
            subst hr hI hL
            exact g_ireturn K rfl dX5_heardBy_100
          · replace h := h.2 hn4
            refine g_tabOut K1 101 dX5_heardBy_17 (by have := tb_ne hn1 (n := 1) rfl; have := tb_ne hn2 (n := 2) rfl; have := tb_ne hn3 (n := 3) rfl; have := tb_ne hn4 (n := 4) rfl; omega) rfl ?_
            refine g_iload_n K1 3 dX5_heardBy_101 rfl ?_
            obtain ⟨hr, hI, hL⟩ := h
            subst hr hI hL
            exact g_ireturn K rfl dX5_heardBy_102
  · replace h := h.1 hc
    refine g_iconst K1 0 dX5_heardBy_9 rfl ?_
    obtain ⟨hr, hI, hL⟩ := h
    subst hr hI hL
    exact g_ireturn K rfl dX5_heardBy_10
theorem c0_X5_heardBy {r : Option Value} {I I' : Nat → Nat → Int32} {L L' : Nat → Nat → Int64} {x1 : Int32} {x2 : Int32} (h : v_X5_heardBy_0 r I' L' I L x1 x2) : q_C kX5_heardBy [.ref 12, .int x1, .int x2] I L r I' L' := fun w l => q_ct (by decide) (Nat.le_of_ble_eq_true rfl) (Nat.le_refl _) (fun g _ K => h w g K)
abbrev v_X5_nearAny_0 (r : Option Value) (I' : Nat → Nat → Int32) (L' : Nat → Nat → Int64) (I : Nat → Nat → Int32) (L : Nat → Nat → Int64) (x1 : Int32) : Prop := q_W kX5_nearAny 0 [(0, .ref 12), (1, .int x1)] [] I L r I' L'
abbrev v_X5_nearAny_4 (r : Option Value) (I' : Nat → Nat → Int32) (L' : Nat → Nat → Int64) (I : Nat → Nat → Int32) (L : Nat → Nat → Int64) (x1 : Int32) (x2 : Int32) (x3 : Int32) : Prop := q_W kX5_nearAny 4 [(0, .ref 12), (1, .int x1), (2, .int x2), (3, .int x3)] [] I L r I' L'
set_option maxRecDepth 20000 in
set_option maxHeartbeats 2000000 in
theorem vc_X5_nearAny_0 {r : Option Value} {I' : Nat → Nat → Int32} {L' : Nat → Nat → Int64} {I : Nat → Nat → Int32} {L : Nat → Nat → Int64} {x1 : Int32} (h : (v_X5_nearAny_4 r I' L' I L x1 0 0)) : v_X5_nearAny_0 r I' L' I L x1 := by
  intro w g K
  have K1 := K.1
  refine g_iconst K1 0 dX5_nearAny_0 rfl ?_
  refine g_istore_n K1 dX5_nearAny_1 rfl (by decide) rfl ?_
  refine g_iconst K1 0 dX5_nearAny_2 rfl ?_
  refine g_istore_n K1 dX5_nearAny_3 rfl (by decide) rfl ?_
  exact g_perm [2, 3, 1, 0] rfl (h w g K)
set_option maxRecDepth 20000 in
set_option maxHeartbeats 2000000 in
theorem vc_X5_nearAny_4 {r : Option Value} {I' : Nat → Nat → Int32} {L' : Nat → Nat → Int64} {I : Nat → Nat → Int32} {L : Nat → Nat → Int64} {x1 : Int32} {x2 : Int32} {x3 : Int32} (h : (((I 12 4) ≤ x3 → (r = some (.int x2) ∧ I' = I ∧ L' = L)) ∧ (¬ (I 12 4) ≤ x3 → ((((x1 >>> (x3 &&& 31)) &&& 1) = 0 → (v_X5_nearAny_4 r I' L' I L x1 x2 (x3 + 1))) ∧ (¬ ((x1 >>> (x3 &&& 31)) &&& 1) = 0 → (vp_in x3 7 ∧ (v_X5_nearAny_4 r I' L' I L x1 (x2 ||| (I 16 x3.toNatClampNeg)) (x3 + 1)))))))) : v_X5_nearAny_4 r I' L' I L x1 x2 x3 := by
  intro w g K
  have K1 := K.1
  refine g_iload_n K1 3 dX5_nearAny_4 rfl ?_
  refine g_aload_n K1 0 dX5_nearAny_5 rfl ?_
  refine h_getI K1 q_clX5 4 lyp_12 fkX5_4 fl_X5_49 dX5_nearAny_6 ?_
  refine g_icmp_ge K1 35 dX5_nearAny_9 rfl (fun hc => ?_) (fun hc => ?_)
  · replace h := h.1 hc
    refine g_iload_n K1 2 dX5_nearAny_35 rfl ?_
    obtain ⟨hr, hI, hL⟩ := h
    subst hr hI hL
    exact g_ireturn K rfl dX5_nearAny_36
  · replace h := h.2 hc
    refine g_iload_n K1 1 dX5_nearAny_12 rfl ?_
    refine g_iload_n K1 3 dX5_nearAny_13 rfl ?_
    refine g_ishr K1 dX5_nearAny_14 ?_
    refine g_iconst K1 1 dX5_nearAny_15 rfl ?_
    refine g_iand K1 dX5_nearAny_16 ?_
    refine g_if_eq K1 29 dX5_nearAny_17 rfl (fun hc => ?_) (fun hc => ?_)
    · replace h := h.1 hc
      refine g_iinc K1 (x3 + 1) 3 dX5_nearAny_29 rfl rfl (by decide) rfl ?_
      refine g_goto K1 4 dX5_nearAny_32 rfl ?_
      exact g_perm [1, 2, 3, 0] rfl (h w g K)
    · replace h := h.2 hc
      refine g_iload_n K1 2 dX5_nearAny_20 rfl ?_
      refine g_aload_n K1 0 dX5_nearAny_21 rfl ?_
      refine h_getO K1 q_clX5 11 16 lyp_12 fkX5_11 rfl fl_X5_21 dX5_nearAny_22 ?_
      refine g_iload_n K1 3 dX5_nearAny_25 rfl ?_
      obtain ⟨hg, h⟩ := h
      refine h_iaload K1 lyp_16 hg dX5_nearAny_26 ?_
      refine g_ior K1 dX5_nearAny_27 ?_
      refine g_istore_n K1 dX5_nearAny_28 rfl (by decide) rfl ?_
      refine g_iinc K1 (x3 + 1) 3 dX5_nearAny_29 rfl rfl (by decide) rfl ?_
      refine g_goto K1 4 dX5_nearAny_32 rfl ?_
      exact g_perm [2, 3, 1, 0] rfl (h w g K)
theorem c0_X5_nearAny {r : Option Value} {I I' : Nat → Nat → Int32} {L L' : Nat → Nat → Int64} {x1 : Int32} (h : v_X5_nearAny_0 r I' L' I L x1) : q_C kX5_nearAny [.ref 12, .int x1] I L r I' L' := fun w l => q_ct (by decide) (Nat.le_of_ble_eq_true rfl) (Nat.le_refl _) (fun g _ K => h w g K)
abbrev v_X5_setRule_12_0 (r : Option Value) (I' : Nat → Nat → Int32) (L' : Nat → Nat → Int64) (I : Nat → Nat → Int32) (L : Nat → Nat → Int64) (x1 : Int32) (x2 : Int32) (x3 : Int32) (x4 : Int32) : Prop := q_W kX5_setRule 0 [(0, .ref 12), (1, .int x1), (2, .int x2), (3, .int x3), (4, .int x4)] [] I L r I' L'
set_option maxRecDepth 20000 in
set_option maxHeartbeats 2000000 in
theorem vc_X5_setRule_12_0 {r : Option Value} {I' : Nat → Nat → Int32} {L' : Nat → Nat → Int64} {I : Nat → Nat → Int32} {L : Nat → Nat → Int64} {x1 : Int32} {x2 : Int32} {x3 : Int32} {x4 : Int32} (h : (vp_in x1 7 ∧ (vp_in x1 7 ∧ (vp_in x1 7 ∧ ∀ I1, I1 = (up2 (up2 (up2 I 13 x1.toNatClampNeg x2) 14 x1.toNatClampNeg x3) 15 x1.toNatClampNeg x4) → (r = none ∧ I' = I1 ∧ L' = L))))) : v_X5_setRule_12_0 r I' L' I L x1 x2 x3 x4 := by
  intro w g K
  have K1 := K.1
  refine g_aload_n K1 0 dX5_setRule_0 rfl ?_
  refine h_getO K1 q_clX5 8 13 lyp_12 fkX5_8 rfl fl_X5_9 dX5_setRule_1 ?_
  refine g_iload_n K1 1 dX5_setRule_4 rfl ?_
  refine g_iload_n K1 2 dX5_setRule_5 rfl ?_
  obtain ⟨hg, h⟩ := h
  refine h_iastore K1 lyp_13 hg dX5_setRule_6 ?_
  refine g_aload_n K1 0 dX5_setRule_7 rfl ?_
  refine h_getO K1 q_clX5 9 14 lyp_12 fkX5_9 rfl fl_X5_15 dX5_setRule_8 ?_
  refine g_iload_n K1 1 dX5_setRule_11 rfl ?_
  refine g_iload_n K1 3 dX5_setRule_12 rfl ?_
  obtain ⟨hg, h⟩ := h
  refine h_iastore K1 lyp_14 hg dX5_setRule_13 ?_
  refine g_aload_n K1 0 dX5_setRule_14 rfl ?_
  refine h_getO K1 q_clX5 10 15 lyp_12 fkX5_10 rfl fl_X5_18 dX5_setRule_15 ?_
  refine g_iload_n K1 1 dX5_setRule_18 rfl ?_
  refine g_iload K1 4 dX5_setRule_19 rfl ?_
  obtain ⟨hg, h⟩ := h
  refine h_iastore K1 lyp_15 hg dX5_setRule_21 ?_
  refine g_nameMI (fun I1 hI1 => ?_)
  replace h := h I1 hI1
  obtain ⟨hr, hI, hL⟩ := h
  subst hr hI hL
  exact g_vreturn K rfl dX5_setRule_22
theorem c0_X5_setRule_12 {r : Option Value} {I I' : Nat → Nat → Int32} {L L' : Nat → Nat → Int64} {x1 : Int32} {x2 : Int32} {x3 : Int32} {x4 : Int32} (h : v_X5_setRule_12_0 r I' L' I L x1 x2 x3 x4) : q_C kX5_setRule [.ref 12, .int x1, .int x2, .int x3, .int x4] I L r I' L' := fun w l => q_ct (by decide) (Nat.le_of_ble_eq_true rfl) (Nat.le_refl _) (fun g _ K => h w g K)
abbrev v_X5_setRule_3_0 (r : Option Value) (I' : Nat → Nat → Int32) (L' : Nat → Nat → Int64) (I : Nat → Nat → Int32) (L : Nat → Nat → Int64) (x1 : Int32) (x2 : Int32) (x3 : Int32) (x4 : Int32) : Prop := q_W kX5_setRule 0 [(0, .ref 3), (1, .int x1), (2, .int x2), (3, .int x3), (4, .int x4)] [] I L r I' L'
set_option maxRecDepth 20000 in
set_option maxHeartbeats 2000000 in
theorem vc_X5_setRule_3_0 {r : Option Value} {I' : Nat → Nat → Int32} {L' : Nat → Nat → Int64} {I : Nat → Nat → Int32} {L : Nat → Nat → Int64} {x1 : Int32} {x2 : Int32} {x3 : Int32} {x4 : Int32} (h : (vp_in x1 7 ∧ (vp_in x1 7 ∧ (vp_in x1 7 ∧ ∀ I1, I1 = (up2 (up2 (up2 I 4 x1.toNatClampNeg x2) 5 x1.toNatClampNeg x3) 6 x1.toNatClampNeg x4) → (r = none ∧ I' = I1 ∧ L' = L))))) : v_X5_setRule_3_0 r I' L' I L x1 x2 x3 x4 := by
  intro w g K
  have K1 := K.1
  refine g_aload_n K1 0 dX5_setRule_0 rfl ?_
  refine h_getO K1 q_clX5 8 4 lyp_3 fkX5_8 rfl fl_X5_9 dX5_setRule_1 ?_
  refine g_iload_n K1 1 dX5_setRule_4 rfl ?_
  refine g_iload_n K1 2 dX5_setRule_5 rfl ?_
  obtain ⟨hg, h⟩ := h
  refine h_iastore K1 lyp_4 hg dX5_setRule_6 ?_
  refine g_aload_n K1 0 dX5_setRule_7 rfl ?_
  refine h_getO K1 q_clX5 9 5 lyp_3 fkX5_9 rfl fl_X5_15 dX5_setRule_8 ?_
  refine g_iload_n K1 1 dX5_setRule_11 rfl ?_
  refine g_iload_n K1 3 dX5_setRule_12 rfl ?_
  obtain ⟨hg, h⟩ := h
  refine h_iastore K1 lyp_5 hg dX5_setRule_13 ?_
  refine g_aload_n K1 0 dX5_setRule_14 rfl ?_
  refine h_getO K1 q_clX5 10 6 lyp_3 fkX5_10 rfl fl_X5_18 dX5_setRule_15 ?_
  refine g_iload_n K1 1 dX5_setRule_18 rfl ?_
  refine g_iload K1 4 dX5_setRule_19 rfl ?_
  obtain ⟨hg, h⟩ := h
  refine h_iastore K1 lyp_6 hg dX5_setRule_21 ?_
  refine g_nameMI (fun I1 hI1 => ?_)
  replace h := h I1 hI1
  obtain ⟨hr, hI, hL⟩ := h
  subst hr hI hL
  exact g_vreturn K rfl dX5_setRule_22
theorem c0_X5_setRule_3 {r : Option Value} {I I' : Nat → Nat → Int32} {L L' : Nat → Nat → Int64} {x1 : Int32} {x2 : Int32} {x3 : Int32} {x4 : Int32} (h : v_X5_setRule_3_0 r I' L' I L x1 x2 x3 x4) : q_C kX5_setRule [.ref 3, .int x1, .int x2, .int x3, .int x4] I L r I' L' := fun w l => q_ct (by decide) (Nat.le_of_ble_eq_true rfl) (Nat.le_refl _) (fun g _ K => h w g K)
abbrev v_X5_take_12_3_0 (r : Option Value) (I' : Nat → Nat → Int32) (L' : Nat → Nat → Int64) (I : Nat → Nat → Int32) (L : Nat → Nat → Int64)  : Prop := q_W kX5_take 0 [(0, .ref 12), (1, .ref 3)] [] I L r I' L'
set_option maxRecDepth 20000 in
set_option maxHeartbeats 2000000 in
theorem vc_X5_take_12_3_0 {r : Option Value} {I' : Nat → Nat → Int32} {L' : Nat → Nat → Int64} {I : Nat → Nat → Int32} {L : Nat → Nat → Int64}  (h : ∀ I1, I1 = (up2 (up2 (up2 I 12 0 (I 3 0)) 12 1 ((up2 I 12 0 (I 3 0)) 3 1)) 12 2 ((up2 (up2 I 12 0 (I 3 0)) 12 1 ((up2 I 12 0 (I 3 0)) 3 1)) 3 2)) → ∀ I2, I2 = (up2 (up2 (up2 I1 12 3 (I1 3 3)) 12 4 ((up2 I1 12 3 (I1 3 3)) 3 4)) 12 5 ((up2 (up2 I1 12 3 (I1 3 3)) 12 4 ((up2 I1 12 3 (I1 3 3)) 3 4)) 3 5)) → ((¬ (0 : Int32) < 0 ∧ ¬ (0 : Int32) < 0 ∧ ¬ (7 : Int32) < 0 ∧ (0 : Int32).toNatClampNeg + (7 : Int32).toNatClampNeg ≤ 7 ∧ (0 : Int32).toNatClampNeg + (7 : Int32).toNatClampNeg ≤ 7) ∧ ∀ I3, I3 = (upr (up2 (up2 I2 12 6 (I2 3 6)) 12 7 ((up2 I2 12 6 (I2 3 6)) 3 7)) 13 (va_cpy ((up2 (up2 I2 12 6 (I2 3 6)) 12 7 ((up2 I2 12 6 (I2 3 6)) 3 7)) 4) ((up2 (up2 I2 12 6 (I2 3 6)) 12 7 ((up2 I2 12 6 (I2 3 6)) 3 7)) 13) (0 : Int32).toNatClampNeg (0 : Int32).toNatClampNeg (7 : Int32).toNatClampNeg)) → ((¬ (0 : Int32) < 0 ∧ ¬ (0 : Int32) < 0 ∧ ¬ (7 : Int32) < 0 ∧ (0 : Int32).toNatClampNeg + (7 : Int32).toNatClampNeg ≤ 7 ∧ (0 : Int32).toNatClampNeg + (7 : Int32).toNatClampNeg ≤ 7) ∧ ∀ I4, I4 = (upr I3 14 (va_cpy (I3 5) (I3 14) (0 : Int32).toNatClampNeg (0 : Int32).toNatClampNeg (7 : Int32).toNatClampNeg)) → ((¬ (0 : Int32) < 0 ∧ ¬ (0 : Int32) < 0 ∧ ¬ (7 : Int32) < 0 ∧ (0 : Int32).toNatClampNeg + (7 : Int32).toNatClampNeg ≤ 7 ∧ (0 : Int32).toNatClampNeg + (7 : Int32).toNatClampNeg ≤ 7) ∧ ∀ I5, I5 = (upr I4 15 (va_cpy (I4 6) (I4 15) (0 : Int32).toNatClampNeg (0 : Int32).toNatClampNeg (7 : Int32).toNatClampNeg)) → ((¬ (0 : Int32) < 0 ∧ ¬ (0 : Int32) < 0 ∧ ¬ (7 : Int32) < 0 ∧ (0 : Int32).toNatClampNeg + (7 : Int32).toNatClampNeg ≤ 7 ∧ (0 : Int32).toNatClampNeg + (7 : Int32).toNatClampNeg ≤ 7) ∧ ∀ I6, I6 = (upr I5 16 (va_cpy (I5 7) (I5 16) (0 : Int32).toNatClampNeg (0 : Int32).toNatClampNeg (7 : Int32).toNatClampNeg)) → ((¬ (0 : Int32) < 0 ∧ ¬ (0 : Int32) < 0 ∧ ¬ (4 : Int32) < 0 ∧ (0 : Int32).toNatClampNeg + (4 : Int32).toNatClampNeg ≤ 4 ∧ (0 : Int32).toNatClampNeg + (4 : Int32).toNatClampNeg ≤ 4) ∧ ∀ I7, I7 = (upr I6 17 (va_cpy (I6 8) (I6 17) (0 : Int32).toNatClampNeg (0 : Int32).toNatClampNeg (4 : Int32).toNatClampNeg)) → ((¬ (0 : Int32) < 0 ∧ ¬ (0 : Int32) < 0 ∧ ¬ (4 : Int32) < 0 ∧ (0 : Int32).toNatClampNeg + (4 : Int32).toNatClampNeg ≤ 4 ∧ (0 : Int32).toNatClampNeg + (4 : Int32).toNatClampNeg ≤ 4) ∧ ∀ I8, I8 = (upr I7 18 (va_cpy (I7 9) (I7 18) (0 : Int32).toNatClampNeg (0 : Int32).toNatClampNeg (4 : Int32).toNatClampNeg)) → ((¬ (0 : Int32) < 0 ∧ ¬ (0 : Int32) < 0 ∧ ¬ (6 : Int32) < 0 ∧ (0 : Int32).toNatClampNeg + (6 : Int32).toNatClampNeg ≤ 6 ∧ (0 : Int32).toNatClampNeg + (6 : Int32).toNatClampNeg ≤ 6) ∧ ∀ I9, I9 = (upr I8 19 (va_cpy (I8 10) (I8 19) (0 : Int32).toNatClampNeg (0 : Int32).toNatClampNeg (6 : Int32).toNatClampNeg)) → ((¬ (0 : Int32) < 0 ∧ ¬ (0 : Int32) < 0 ∧ ¬ (6 : Int32) < 0 ∧ (0 : Int32).toNatClampNeg + (6 : Int32).toNatClampNeg ≤ 6 ∧ (0 : Int32).toNatClampNeg + (6 : Int32).toNatClampNeg ≤ 6) ∧ ∀ I10, I10 = (upr I9 20 (va_cpy (I9 11) (I9 20) (0 : Int32).toNatClampNeg (0 : Int32).toNatClampNeg (6 : Int32).toNatClampNeg)) → (r = none ∧ I' = I10 ∧ L' = L)))))))))) : v_X5_take_12_3_0 r I' L' I L  := by
  intro w g K
  have K1 := K.1
  refine g_aload_n K1 0 dX5_take_0 rfl ?_
  refine g_aload_n K1 1 dX5_take_1 rfl ?_
  refine h_getI K1 q_clX5 0 lyp_3 fkX5_0 fl_X5_36 dX5_take_2 ?_
  refine h_putI K1 q_clX5 0 lyp_12 fkX5_0 fl_X5_36 rfl rfl rfl dX5_take_5 ?_
  refine g_aload_n K1 0 dX5_take_8 rfl ?_
  refine g_aload_n K1 1 dX5_take_9 rfl ?_
  refine h_getI K1 q_clX5 1 lyp_3 fkX5_1 fl_X5_40 dX5_take_10 ?_
  refine h_putI K1 q_clX5 1 lyp_12 fkX5_1 fl_X5_40 rfl rfl rfl dX5_take_13 ?_
  refine g_aload_n K1 0 dX5_take_16 rfl ?_
  refine g_aload_n K1 1 dX5_take_17 rfl ?_
  refine h_getI K1 q_clX5 2 lyp_3 fkX5_2 fl_X5_43 dX5_take_18 ?_
  refine h_putI K1 q_clX5 2 lyp_12 fkX5_2 fl_X5_43 rfl rfl rfl dX5_take_21 ?_
  refine g_nameMI (fun I1 hI1 => ?_)
  replace h := h I1 hI1
  refine g_aload_n K1 0 dX5_take_24 rfl ?_
  refine g_aload_n K1 1 dX5_take_25 rfl ?_
  refine h_getI K1 q_clX5 3 lyp_3 fkX5_3 fl_X5_46 dX5_take_26 ?_
  refine h_putI K1 q_clX5 3 lyp_12 fkX5_3 fl_X5_46 rfl rfl rfl dX5_take_29 ?_
  refine g_aload_n K1 0 dX5_take_32 rfl ?_
  refine g_aload_n K1 1 dX5_take_33 rfl ?_
  refine h_getI K1 q_clX5 4 lyp_3 fkX5_4 fl_X5_49 dX5_take_34 ?_
  refine h_putI K1 q_clX5 4 lyp_12 fkX5_4 fl_X5_49 rfl rfl rfl dX5_take_37 ?_
  refine g_aload_n K1 0 dX5_take_40 rfl ?_
  refine g_aload_n K1 1 dX5_take_41 rfl ?_
  refine h_getI K1 q_clX5 5 lyp_3 fkX5_5 fl_X5_52 dX5_take_42 ?_
  refine h_putI K1 q_clX5 5 lyp_12 fkX5_5 fl_X5_52 rfl rfl rfl dX5_take_45 ?_
  refine g_nameMI (fun I2 hI2 => ?_)
  replace h := h I2 hI2
  refine g_aload_n K1 0 dX5_take_48 rfl ?_
  refine g_aload_n K1 1 dX5_take_49 rfl ?_
  refine h_getI K1 q_clX5 6 lyp_3 fkX5_6 fl_X5_55 dX5_take_50 ?_
  refine h_putI K1 q_clX5 6 lyp_12 fkX5_6 fl_X5_55 rfl rfl rfl dX5_take_53 ?_
  refine g_aload_n K1 0 dX5_take_56 rfl ?_
  refine g_aload_n K1 1 dX5_take_57 rfl ?_
  refine h_getI K1 q_clX5 7 lyp_3 fkX5_7 fl_X5_58 dX5_take_58 ?_
  refine h_putI K1 q_clX5 7 lyp_12 fkX5_7 fl_X5_58 rfl rfl rfl dX5_take_61 ?_
  refine g_aload_n K1 1 dX5_take_64 rfl ?_
  refine h_getO K1 q_clX5 8 4 lyp_3 fkX5_8 rfl fl_X5_9 dX5_take_65 ?_
  refine g_iconst K1 0 dX5_take_68 rfl ?_
  refine g_aload_n K1 0 dX5_take_69 rfl ?_
  refine h_getO K1 q_clX5 8 13 lyp_12 fkX5_8 rfl fl_X5_9 dX5_take_70 ?_
  refine g_iconst K1 0 dX5_take_73 rfl ?_
  refine g_bipush K1 7 dX5_take_74 rfl ?_
  obtain ⟨hg, h⟩ := h
  refine h_copyI K1 lyp_4 lyp_13 hg (Nat.le_of_ble_eq_true rfl) ⟨Nat.le_of_ble_eq_true rfl, Nat.le_of_ble_eq_true rfl⟩ ml_X5_61 dX5_take_76 ?_
  refine g_nameMI (fun I3 hI3 => ?_)
  replace h := h I3 hI3
  refine g_aload_n K1 1 dX5_take_79 rfl ?_
  refine h_getO K1 q_clX5 9 5 lyp_3 fkX5_9 rfl fl_X5_15 dX5_take_80 ?_
  refine g_iconst K1 0 dX5_take_83 rfl ?_
  refine g_aload_n K1 0 dX5_take_84 rfl ?_
  refine h_getO K1 q_clX5 9 14 lyp_12 fkX5_9 rfl fl_X5_15 dX5_take_85 ?_
  refine g_iconst K1 0 dX5_take_88 rfl ?_
  refine g_bipush K1 7 dX5_take_89 rfl ?_
  obtain ⟨hg, h⟩ := h
  refine h_copyI K1 lyp_5 lyp_14 hg (Nat.le_of_ble_eq_true rfl) ⟨Nat.le_of_ble_eq_true rfl, Nat.le_of_ble_eq_true rfl⟩ ml_X5_61 dX5_take_91 ?_
  refine g_nameMI (fun I4 hI4 => ?_)
  replace h := h I4 hI4
  refine g_aload_n K1 1 dX5_take_94 rfl ?_
  refine h_getO K1 q_clX5 10 6 lyp_3 fkX5_10 rfl fl_X5_18 dX5_take_95 ?_
  refine g_iconst K1 0 dX5_take_98 rfl ?_
  refine g_aload_n K1 0 dX5_take_99 rfl ?_
  refine h_getO K1 q_clX5 10 15 lyp_12 fkX5_10 rfl fl_X5_18 dX5_take_100 ?_
  refine g_iconst K1 0 dX5_take_103 rfl ?_
  refine g_bipush K1 7 dX5_take_104 rfl ?_
  obtain ⟨hg, h⟩ := h
  refine h_copyI K1 lyp_6 lyp_15 hg (Nat.le_of_ble_eq_true rfl) ⟨Nat.le_of_ble_eq_true rfl, Nat.le_of_ble_eq_true rfl⟩ ml_X5_61 dX5_take_106 ?_
  refine g_nameMI (fun I5 hI5 => ?_)
  replace h := h I5 hI5
  refine g_aload_n K1 1 dX5_take_109 rfl ?_
  refine h_getO K1 q_clX5 11 7 lyp_3 fkX5_11 rfl fl_X5_21 dX5_take_110 ?_
  refine g_iconst K1 0 dX5_take_113 rfl ?_
  refine g_aload_n K1 0 dX5_take_114 rfl ?_
  refine h_getO K1 q_clX5 11 16 lyp_12 fkX5_11 rfl fl_X5_21 dX5_take_115 ?_
  refine g_iconst K1 0 dX5_take_118 rfl ?_
  refine g_bipush K1 7 dX5_take_119 rfl ?_
  obtain ⟨hg, h⟩ := h
  refine h_copyI K1 lyp_7 lyp_16 hg (Nat.le_of_ble_eq_true rfl) ⟨Nat.le_of_ble_eq_true rfl, Nat.le_of_ble_eq_true rfl⟩ ml_X5_61 dX5_take_121 ?_
  refine g_nameMI (fun I6 hI6 => ?_)
  replace h := h I6 hI6
  refine g_aload_n K1 1 dX5_take_124 rfl ?_
  refine h_getO K1 q_clX5 12 8 lyp_3 fkX5_12 rfl fl_X5_24 dX5_take_125 ?_
  refine g_iconst K1 0 dX5_take_128 rfl ?_
  refine g_aload_n K1 0 dX5_take_129 rfl ?_
  refine h_getO K1 q_clX5 12 17 lyp_12 fkX5_12 rfl fl_X5_24 dX5_take_130 ?_
  refine g_iconst K1 0 dX5_take_133 rfl ?_
  refine g_iconst K1 4 dX5_take_134 rfl ?_
  obtain ⟨hg, h⟩ := h
  refine h_copyI K1 lyp_8 lyp_17 hg (Nat.le_of_ble_eq_true rfl) ⟨Nat.le_of_ble_eq_true rfl, Nat.le_of_ble_eq_true rfl⟩ ml_X5_61 dX5_take_135 ?_
  refine g_nameMI (fun I7 hI7 => ?_)
  replace h := h I7 hI7
  refine g_aload_n K1 1 dX5_take_138 rfl ?_
  refine h_getO K1 q_clX5 13 9 lyp_3 fkX5_13 rfl fl_X5_27 dX5_take_139 ?_
  refine g_iconst K1 0 dX5_take_142 rfl ?_
  refine g_aload_n K1 0 dX5_take_143 rfl ?_
  refine h_getO K1 q_clX5 13 18 lyp_12 fkX5_13 rfl fl_X5_27 dX5_take_144 ?_
  refine g_iconst K1 0 dX5_take_147 rfl ?_
  refine g_iconst K1 4 dX5_take_148 rfl ?_
  obtain ⟨hg, h⟩ := h
  refine h_copyI K1 lyp_9 lyp_18 hg (Nat.le_of_ble_eq_true rfl) ⟨Nat.le_of_ble_eq_true rfl, Nat.le_of_ble_eq_true rfl⟩ ml_X5_61 dX5_take_149 ?_
  refine g_nameMI (fun I8 hI8 => ?_)
  replace h := h I8 hI8
  refine g_aload_n K1 1 dX5_take_152 rfl ?_
  refine h_getO K1 q_clX5 14 10 lyp_3 fkX5_14 rfl fl_X5_30 dX5_take_153 ?_
  refine g_iconst K1 0 dX5_take_156 rfl ?_
  refine g_aload_n K1 0 dX5_take_157 rfl ?_
  refine h_getO K1 q_clX5 14 19 lyp_12 fkX5_14 rfl fl_X5_30 dX5_take_158 ?_
  refine g_iconst K1 0 dX5_take_161 rfl ?_
  refine g_bipush K1 6 dX5_take_162 rfl ?_
  obtain ⟨hg, h⟩ := h
  refine h_copyI K1 lyp_10 lyp_19 hg (Nat.le_of_ble_eq_true rfl) ⟨Nat.le_of_ble_eq_true rfl, Nat.le_of_ble_eq_true rfl⟩ ml_X5_61 dX5_take_164 ?_
  refine g_nameMI (fun I9 hI9 => ?_)
  replace h := h I9 hI9
  refine g_aload_n K1 1 dX5_take_167 rfl ?_
  refine h_getO K1 q_clX5 15 11 lyp_3 fkX5_15 rfl fl_X5_33 dX5_take_168 ?_
  refine g_iconst K1 0 dX5_take_171 rfl ?_
  refine g_aload_n K1 0 dX5_take_172 rfl ?_
  refine h_getO K1 q_clX5 15 20 lyp_12 fkX5_15 rfl fl_X5_33 dX5_take_173 ?_
  refine g_iconst K1 0 dX5_take_176 rfl ?_
  refine g_bipush K1 6 dX5_take_177 rfl ?_
  obtain ⟨hg, h⟩ := h
  refine h_copyI K1 lyp_11 lyp_20 hg (Nat.le_of_ble_eq_true rfl) ⟨Nat.le_of_ble_eq_true rfl, Nat.le_of_ble_eq_true rfl⟩ ml_X5_61 dX5_take_179 ?_
  refine g_nameMI (fun I10 hI10 => ?_)
  replace h := h I10 hI10
  obtain ⟨hr, hI, hL⟩ := h
  subst hr hI hL
  exact g_vreturn K rfl dX5_take_182
theorem c0_X5_take_12_3 {r : Option Value} {I I' : Nat → Nat → Int32} {L L' : Nat → Nat → Int64}  (h : v_X5_take_12_3_0 r I' L' I L ) : q_C kX5_take [.ref 12, .ref 3] I L r I' L' := fun w l => q_ct (by decide) (Nat.le_of_ble_eq_true rfl) (Nat.le_refl _) (fun g _ K => h w g K)
abbrev v_X5_take_12_36_0 (r : Option Value) (I' : Nat → Nat → Int32) (L' : Nat → Nat → Int64) (I : Nat → Nat → Int32) (L : Nat → Nat → Int64)  : Prop := q_W kX5_take 0 [(0, .ref 12), (1, .ref 36)] [] I L r I' L'
set_option maxRecDepth 20000 in
set_option maxHeartbeats 2000000 in
theorem vc_X5_take_12_36_0 {r : Option Value} {I' : Nat → Nat → Int32} {L' : Nat → Nat → Int64} {I : Nat → Nat → Int32} {L : Nat → Nat → Int64}  (h : ∀ I1, I1 = (up2 (up2 (up2 I 12 0 (I 36 0)) 12 1 ((up2 I 12 0 (I 36 0)) 36 1)) 12 2 ((up2 (up2 I 12 0 (I 36 0)) 12 1 ((up2 I 12 0 (I 36 0)) 36 1)) 36 2)) → ∀ I2, I2 = (up2 (up2 (up2 I1 12 3 (I1 36 3)) 12 4 ((up2 I1 12 3 (I1 36 3)) 36 4)) 12 5 ((up2 (up2 I1 12 3 (I1 36 3)) 12 4 ((up2 I1 12 3 (I1 36 3)) 36 4)) 36 5)) → ((¬ (0 : Int32) < 0 ∧ ¬ (0 : Int32) < 0 ∧ ¬ (7 : Int32) < 0 ∧ (0 : Int32).toNatClampNeg + (7 : Int32).toNatClampNeg ≤ 7 ∧ (0 : Int32).toNatClampNeg + (7 : Int32).toNatClampNeg ≤ 7) ∧ ∀ I3, I3 = (upr (up2 (up2 I2 12 6 (I2 36 6)) 12 7 ((up2 I2 12 6 (I2 36 6)) 36 7)) 13 (va_cpy ((up2 (up2 I2 12 6 (I2 36 6)) 12 7 ((up2 I2 12 6 (I2 36 6)) 36 7)) 37) ((up2 (up2 I2 12 6 (I2 36 6)) 12 7 ((up2 I2 12 6 (I2 36 6)) 36 7)) 13) (0 : Int32).toNatClampNeg (0 : Int32).toNatClampNeg (7 : Int32).toNatClampNeg)) → ((¬ (0 : Int32) < 0 ∧ ¬ (0 : Int32) < 0 ∧ ¬ (7 : Int32) < 0 ∧ (0 : Int32).toNatClampNeg + (7 : Int32).toNatClampNeg ≤ 7 ∧ (0 : Int32).toNatClampNeg + (7 : Int32).toNatClampNeg ≤ 7) ∧ ∀ I4, I4 = (upr I3 14 (va_cpy (I3 38) (I3 14) (0 : Int32).toNatClampNeg (0 : Int32).toNatClampNeg (7 : Int32).toNatClampNeg)) → ((¬ (0 : Int32) < 0 ∧ ¬ (0 : Int32) < 0 ∧ ¬ (7 : Int32) < 0 ∧ (0 : Int32).toNatClampNeg + (7 : Int32).toNatClampNeg ≤ 7 ∧ (0 : Int32).toNatClampNeg + (7 : Int32).toNatClampNeg ≤ 7) ∧ ∀ I5, I5 = (upr I4 15 (va_cpy (I4 39) (I4 15) (0 : Int32).toNatClampNeg (0 : Int32).toNatClampNeg (7 : Int32).toNatClampNeg)) → ((¬ (0 : Int32) < 0 ∧ ¬ (0 : Int32) < 0 ∧ ¬ (7 : Int32) < 0 ∧ (0 : Int32).toNatClampNeg + (7 : Int32).toNatClampNeg ≤ 7 ∧ (0 : Int32).toNatClampNeg + (7 : Int32).toNatClampNeg ≤ 7) ∧ ∀ I6, I6 = (upr I5 16 (va_cpy (I5 40) (I5 16) (0 : Int32).toNatClampNeg (0 : Int32).toNatClampNeg (7 : Int32).toNatClampNeg)) → ((¬ (0 : Int32) < 0 ∧ ¬ (0 : Int32) < 0 ∧ ¬ (4 : Int32) < 0 ∧ (0 : Int32).toNatClampNeg + (4 : Int32).toNatClampNeg ≤ 4 ∧ (0 : Int32).toNatClampNeg + (4 : Int32).toNatClampNeg ≤ 4) ∧ ∀ I7, I7 = (upr I6 17 (va_cpy (I6 41) (I6 17) (0 : Int32).toNatClampNeg (0 : Int32).toNatClampNeg (4 : Int32).toNatClampNeg)) → ((¬ (0 : Int32) < 0 ∧ ¬ (0 : Int32) < 0 ∧ ¬ (4 : Int32) < 0 ∧ (0 : Int32).toNatClampNeg + (4 : Int32).toNatClampNeg ≤ 4 ∧ (0 : Int32).toNatClampNeg + (4 : Int32).toNatClampNeg ≤ 4) ∧ ∀ I8, I8 = (upr I7 18 (va_cpy (I7 42) (I7 18) (0 : Int32).toNatClampNeg (0 : Int32).toNatClampNeg (4 : Int32).toNatClampNeg)) → ((¬ (0 : Int32) < 0 ∧ ¬ (0 : Int32) < 0 ∧ ¬ (6 : Int32) < 0 ∧ (0 : Int32).toNatClampNeg + (6 : Int32).toNatClampNeg ≤ 6 ∧ (0 : Int32).toNatClampNeg + (6 : Int32).toNatClampNeg ≤ 6) ∧ ∀ I9, I9 = (upr I8 19 (va_cpy (I8 43) (I8 19) (0 : Int32).toNatClampNeg (0 : Int32).toNatClampNeg (6 : Int32).toNatClampNeg)) → ((¬ (0 : Int32) < 0 ∧ ¬ (0 : Int32) < 0 ∧ ¬ (6 : Int32) < 0 ∧ (0 : Int32).toNatClampNeg + (6 : Int32).toNatClampNeg ≤ 6 ∧ (0 : Int32).toNatClampNeg + (6 : Int32).toNatClampNeg ≤ 6) ∧ ∀ I10, I10 = (upr I9 20 (va_cpy (I9 44) (I9 20) (0 : Int32).toNatClampNeg (0 : Int32).toNatClampNeg (6 : Int32).toNatClampNeg)) → (r = none ∧ I' = I10 ∧ L' = L)))))))))) : v_X5_take_12_36_0 r I' L' I L  := by
  intro w g K
  have K1 := K.1
  refine g_aload_n K1 0 dX5_take_0 rfl ?_
  refine g_aload_n K1 1 dX5_take_1 rfl ?_
  refine h_getI K1 q_clX5 0 lyp_36 fkX5_0 fl_X5_36 dX5_take_2 ?_
  refine h_putI K1 q_clX5 0 lyp_12 fkX5_0 fl_X5_36 rfl rfl rfl dX5_take_5 ?_
  refine g_aload_n K1 0 dX5_take_8 rfl ?_
  refine g_aload_n K1 1 dX5_take_9 rfl ?_
  refine h_getI K1 q_clX5 1 lyp_36 fkX5_1 fl_X5_40 dX5_take_10 ?_
  refine h_putI K1 q_clX5 1 lyp_12 fkX5_1 fl_X5_40 rfl rfl rfl dX5_take_13 ?_
  refine g_aload_n K1 0 dX5_take_16 rfl ?_
  refine g_aload_n K1 1 dX5_take_17 rfl ?_
  refine h_getI K1 q_clX5 2 lyp_36 fkX5_2 fl_X5_43 dX5_take_18 ?_
  refine h_putI K1 q_clX5 2 lyp_12 fkX5_2 fl_X5_43 rfl rfl rfl dX5_take_21 ?_
  refine g_nameMI (fun I1 hI1 => ?_)
  replace h := h I1 hI1
  refine g_aload_n K1 0 dX5_take_24 rfl ?_
  refine g_aload_n K1 1 dX5_take_25 rfl ?_
  refine h_getI K1 q_clX5 3 lyp_36 fkX5_3 fl_X5_46 dX5_take_26 ?_
  refine h_putI K1 q_clX5 3 lyp_12 fkX5_3 fl_X5_46 rfl rfl rfl dX5_take_29 ?_
  refine g_aload_n K1 0 dX5_take_32 rfl ?_
  refine g_aload_n K1 1 dX5_take_33 rfl ?_
  refine h_getI K1 q_clX5 4 lyp_36 fkX5_4 fl_X5_49 dX5_take_34 ?_
  refine h_putI K1 q_clX5 4 lyp_12 fkX5_4 fl_X5_49 rfl rfl rfl dX5_take_37 ?_
  refine g_aload_n K1 0 dX5_take_40 rfl ?_
  refine g_aload_n K1 1 dX5_take_41 rfl ?_
  refine h_getI K1 q_clX5 5 lyp_36 fkX5_5 fl_X5_52 dX5_take_42 ?_
  refine h_putI K1 q_clX5 5 lyp_12 fkX5_5 fl_X5_52 rfl rfl rfl dX5_take_45 ?_
  refine g_nameMI (fun I2 hI2 => ?_)
  replace h := h I2 hI2
  refine g_aload_n K1 0 dX5_take_48 rfl ?_
  refine g_aload_n K1 1 dX5_take_49 rfl ?_
  refine h_getI K1 q_clX5 6 lyp_36 fkX5_6 fl_X5_55 dX5_take_50 ?_
  refine h_putI K1 q_clX5 6 lyp_12 fkX5_6 fl_X5_55 rfl rfl rfl dX5_take_53 ?_
  refine g_aload_n K1 0 dX5_take_56 rfl ?_
  refine g_aload_n K1 1 dX5_take_57 rfl ?_
  refine h_getI K1 q_clX5 7 lyp_36 fkX5_7 fl_X5_58 dX5_take_58 ?_
  refine h_putI K1 q_clX5 7 lyp_12 fkX5_7 fl_X5_58 rfl rfl rfl dX5_take_61 ?_
  refine g_aload_n K1 1 dX5_take_64 rfl ?_
  refine h_getO K1 q_clX5 8 37 lyp_36 fkX5_8 rfl fl_X5_9 dX5_take_65 ?_
  refine g_iconst K1 0 dX5_take_68 rfl ?_
  refine g_aload_n K1 0 dX5_take_69 rfl ?_
  refine h_getO K1 q_clX5 8 13 lyp_12 fkX5_8 rfl fl_X5_9 dX5_take_70 ?_
  refine g_iconst K1 0 dX5_take_73 rfl ?_
  refine g_bipush K1 7 dX5_take_74 rfl ?_
  obtain ⟨hg, h⟩ := h
  refine h_copyI K1 lyp_37 lyp_13 hg (Nat.le_of_ble_eq_true rfl) ⟨Nat.le_of_ble_eq_true rfl, Nat.le_of_ble_eq_true rfl⟩ ml_X5_61 dX5_take_76 ?_
  refine g_nameMI (fun I3 hI3 => ?_)
  replace h := h I3 hI3
  refine g_aload_n K1 1 dX5_take_79 rfl ?_
  refine h_getO K1 q_clX5 9 38 lyp_36 fkX5_9 rfl fl_X5_15 dX5_take_80 ?_
  refine g_iconst K1 0 dX5_take_83 rfl ?_
  refine g_aload_n K1 0 dX5_take_84 rfl ?_
  refine h_getO K1 q_clX5 9 14 lyp_12 fkX5_9 rfl fl_X5_15 dX5_take_85 ?_
  refine g_iconst K1 0 dX5_take_88 rfl ?_
  refine g_bipush K1 7 dX5_take_89 rfl ?_
  obtain ⟨hg, h⟩ := h
  refine h_copyI K1 lyp_38 lyp_14 hg (Nat.le_of_ble_eq_true rfl) ⟨Nat.le_of_ble_eq_true rfl, Nat.le_of_ble_eq_true rfl⟩ ml_X5_61 dX5_take_91 ?_
  refine g_nameMI (fun I4 hI4 => ?_)
  replace h := h I4 hI4
  refine g_aload_n K1 1 dX5_take_94 rfl ?_
  refine h_getO K1 q_clX5 10 39 lyp_36 fkX5_10 rfl fl_X5_18 dX5_take_95 ?_
  refine g_iconst K1 0 dX5_take_98 rfl ?_
  refine g_aload_n K1 0 dX5_take_99 rfl ?_
  refine h_getO K1 q_clX5 10 15 lyp_12 fkX5_10 rfl fl_X5_18 dX5_take_100 ?_
  refine g_iconst K1 0 dX5_take_103 rfl ?_
  refine g_bipush K1 7 dX5_take_104 rfl ?_
  obtain ⟨hg, h⟩ := h
  refine h_copyI K1 lyp_39 lyp_15 hg (Nat.le_of_ble_eq_true rfl) ⟨Nat.le_of_ble_eq_true rfl, Nat.le_of_ble_eq_true rfl⟩ ml_X5_61 dX5_take_106 ?_
  refine g_nameMI (fun I5 hI5 => ?_)
  replace h := h I5 hI5
  refine g_aload_n K1 1 dX5_take_109 rfl ?_
  refine h_getO K1 q_clX5 11 40 lyp_36 fkX5_11 rfl fl_X5_21 dX5_take_110 ?_
  refine g_iconst K1 0 dX5_take_113 rfl ?_
  refine g_aload_n K1 0 dX5_take_114 rfl ?_
  refine h_getO K1 q_clX5 11 16 lyp_12 fkX5_11 rfl fl_X5_21 dX5_take_115 ?_
  refine g_iconst K1 0 dX5_take_118 rfl ?_
  refine g_bipush K1 7 dX5_take_119 rfl ?_
  obtain ⟨hg, h⟩ := h
  refine h_copyI K1 lyp_40 lyp_16 hg (Nat.le_of_ble_eq_true rfl) ⟨Nat.le_of_ble_eq_true rfl, Nat.le_of_ble_eq_true rfl⟩ ml_X5_61 dX5_take_121 ?_
  refine g_nameMI (fun I6 hI6 => ?_)
  replace h := h I6 hI6
  refine g_aload_n K1 1 dX5_take_124 rfl ?_
  refine h_getO K1 q_clX5 12 41 lyp_36 fkX5_12 rfl fl_X5_24 dX5_take_125 ?_
  refine g_iconst K1 0 dX5_take_128 rfl ?_
  refine g_aload_n K1 0 dX5_take_129 rfl ?_
  refine h_getO K1 q_clX5 12 17 lyp_12 fkX5_12 rfl fl_X5_24 dX5_take_130 ?_
  refine g_iconst K1 0 dX5_take_133 rfl ?_
  refine g_iconst K1 4 dX5_take_134 rfl ?_
  obtain ⟨hg, h⟩ := h
  refine h_copyI K1 lyp_41 lyp_17 hg (Nat.le_of_ble_eq_true rfl) ⟨Nat.le_of_ble_eq_true rfl, Nat.le_of_ble_eq_true rfl⟩ ml_X5_61 dX5_take_135 ?_
  refine g_nameMI (fun I7 hI7 => ?_)
  replace h := h I7 hI7
  refine g_aload_n K1 1 dX5_take_138 rfl ?_
  refine h_getO K1 q_clX5 13 42 lyp_36 fkX5_13 rfl fl_X5_27 dX5_take_139 ?_
  refine g_iconst K1 0 dX5_take_142 rfl ?_
  refine g_aload_n K1 0 dX5_take_143 rfl ?_
  refine h_getO K1 q_clX5 13 18 lyp_12 fkX5_13 rfl fl_X5_27 dX5_take_144 ?_
  refine g_iconst K1 0 dX5_take_147 rfl ?_
  refine g_iconst K1 4 dX5_take_148 rfl ?_
  obtain ⟨hg, h⟩ := h
  refine h_copyI K1 lyp_42 lyp_18 hg (Nat.le_of_ble_eq_true rfl) ⟨Nat.le_of_ble_eq_true rfl, Nat.le_of_ble_eq_true rfl⟩ ml_X5_61 dX5_take_149 ?_
  refine g_nameMI (fun I8 hI8 => ?_)
  replace h := h I8 hI8
  refine g_aload_n K1 1 dX5_take_152 rfl ?_
  refine h_getO K1 q_clX5 14 43 lyp_36 fkX5_14 rfl fl_X5_30 dX5_take_153 ?_
  refine g_iconst K1 0 dX5_take_156 rfl ?_
  refine g_aload_n K1 0 dX5_take_157 rfl ?_
  refine h_getO K1 q_clX5 14 19 lyp_12 fkX5_14 rfl fl_X5_30 dX5_take_158 ?_
  refine g_iconst K1 0 dX5_take_161 rfl ?_
  refine g_bipush K1 6 dX5_take_162 rfl ?_
  obtain ⟨hg, h⟩ := h
  refine h_copyI K1 lyp_43 lyp_19 hg (Nat.le_of_ble_eq_true rfl) ⟨Nat.le_of_ble_eq_true rfl, Nat.le_of_ble_eq_true rfl⟩ ml_X5_61 dX5_take_164 ?_
  refine g_nameMI (fun I9 hI9 => ?_)
  replace h := h I9 hI9
  refine g_aload_n K1 1 dX5_take_167 rfl ?_
  refine h_getO K1 q_clX5 15 44 lyp_36 fkX5_15 rfl fl_X5_33 dX5_take_168 ?_
  refine g_iconst K1 0 dX5_take_171 rfl ?_
  refine g_aload_n K1 0 dX5_take_172 rfl ?_
  refine h_getO K1 q_clX5 15 20 lyp_12 fkX5_15 rfl fl_X5_33 dX5_take_173 ?_
  refine g_iconst K1 0 dX5_take_176 rfl ?_
  refine g_bipush K1 6 dX5_take_177 rfl ?_
  obtain ⟨hg, h⟩ := h
  refine h_copyI K1 lyp_44 lyp_20 hg (Nat.le_of_ble_eq_true rfl) ⟨Nat.le_of_ble_eq_true rfl, Nat.le_of_ble_eq_true rfl⟩ ml_X5_61 dX5_take_179 ?_
  refine g_nameMI (fun I10 hI10 => ?_)
  replace h := h I10 hI10
  obtain ⟨hr, hI, hL⟩ := h
  subst hr hI hL
  exact g_vreturn K rfl dX5_take_182
theorem c0_X5_take_12_36 {r : Option Value} {I I' : Nat → Nat → Int32} {L L' : Nat → Nat → Int64}  (h : v_X5_take_12_36_0 r I' L' I L ) : q_C kX5_take [.ref 12, .ref 36] I L r I' L' := fun w l => q_ct (by decide) (Nat.le_of_ble_eq_true rfl) (Nat.le_refl _) (fun g _ K => h w g K)
abbrev v_X5_take_12_49_0 (r : Option Value) (I' : Nat → Nat → Int32) (L' : Nat → Nat → Int64) (I : Nat → Nat → Int32) (L : Nat → Nat → Int64)  : Prop := q_W kX5_take 0 [(0, .ref 12), (1, .ref 49)] [] I L r I' L'
set_option maxRecDepth 20000 in
set_option maxHeartbeats 2000000 in
theorem vc_X5_take_12_49_0 {r : Option Value} {I' : Nat → Nat → Int32} {L' : Nat → Nat → Int64} {I : Nat → Nat → Int32} {L : Nat → Nat → Int64}  (h : ∀ I1, I1 = (up2 (up2 (up2 I 12 0 (I 49 0)) 12 1 ((up2 I 12 0 (I 49 0)) 49 1)) 12 2 ((up2 (up2 I 12 0 (I 49 0)) 12 1 ((up2 I 12 0 (I 49 0)) 49 1)) 49 2)) → ∀ I2, I2 = (up2 (up2 (up2 I1 12 3 (I1 49 3)) 12 4 ((up2 I1 12 3 (I1 49 3)) 49 4)) 12 5 ((up2 (up2 I1 12 3 (I1 49 3)) 12 4 ((up2 I1 12 3 (I1 49 3)) 49 4)) 49 5)) → ((¬ (0 : Int32) < 0 ∧ ¬ (0 : Int32) < 0 ∧ ¬ (7 : Int32) < 0 ∧ (0 : Int32).toNatClampNeg + (7 : Int32).toNatClampNeg ≤ 7 ∧ (0 : Int32).toNatClampNeg + (7 : Int32).toNatClampNeg ≤ 7) ∧ ∀ I3, I3 = (upr (up2 (up2 I2 12 6 (I2 49 6)) 12 7 ((up2 I2 12 6 (I2 49 6)) 49 7)) 13 (va_cpy ((up2 (up2 I2 12 6 (I2 49 6)) 12 7 ((up2 I2 12 6 (I2 49 6)) 49 7)) 50) ((up2 (up2 I2 12 6 (I2 49 6)) 12 7 ((up2 I2 12 6 (I2 49 6)) 49 7)) 13) (0 : Int32).toNatClampNeg (0 : Int32).toNatClampNeg (7 : Int32).toNatClampNeg)) → ((¬ (0 : Int32) < 0 ∧ ¬ (0 : Int32) < 0 ∧ ¬ (7 : Int32) < 0 ∧ (0 : Int32).toNatClampNeg + (7 : Int32).toNatClampNeg ≤ 7 ∧ (0 : Int32).toNatClampNeg + (7 : Int32).toNatClampNeg ≤ 7) ∧ ∀ I4, I4 = (upr I3 14 (va_cpy (I3 51) (I3 14) (0 : Int32).toNatClampNeg (0 : Int32).toNatClampNeg (7 : Int32).toNatClampNeg)) → ((¬ (0 : Int32) < 0 ∧ ¬ (0 : Int32) < 0 ∧ ¬ (7 : Int32) < 0 ∧ (0 : Int32).toNatClampNeg + (7 : Int32).toNatClampNeg ≤ 7 ∧ (0 : Int32).toNatClampNeg + (7 : Int32).toNatClampNeg ≤ 7) ∧ ∀ I5, I5 = (upr I4 15 (va_cpy (I4 52) (I4 15) (0 : Int32).toNatClampNeg (0 : Int32).toNatClampNeg (7 : Int32).toNatClampNeg)) → ((¬ (0 : Int32) < 0 ∧ ¬ (0 : Int32) < 0 ∧ ¬ (7 : Int32) < 0 ∧ (0 : Int32).toNatClampNeg + (7 : Int32).toNatClampNeg ≤ 7 ∧ (0 : Int32).toNatClampNeg + (7 : Int32).toNatClampNeg ≤ 7) ∧ ∀ I6, I6 = (upr I5 16 (va_cpy (I5 53) (I5 16) (0 : Int32).toNatClampNeg (0 : Int32).toNatClampNeg (7 : Int32).toNatClampNeg)) → ((¬ (0 : Int32) < 0 ∧ ¬ (0 : Int32) < 0 ∧ ¬ (4 : Int32) < 0 ∧ (0 : Int32).toNatClampNeg + (4 : Int32).toNatClampNeg ≤ 4 ∧ (0 : Int32).toNatClampNeg + (4 : Int32).toNatClampNeg ≤ 4) ∧ ∀ I7, I7 = (upr I6 17 (va_cpy (I6 54) (I6 17) (0 : Int32).toNatClampNeg (0 : Int32).toNatClampNeg (4 : Int32).toNatClampNeg)) → ((¬ (0 : Int32) < 0 ∧ ¬ (0 : Int32) < 0 ∧ ¬ (4 : Int32) < 0 ∧ (0 : Int32).toNatClampNeg + (4 : Int32).toNatClampNeg ≤ 4 ∧ (0 : Int32).toNatClampNeg + (4 : Int32).toNatClampNeg ≤ 4) ∧ ∀ I8, I8 = (upr I7 18 (va_cpy (I7 55) (I7 18) (0 : Int32).toNatClampNeg (0 : Int32).toNatClampNeg (4 : Int32).toNatClampNeg)) → ((¬ (0 : Int32) < 0 ∧ ¬ (0 : Int32) < 0 ∧ ¬ (6 : Int32) < 0 ∧ (0 : Int32).toNatClampNeg + (6 : Int32).toNatClampNeg ≤ 6 ∧ (0 : Int32).toNatClampNeg + (6 : Int32).toNatClampNeg ≤ 6) ∧ ∀ I9, I9 = (upr I8 19 (va_cpy (I8 56) (I8 19) (0 : Int32).toNatClampNeg (0 : Int32).toNatClampNeg (6 : Int32).toNatClampNeg)) → ((¬ (0 : Int32) < 0 ∧ ¬ (0 : Int32) < 0 ∧ ¬ (6 : Int32) < 0 ∧ (0 : Int32).toNatClampNeg + (6 : Int32).toNatClampNeg ≤ 6 ∧ (0 : Int32).toNatClampNeg + (6 : Int32).toNatClampNeg ≤ 6) ∧ ∀ I10, I10 = (upr I9 20 (va_cpy (I9 57) (I9 20) (0 : Int32).toNatClampNeg (0 : Int32).toNatClampNeg (6 : Int32).toNatClampNeg)) → (r = none ∧ I' = I10 ∧ L' = L)))))))))) : v_X5_take_12_49_0 r I' L' I L  := by
  intro w g K
  have K1 := K.1
  refine g_aload_n K1 0 dX5_take_0 rfl ?_
  refine g_aload_n K1 1 dX5_take_1 rfl ?_
  refine h_getI K1 q_clX5 0 lyp_49 fkX5_0 fl_X5_36 dX5_take_2 ?_
  refine h_putI K1 q_clX5 0 lyp_12 fkX5_0 fl_X5_36 rfl rfl rfl dX5_take_5 ?_
  refine g_aload_n K1 0 dX5_take_8 rfl ?_
  refine g_aload_n K1 1 dX5_take_9 rfl ?_
  refine h_getI K1 q_clX5 1 lyp_49 fkX5_1 fl_X5_40 dX5_take_10 ?_
  refine h_putI K1 q_clX5 1 lyp_12 fkX5_1 fl_X5_40 rfl rfl rfl dX5_take_13 ?_
  refine g_aload_n K1 0 dX5_take_16 rfl ?_
  refine g_aload_n K1 1 dX5_take_17 rfl ?_
  refine h_getI K1 q_clX5 2 lyp_49 fkX5_2 fl_X5_43 dX5_take_18 ?_
  refine h_putI K1 q_clX5 2 lyp_12 fkX5_2 fl_X5_43 rfl rfl rfl dX5_take_21 ?_
  refine g_nameMI (fun I1 hI1 => ?_)
  replace h := h I1 hI1
  refine g_aload_n K1 0 dX5_take_24 rfl ?_
  refine g_aload_n K1 1 dX5_take_25 rfl ?_
  refine h_getI K1 q_clX5 3 lyp_49 fkX5_3 fl_X5_46 dX5_take_26 ?_
  refine h_putI K1 q_clX5 3 lyp_12 fkX5_3 fl_X5_46 rfl rfl rfl dX5_take_29 ?_
  refine g_aload_n K1 0 dX5_take_32 rfl ?_
  refine g_aload_n K1 1 dX5_take_33 rfl ?_
  refine h_getI K1 q_clX5 4 lyp_49 fkX5_4 fl_X5_49 dX5_take_34 ?_
  refine h_putI K1 q_clX5 4 lyp_12 fkX5_4 fl_X5_49 rfl rfl rfl dX5_take_37 ?_
  refine g_aload_n K1 0 dX5_take_40 rfl ?_
  refine g_aload_n K1 1 dX5_take_41 rfl ?_
  refine h_getI K1 q_clX5 5 lyp_49 fkX5_5 fl_X5_52 dX5_take_42 ?_
  refine h_putI K1 q_clX5 5 lyp_12 fkX5_5 fl_X5_52 rfl rfl rfl dX5_take_45 ?_
  refine g_nameMI (fun I2 hI2 => ?_)
  replace h := h I2 hI2
  refine g_aload_n K1 0 dX5_take_48 rfl ?_
  refine g_aload_n K1 1 dX5_take_49 rfl ?_
  refine h_getI K1 q_clX5 6 lyp_49 fkX5_6 fl_X5_55 dX5_take_50 ?_
  refine h_putI K1 q_clX5 6 lyp_12 fkX5_6 fl_X5_55 rfl rfl rfl dX5_take_53 ?_
  refine g_aload_n K1 0 dX5_take_56 rfl ?_
  refine g_aload_n K1 1 dX5_take_57 rfl ?_
  refine h_getI K1 q_clX5 7 lyp_49 fkX5_7 fl_X5_58 dX5_take_58 ?_
  refine h_putI K1 q_clX5 7 lyp_12 fkX5_7 fl_X5_58 rfl rfl rfl dX5_take_61 ?_
  refine g_aload_n K1 1 dX5_take_64 rfl ?_
  refine h_getO K1 q_clX5 8 50 lyp_49 fkX5_8 rfl fl_X5_9 dX5_take_65 ?_
  refine g_iconst K1 0 dX5_take_68 rfl ?_
  refine g_aload_n K1 0 dX5_take_69 rfl ?_
  refine h_getO K1 q_clX5 8 13 lyp_12 fkX5_8 rfl fl_X5_9 dX5_take_70 ?_
  refine g_iconst K1 0 dX5_take_73 rfl ?_
  refine g_bipush K1 7 dX5_take_74 rfl ?_
  obtain ⟨hg, h⟩ := h
  refine h_copyI K1 lyp_50 lyp_13 hg (Nat.le_of_ble_eq_true rfl) ⟨Nat.le_of_ble_eq_true rfl, Nat.le_of_ble_eq_true rfl⟩ ml_X5_61 dX5_take_76 ?_
  refine g_nameMI (fun I3 hI3 => ?_)
  replace h := h I3 hI3
  refine g_aload_n K1 1 dX5_take_79 rfl ?_
  refine h_getO K1 q_clX5 9 51 lyp_49 fkX5_9 rfl fl_X5_15 dX5_take_80 ?_
  refine g_iconst K1 0 dX5_take_83 rfl ?_
  refine g_aload_n K1 0 dX5_take_84 rfl ?_
  refine h_getO K1 q_clX5 9 14 lyp_12 fkX5_9 rfl fl_X5_15 dX5_take_85 ?_
  refine g_iconst K1 0 dX5_take_88 rfl ?_
  refine g_bipush K1 7 dX5_take_89 rfl ?_
  obtain ⟨hg, h⟩ := h
  refine h_copyI K1 lyp_51 lyp_14 hg (Nat.le_of_ble_eq_true rfl) ⟨Nat.le_of_ble_eq_true rfl, Nat.le_of_ble_eq_true rfl⟩ ml_X5_61 dX5_take_91 ?_
  refine g_nameMI (fun I4 hI4 => ?_)
  replace h := h I4 hI4
  refine g_aload_n K1 1 dX5_take_94 rfl ?_
  refine h_getO K1 q_clX5 10 52 lyp_49 fkX5_10 rfl fl_X5_18 dX5_take_95 ?_
  refine g_iconst K1 0 dX5_take_98 rfl ?_
  refine g_aload_n K1 0 dX5_take_99 rfl ?_
  refine h_getO K1 q_clX5 10 15 lyp_12 fkX5_10 rfl fl_X5_18 dX5_take_100 ?_
  refine g_iconst K1 0 dX5_take_103 rfl ?_
  refine g_bipush K1 7 dX5_take_104 rfl ?_
  obtain ⟨hg, h⟩ := h
  refine h_copyI K1 lyp_52 lyp_15 hg (Nat.le_of_ble_eq_true rfl) ⟨Nat.le_of_ble_eq_true rfl, Nat.le_of_ble_eq_true rfl⟩ ml_X5_61 dX5_take_106 ?_
  refine g_nameMI (fun I5 hI5 => ?_)
  replace h := h I5 hI5
  refine g_aload_n K1 1 dX5_take_109 rfl ?_
  refine h_getO K1 q_clX5 11 53 lyp_49 fkX5_11 rfl fl_X5_21 dX5_take_110 ?_
  refine g_iconst K1 0 dX5_take_113 rfl ?_
  refine g_aload_n K1 0 dX5_take_114 rfl ?_
  refine h_getO K1 q_clX5 11 16 lyp_12 fkX5_11 rfl fl_X5_21 dX5_take_115 ?_
  refine g_iconst K1 0 dX5_take_118 rfl ?_
  refine g_bipush K1 7 dX5_take_119 rfl ?_
  obtain ⟨hg, h⟩ := h
  refine h_copyI K1 lyp_53 lyp_16 hg (Nat.le_of_ble_eq_true rfl) ⟨Nat.le_of_ble_eq_true rfl, Nat.le_of_ble_eq_true rfl⟩ ml_X5_61 dX5_take_121 ?_
  refine g_nameMI (fun I6 hI6 => ?_)
  replace h := h I6 hI6
  refine g_aload_n K1 1 dX5_take_124 rfl ?_
  refine h_getO K1 q_clX5 12 54 lyp_49 fkX5_12 rfl fl_X5_24 dX5_take_125 ?_
  refine g_iconst K1 0 dX5_take_128 rfl ?_
  refine g_aload_n K1 0 dX5_take_129 rfl ?_
  refine h_getO K1 q_clX5 12 17 lyp_12 fkX5_12 rfl fl_X5_24 dX5_take_130 ?_
  refine g_iconst K1 0 dX5_take_133 rfl ?_
  refine g_iconst K1 4 dX5_take_134 rfl ?_
  obtain ⟨hg, h⟩ := h
  refine h_copyI K1 lyp_54 lyp_17 hg (Nat.le_of_ble_eq_true rfl) ⟨Nat.le_of_ble_eq_true rfl, Nat.le_of_ble_eq_true rfl⟩ ml_X5_61 dX5_take_135 ?_
  refine g_nameMI (fun I7 hI7 => ?_)
  replace h := h I7 hI7
  refine g_aload_n K1 1 dX5_take_138 rfl ?_
  refine h_getO K1 q_clX5 13 55 lyp_49 fkX5_13 rfl fl_X5_27 dX5_take_139 ?_
  refine g_iconst K1 0 dX5_take_142 rfl ?_
  refine g_aload_n K1 0 dX5_take_143 rfl ?_
  refine h_getO K1 q_clX5 13 18 lyp_12 fkX5_13 rfl fl_X5_27 dX5_take_144 ?_
  refine g_iconst K1 0 dX5_take_147 rfl ?_
  refine g_iconst K1 4 dX5_take_148 rfl ?_
  obtain ⟨hg, h⟩ := h
  refine h_copyI K1 lyp_55 lyp_18 hg (Nat.le_of_ble_eq_true rfl) ⟨Nat.le_of_ble_eq_true rfl, Nat.le_of_ble_eq_true rfl⟩ ml_X5_61 dX5_take_149 ?_
  refine g_nameMI (fun I8 hI8 => ?_)
  replace h := h I8 hI8
  refine g_aload_n K1 1 dX5_take_152 rfl ?_
  refine h_getO K1 q_clX5 14 56 lyp_49 fkX5_14 rfl fl_X5_30 dX5_take_153 ?_
  refine g_iconst K1 0 dX5_take_156 rfl ?_
  refine g_aload_n K1 0 dX5_take_157 rfl ?_
  refine h_getO K1 q_clX5 14 19 lyp_12 fkX5_14 rfl fl_X5_30 dX5_take_158 ?_
  refine g_iconst K1 0 dX5_take_161 rfl ?_
  refine g_bipush K1 6 dX5_take_162 rfl ?_
  obtain ⟨hg, h⟩ := h
  refine h_copyI K1 lyp_56 lyp_19 hg (Nat.le_of_ble_eq_true rfl) ⟨Nat.le_of_ble_eq_true rfl, Nat.le_of_ble_eq_true rfl⟩ ml_X5_61 dX5_take_164 ?_
  refine g_nameMI (fun I9 hI9 => ?_)
  replace h := h I9 hI9
  refine g_aload_n K1 1 dX5_take_167 rfl ?_
  refine h_getO K1 q_clX5 15 57 lyp_49 fkX5_15 rfl fl_X5_33 dX5_take_168 ?_
  refine g_iconst K1 0 dX5_take_171 rfl ?_
  refine g_aload_n K1 0 dX5_take_172 rfl ?_
  refine h_getO K1 q_clX5 15 20 lyp_12 fkX5_15 rfl fl_X5_33 dX5_take_173 ?_
  refine g_iconst K1 0 dX5_take_176 rfl ?_
  refine g_bipush K1 6 dX5_take_177 rfl ?_
  obtain ⟨hg, h⟩ := h
  refine h_copyI K1 lyp_57 lyp_20 hg (Nat.le_of_ble_eq_true rfl) ⟨Nat.le_of_ble_eq_true rfl, Nat.le_of_ble_eq_true rfl⟩ ml_X5_61 dX5_take_179 ?_
  refine g_nameMI (fun I10 hI10 => ?_)
  replace h := h I10 hI10
  obtain ⟨hr, hI, hL⟩ := h
  subst hr hI hL
  exact g_vreturn K rfl dX5_take_182
theorem c0_X5_take_12_49 {r : Option Value} {I I' : Nat → Nat → Int32} {L L' : Nat → Nat → Int64}  (h : v_X5_take_12_49_0 r I' L' I L ) : q_C kX5_take [.ref 12, .ref 49] I L r I' L' := fun w l => q_ct (by decide) (Nat.le_of_ble_eq_true rfl) (Nat.le_refl _) (fun g _ K => h w g K)
abbrev v_X5_take_12_62_0 (r : Option Value) (I' : Nat → Nat → Int32) (L' : Nat → Nat → Int64) (I : Nat → Nat → Int32) (L : Nat → Nat → Int64)  : Prop := q_W kX5_take 0 [(0, .ref 12), (1, .ref 62)] [] I L r I' L'
set_option maxRecDepth 20000 in
set_option maxHeartbeats 2000000 in
theorem vc_X5_take_12_62_0 {r : Option Value} {I' : Nat → Nat → Int32} {L' : Nat → Nat → Int64} {I : Nat → Nat → Int32} {L : Nat → Nat → Int64}  (h : ∀ I1, I1 = (up2 (up2 (up2 I 12 0 (I 62 0)) 12 1 ((up2 I 12 0 (I 62 0)) 62 1)) 12 2 ((up2 (up2 I 12 0 (I 62 0)) 12 1 ((up2 I 12 0 (I 62 0)) 62 1)) 62 2)) → ∀ I2, I2 = (up2 (up2 (up2 I1 12 3 (I1 62 3)) 12 4 ((up2 I1 12 3 (I1 62 3)) 62 4)) 12 5 ((up2 (up2 I1 12 3 (I1 62 3)) 12 4 ((up2 I1 12 3 (I1 62 3)) 62 4)) 62 5)) → ((¬ (0 : Int32) < 0 ∧ ¬ (0 : Int32) < 0 ∧ ¬ (7 : Int32) < 0 ∧ (0 : Int32).toNatClampNeg + (7 : Int32).toNatClampNeg ≤ 7 ∧ (0 : Int32).toNatClampNeg + (7 : Int32).toNatClampNeg ≤ 7) ∧ ∀ I3, I3 = (upr (up2 (up2 I2 12 6 (I2 62 6)) 12 7 ((up2 I2 12 6 (I2 62 6)) 62 7)) 13 (va_cpy ((up2 (up2 I2 12 6 (I2 62 6)) 12 7 ((up2 I2 12 6 (I2 62 6)) 62 7)) 63) ((up2 (up2 I2 12 6 (I2 62 6)) 12 7 ((up2 I2 12 6 (I2 62 6)) 62 7)) 13) (0 : Int32).toNatClampNeg (0 : Int32).toNatClampNeg (7 : Int32).toNatClampNeg)) → ((¬ (0 : Int32) < 0 ∧ ¬ (0 : Int32) < 0 ∧ ¬ (7 : Int32) < 0 ∧ (0 : Int32).toNatClampNeg + (7 : Int32).toNatClampNeg ≤ 7 ∧ (0 : Int32).toNatClampNeg + (7 : Int32).toNatClampNeg ≤ 7) ∧ ∀ I4, I4 = (upr I3 14 (va_cpy (I3 64) (I3 14) (0 : Int32).toNatClampNeg (0 : Int32).toNatClampNeg (7 : Int32).toNatClampNeg)) → ((¬ (0 : Int32) < 0 ∧ ¬ (0 : Int32) < 0 ∧ ¬ (7 : Int32) < 0 ∧ (0 : Int32).toNatClampNeg + (7 : Int32).toNatClampNeg ≤ 7 ∧ (0 : Int32).toNatClampNeg + (7 : Int32).toNatClampNeg ≤ 7) ∧ ∀ I5, I5 = (upr I4 15 (va_cpy (I4 65) (I4 15) (0 : Int32).toNatClampNeg (0 : Int32).toNatClampNeg (7 : Int32).toNatClampNeg)) → ((¬ (0 : Int32) < 0 ∧ ¬ (0 : Int32) < 0 ∧ ¬ (7 : Int32) < 0 ∧ (0 : Int32).toNatClampNeg + (7 : Int32).toNatClampNeg ≤ 7 ∧ (0 : Int32).toNatClampNeg + (7 : Int32).toNatClampNeg ≤ 7) ∧ ∀ I6, I6 = (upr I5 16 (va_cpy (I5 66) (I5 16) (0 : Int32).toNatClampNeg (0 : Int32).toNatClampNeg (7 : Int32).toNatClampNeg)) → ((¬ (0 : Int32) < 0 ∧ ¬ (0 : Int32) < 0 ∧ ¬ (4 : Int32) < 0 ∧ (0 : Int32).toNatClampNeg + (4 : Int32).toNatClampNeg ≤ 4 ∧ (0 : Int32).toNatClampNeg + (4 : Int32).toNatClampNeg ≤ 4) ∧ ∀ I7, I7 = (upr I6 17 (va_cpy (I6 67) (I6 17) (0 : Int32).toNatClampNeg (0 : Int32).toNatClampNeg (4 : Int32).toNatClampNeg)) → ((¬ (0 : Int32) < 0 ∧ ¬ (0 : Int32) < 0 ∧ ¬ (4 : Int32) < 0 ∧ (0 : Int32).toNatClampNeg + (4 : Int32).toNatClampNeg ≤ 4 ∧ (0 : Int32).toNatClampNeg + (4 : Int32).toNatClampNeg ≤ 4) ∧ ∀ I8, I8 = (upr I7 18 (va_cpy (I7 68) (I7 18) (0 : Int32).toNatClampNeg (0 : Int32).toNatClampNeg (4 : Int32).toNatClampNeg)) → ((¬ (0 : Int32) < 0 ∧ ¬ (0 : Int32) < 0 ∧ ¬ (6 : Int32) < 0 ∧ (0 : Int32).toNatClampNeg + (6 : Int32).toNatClampNeg ≤ 6 ∧ (0 : Int32).toNatClampNeg + (6 : Int32).toNatClampNeg ≤ 6) ∧ ∀ I9, I9 = (upr I8 19 (va_cpy (I8 69) (I8 19) (0 : Int32).toNatClampNeg (0 : Int32).toNatClampNeg (6 : Int32).toNatClampNeg)) → ((¬ (0 : Int32) < 0 ∧ ¬ (0 : Int32) < 0 ∧ ¬ (6 : Int32) < 0 ∧ (0 : Int32).toNatClampNeg + (6 : Int32).toNatClampNeg ≤ 6 ∧ (0 : Int32).toNatClampNeg + (6 : Int32).toNatClampNeg ≤ 6) ∧ ∀ I10, I10 = (upr I9 20 (va_cpy (I9 70) (I9 20) (0 : Int32).toNatClampNeg (0 : Int32).toNatClampNeg (6 : Int32).toNatClampNeg)) → (r = none ∧ I' = I10 ∧ L' = L)))))))))) : v_X5_take_12_62_0 r I' L' I L  := by
  intro w g K
  have K1 := K.1
  refine g_aload_n K1 0 dX5_take_0 rfl ?_
  refine g_aload_n K1 1 dX5_take_1 rfl ?_
  refine h_getI K1 q_clX5 0 lyp_62 fkX5_0 fl_X5_36 dX5_take_2 ?_
  refine h_putI K1 q_clX5 0 lyp_12 fkX5_0 fl_X5_36 rfl rfl rfl dX5_take_5 ?_
  refine g_aload_n K1 0 dX5_take_8 rfl ?_
  refine g_aload_n K1 1 dX5_take_9 rfl ?_
  refine h_getI K1 q_clX5 1 lyp_62 fkX5_1 fl_X5_40 dX5_take_10 ?_
  refine h_putI K1 q_clX5 1 lyp_12 fkX5_1 fl_X5_40 rfl rfl rfl dX5_take_13 ?_
  refine g_aload_n K1 0 dX5_take_16 rfl ?_
  refine g_aload_n K1 1 dX5_take_17 rfl ?_
  refine h_getI K1 q_clX5 2 lyp_62 fkX5_2 fl_X5_43 dX5_take_18 ?_
  refine h_putI K1 q_clX5 2 lyp_12 fkX5_2 fl_X5_43 rfl rfl rfl dX5_take_21 ?_
  refine g_nameMI (fun I1 hI1 => ?_)
  replace h := h I1 hI1
  refine g_aload_n K1 0 dX5_take_24 rfl ?_
  refine g_aload_n K1 1 dX5_take_25 rfl ?_
  refine h_getI K1 q_clX5 3 lyp_62 fkX5_3 fl_X5_46 dX5_take_26 ?_
  refine h_putI K1 q_clX5 3 lyp_12 fkX5_3 fl_X5_46 rfl rfl rfl dX5_take_29 ?_
  refine g_aload_n K1 0 dX5_take_32 rfl ?_
  refine g_aload_n K1 1 dX5_take_33 rfl ?_
  refine h_getI K1 q_clX5 4 lyp_62 fkX5_4 fl_X5_49 dX5_take_34 ?_
  refine h_putI K1 q_clX5 4 lyp_12 fkX5_4 fl_X5_49 rfl rfl rfl dX5_take_37 ?_
  refine g_aload_n K1 0 dX5_take_40 rfl ?_
  refine g_aload_n K1 1 dX5_take_41 rfl ?_
  refine h_getI K1 q_clX5 5 lyp_62 fkX5_5 fl_X5_52 dX5_take_42 ?_
  refine h_putI K1 q_clX5 5 lyp_12 fkX5_5 fl_X5_52 rfl rfl rfl dX5_take_45 ?_
  refine g_nameMI (fun I2 hI2 => ?_)
  replace h := h I2 hI2
  refine g_aload_n K1 0 dX5_take_48 rfl ?_
  refine g_aload_n K1 1 dX5_take_49 rfl ?_
  refine h_getI K1 q_clX5 6 lyp_62 fkX5_6 fl_X5_55 dX5_take_50 ?_
  refine h_putI K1 q_clX5 6 lyp_12 fkX5_6 fl_X5_55 rfl rfl rfl dX5_take_53 ?_
  refine g_aload_n K1 0 dX5_take_56 rfl ?_
  refine g_aload_n K1 1 dX5_take_57 rfl ?_
  refine h_getI K1 q_clX5 7 lyp_62 fkX5_7 fl_X5_58 dX5_take_58 ?_
  refine h_putI K1 q_clX5 7 lyp_12 fkX5_7 fl_X5_58 rfl rfl rfl dX5_take_61 ?_
  refine g_aload_n K1 1 dX5_take_64 rfl ?_
  refine h_getO K1 q_clX5 8 63 lyp_62 fkX5_8 rfl fl_X5_9 dX5_take_65 ?_
  refine g_iconst K1 0 dX5_take_68 rfl ?_
  refine g_aload_n K1 0 dX5_take_69 rfl ?_
  refine h_getO K1 q_clX5 8 13 lyp_12 fkX5_8 rfl fl_X5_9 dX5_take_70 ?_
  refine g_iconst K1 0 dX5_take_73 rfl ?_
  refine g_bipush K1 7 dX5_take_74 rfl ?_
  obtain ⟨hg, h⟩ := h
  refine h_copyI K1 lyp_63 lyp_13 hg (Nat.le_of_ble_eq_true rfl) ⟨Nat.le_of_ble_eq_true rfl, Nat.le_of_ble_eq_true rfl⟩ ml_X5_61 dX5_take_76 ?_
  refine g_nameMI (fun I3 hI3 => ?_)
  replace h := h I3 hI3
  refine g_aload_n K1 1 dX5_take_79 rfl ?_
  refine h_getO K1 q_clX5 9 64 lyp_62 fkX5_9 rfl fl_X5_15 dX5_take_80 ?_
  refine g_iconst K1 0 dX5_take_83 rfl ?_
  refine g_aload_n K1 0 dX5_take_84 rfl ?_
  refine h_getO K1 q_clX5 9 14 lyp_12 fkX5_9 rfl fl_X5_15 dX5_take_85 ?_
  refine g_iconst K1 0 dX5_take_88 rfl ?_
  refine g_bipush K1 7 dX5_take_89 rfl ?_
  obtain ⟨hg, h⟩ := h
  refine h_copyI K1 lyp_64 lyp_14 hg (Nat.le_of_ble_eq_true rfl) ⟨Nat.le_of_ble_eq_true rfl, Nat.le_of_ble_eq_true rfl⟩ ml_X5_61 dX5_take_91 ?_
  refine g_nameMI (fun I4 hI4 => ?_)
  replace h := h I4 hI4
  refine g_aload_n K1 1 dX5_take_94 rfl ?_
  refine h_getO K1 q_clX5 10 65 lyp_62 fkX5_10 rfl fl_X5_18 dX5_take_95 ?_
  refine g_iconst K1 0 dX5_take_98 rfl ?_
  refine g_aload_n K1 0 dX5_take_99 rfl ?_
  refine h_getO K1 q_clX5 10 15 lyp_12 fkX5_10 rfl fl_X5_18 dX5_take_100 ?_
  refine g_iconst K1 0 dX5_take_103 rfl ?_
  refine g_bipush K1 7 dX5_take_104 rfl ?_
  obtain ⟨hg, h⟩ := h
  refine h_copyI K1 lyp_65 lyp_15 hg (Nat.le_of_ble_eq_true rfl) ⟨Nat.le_of_ble_eq_true rfl, Nat.le_of_ble_eq_true rfl⟩ ml_X5_61 dX5_take_106 ?_
  refine g_nameMI (fun I5 hI5 => ?_)
  replace h := h I5 hI5
  refine g_aload_n K1 1 dX5_take_109 rfl ?_
  refine h_getO K1 q_clX5 11 66 lyp_62 fkX5_11 rfl fl_X5_21 dX5_take_110 ?_
  refine g_iconst K1 0 dX5_take_113 rfl ?_
  refine g_aload_n K1 0 dX5_take_114 rfl ?_
  refine h_getO K1 q_clX5 11 16 lyp_12 fkX5_11 rfl fl_X5_21 dX5_take_115 ?_
  refine g_iconst K1 0 dX5_take_118 rfl ?_
  refine g_bipush K1 7 dX5_take_119 rfl ?_
  obtain ⟨hg, h⟩ := h
  refine h_copyI K1 lyp_66 lyp_16 hg (Nat.le_of_ble_eq_true rfl) ⟨Nat.le_of_ble_eq_true rfl, Nat.le_of_ble_eq_true rfl⟩ ml_X5_61 dX5_take_121 ?_
  refine g_nameMI (fun I6 hI6 => ?_)
  replace h := h I6 hI6
  refine g_aload_n K1 1 dX5_take_124 rfl ?_
  refine h_getO K1 q_clX5 12 67 lyp_62 fkX5_12 rfl fl_X5_24 dX5_take_125 ?_
  refine g_iconst K1 0 dX5_take_128 rfl ?_
  refine g_aload_n K1 0 dX5_take_129 rfl ?_
  refine h_getO K1 q_clX5 12 17 lyp_12 fkX5_12 rfl fl_X5_24 dX5_take_130 ?_
  refine g_iconst K1 0 dX5_take_133 rfl ?_
  refine g_iconst K1 4 dX5_take_134 rfl ?_
  obtain ⟨hg, h⟩ := h
  refine h_copyI K1 lyp_67 lyp_17 hg (Nat.le_of_ble_eq_true rfl) ⟨Nat.le_of_ble_eq_true rfl, Nat.le_of_ble_eq_true rfl⟩ ml_X5_61 dX5_take_135 ?_
  refine g_nameMI (fun I7 hI7 => ?_)
  replace h := h I7 hI7
  refine g_aload_n K1 1 dX5_take_138 rfl ?_
  refine h_getO K1 q_clX5 13 68 lyp_62 fkX5_13 rfl fl_X5_27 dX5_take_139 ?_
  refine g_iconst K1 0 dX5_take_142 rfl ?_
  refine g_aload_n K1 0 dX5_take_143 rfl ?_
  refine h_getO K1 q_clX5 13 18 lyp_12 fkX5_13 rfl fl_X5_27 dX5_take_144 ?_
  refine g_iconst K1 0 dX5_take_147 rfl ?_
  refine g_iconst K1 4 dX5_take_148 rfl ?_
  obtain ⟨hg, h⟩ := h
  refine h_copyI K1 lyp_68 lyp_18 hg (Nat.le_of_ble_eq_true rfl) ⟨Nat.le_of_ble_eq_true rfl, Nat.le_of_ble_eq_true rfl⟩ ml_X5_61 dX5_take_149 ?_
  refine g_nameMI (fun I8 hI8 => ?_)
  replace h := h I8 hI8
  refine g_aload_n K1 1 dX5_take_152 rfl ?_
  refine h_getO K1 q_clX5 14 69 lyp_62 fkX5_14 rfl fl_X5_30 dX5_take_153 ?_
  refine g_iconst K1 0 dX5_take_156 rfl ?_
  refine g_aload_n K1 0 dX5_take_157 rfl ?_
  refine h_getO K1 q_clX5 14 19 lyp_12 fkX5_14 rfl fl_X5_30 dX5_take_158 ?_
  refine g_iconst K1 0 dX5_take_161 rfl ?_
  refine g_bipush K1 6 dX5_take_162 rfl ?_
  obtain ⟨hg, h⟩ := h
  refine h_copyI K1 lyp_69 lyp_19 hg (Nat.le_of_ble_eq_true rfl) ⟨Nat.le_of_ble_eq_true rfl, Nat.le_of_ble_eq_true rfl⟩ ml_X5_61 dX5_take_164 ?_
  refine g_nameMI (fun I9 hI9 => ?_)
  replace h := h I9 hI9
  refine g_aload_n K1 1 dX5_take_167 rfl ?_
  refine h_getO K1 q_clX5 15 70 lyp_62 fkX5_15 rfl fl_X5_33 dX5_take_168 ?_
  refine g_iconst K1 0 dX5_take_171 rfl ?_
  refine g_aload_n K1 0 dX5_take_172 rfl ?_
  refine h_getO K1 q_clX5 15 20 lyp_12 fkX5_15 rfl fl_X5_33 dX5_take_173 ?_
  refine g_iconst K1 0 dX5_take_176 rfl ?_
  refine g_bipush K1 6 dX5_take_177 rfl ?_
  obtain ⟨hg, h⟩ := h
  refine h_copyI K1 lyp_70 lyp_20 hg (Nat.le_of_ble_eq_true rfl) ⟨Nat.le_of_ble_eq_true rfl, Nat.le_of_ble_eq_true rfl⟩ ml_X5_61 dX5_take_179 ?_
  refine g_nameMI (fun I10 hI10 => ?_)
  replace h := h I10 hI10
  obtain ⟨hr, hI, hL⟩ := h
  subst hr hI hL
  exact g_vreturn K rfl dX5_take_182
theorem c0_X5_take_12_62 {r : Option Value} {I I' : Nat → Nat → Int32} {L L' : Nat → Nat → Int64}  (h : v_X5_take_12_62_0 r I' L' I L ) : q_C kX5_take [.ref 12, .ref 62] I L r I' L' := fun w l => q_ct (by decide) (Nat.le_of_ble_eq_true rfl) (Nat.le_refl _) (fun g _ K => h w g K)
abbrev v_X5_take_36_12_0 (r : Option Value) (I' : Nat → Nat → Int32) (L' : Nat → Nat → Int64) (I : Nat → Nat → Int32) (L : Nat → Nat → Int64)  : Prop := q_W kX5_take 0 [(0, .ref 36), (1, .ref 12)] [] I L r I' L'
set_option maxRecDepth 20000 in
set_option maxHeartbeats 2000000 in
theorem vc_X5_take_36_12_0 {r : Option Value} {I' : Nat → Nat → Int32} {L' : Nat → Nat → Int64} {I : Nat → Nat → Int32} {L : Nat → Nat → Int64}  (h : ∀ I1, I1 = (up2 (up2 (up2 I 36 0 (I 12 0)) 36 1 ((up2 I 36 0 (I 12 0)) 12 1)) 36 2 ((up2 (up2 I 36 0 (I 12 0)) 36 1 ((up2 I 36 0 (I 12 0)) 12 1)) 12 2)) → ∀ I2, I2 = (up2 (up2 (up2 I1 36 3 (I1 12 3)) 36 4 ((up2 I1 36 3 (I1 12 3)) 12 4)) 36 5 ((up2 (up2 I1 36 3 (I1 12 3)) 36 4 ((up2 I1 36 3 (I1 12 3)) 12 4)) 12 5)) → ((¬ (0 : Int32) < 0 ∧ ¬ (0 : Int32) < 0 ∧ ¬ (7 : Int32) < 0 ∧ (0 : Int32).toNatClampNeg + (7 : Int32).toNatClampNeg ≤ 7 ∧ (0 : Int32).toNatClampNeg + (7 : Int32).toNatClampNeg ≤ 7) ∧ ∀ I3, I3 = (upr (up2 (up2 I2 36 6 (I2 12 6)) 36 7 ((up2 I2 36 6 (I2 12 6)) 12 7)) 37 (va_cpy ((up2 (up2 I2 36 6 (I2 12 6)) 36 7 ((up2 I2 36 6 (I2 12 6)) 12 7)) 13) ((up2 (up2 I2 36 6 (I2 12 6)) 36 7 ((up2 I2 36 6 (I2 12 6)) 12 7)) 37) (0 : Int32).toNatClampNeg (0 : Int32).toNatClampNeg (7 : Int32).toNatClampNeg)) → ((¬ (0 : Int32) < 0 ∧ ¬ (0 : Int32) < 0 ∧ ¬ (7 : Int32) < 0 ∧ (0 : Int32).toNatClampNeg + (7 : Int32).toNatClampNeg ≤ 7 ∧ (0 : Int32).toNatClampNeg + (7 : Int32).toNatClampNeg ≤ 7) ∧ ∀ I4, I4 = (upr I3 38 (va_cpy (I3 14) (I3 38) (0 : Int32).toNatClampNeg (0 : Int32).toNatClampNeg (7 : Int32).toNatClampNeg)) → ((¬ (0 : Int32) < 0 ∧ ¬ (0 : Int32) < 0 ∧ ¬ (7 : Int32) < 0 ∧ (0 : Int32).toNatClampNeg + (7 : Int32).toNatClampNeg ≤ 7 ∧ (0 : Int32).toNatClampNeg + (7 : Int32).toNatClampNeg ≤ 7) ∧ ∀ I5, I5 = (upr I4 39 (va_cpy (I4 15) (I4 39) (0 : Int32).toNatClampNeg (0 : Int32).toNatClampNeg (7 : Int32).toNatClampNeg)) → ((¬ (0 : Int32) < 0 ∧ ¬ (0 : Int32) < 0 ∧ ¬ (7 : Int32) < 0 ∧ (0 : Int32).toNatClampNeg + (7 : Int32).toNatClampNeg ≤ 7 ∧ (0 : Int32).toNatClampNeg + (7 : Int32).toNatClampNeg ≤ 7) ∧ ∀ I6, I6 = (upr I5 40 (va_cpy (I5 16) (I5 40) (0 : Int32).toNatClampNeg (0 : Int32).toNatClampNeg (7 : Int32).toNatClampNeg)) → ((¬ (0 : Int32) < 0 ∧ ¬ (0 : Int32) < 0 ∧ ¬ (4 : Int32) < 0 ∧ (0 : Int32).toNatClampNeg + (4 : Int32).toNatClampNeg ≤ 4 ∧ (0 : Int32).toNatClampNeg + (4 : Int32).toNatClampNeg ≤ 4) ∧ ∀ I7, I7 = (upr I6 41 (va_cpy (I6 17) (I6 41) (0 : Int32).toNatClampNeg (0 : Int32).toNatClampNeg (4 : Int32).toNatClampNeg)) → ((¬ (0 : Int32) < 0 ∧ ¬ (0 : Int32) < 0 ∧ ¬ (4 : Int32) < 0 ∧ (0 : Int32).toNatClampNeg + (4 : Int32).toNatClampNeg ≤ 4 ∧ (0 : Int32).toNatClampNeg + (4 : Int32).toNatClampNeg ≤ 4) ∧ ∀ I8, I8 = (upr I7 42 (va_cpy (I7 18) (I7 42) (0 : Int32).toNatClampNeg (0 : Int32).toNatClampNeg (4 : Int32).toNatClampNeg)) → ((¬ (0 : Int32) < 0 ∧ ¬ (0 : Int32) < 0 ∧ ¬ (6 : Int32) < 0 ∧ (0 : Int32).toNatClampNeg + (6 : Int32).toNatClampNeg ≤ 6 ∧ (0 : Int32).toNatClampNeg + (6 : Int32).toNatClampNeg ≤ 6) ∧ ∀ I9, I9 = (upr I8 43 (va_cpy (I8 19) (I8 43) (0 : Int32).toNatClampNeg (0 : Int32).toNatClampNeg (6 : Int32).toNatClampNeg)) → ((¬ (0 : Int32) < 0 ∧ ¬ (0 : Int32) < 0 ∧ ¬ (6 : Int32) < 0 ∧ (0 : Int32).toNatClampNeg + (6 : Int32).toNatClampNeg ≤ 6 ∧ (0 : Int32).toNatClampNeg + (6 : Int32).toNatClampNeg ≤ 6) ∧ ∀ I10, I10 = (upr I9 44 (va_cpy (I9 20) (I9 44) (0 : Int32).toNatClampNeg (0 : Int32).toNatClampNeg (6 : Int32).toNatClampNeg)) → (r = none ∧ I' = I10 ∧ L' = L)))))))))) : v_X5_take_36_12_0 r I' L' I L  := by
  intro w g K
  have K1 := K.1
  refine g_aload_n K1 0 dX5_take_0 rfl ?_
  refine g_aload_n K1 1 dX5_take_1 rfl ?_
  refine h_getI K1 q_clX5 0 lyp_12 fkX5_0 fl_X5_36 dX5_take_2 ?_
  refine h_putI K1 q_clX5 0 lyp_36 fkX5_0 fl_X5_36 rfl rfl rfl dX5_take_5 ?_
  refine g_aload_n K1 0 dX5_take_8 rfl ?_
  refine g_aload_n K1 1 dX5_take_9 rfl ?_
  refine h_getI K1 q_clX5 1 lyp_12 fkX5_1 fl_X5_40 dX5_take_10 ?_
  refine h_putI K1 q_clX5 1 lyp_36 fkX5_1 fl_X5_40 rfl rfl rfl dX5_take_13 ?_
  refine g_aload_n K1 0 dX5_take_16 rfl ?_
  refine g_aload_n K1 1 dX5_take_17 rfl ?_
  refine h_getI K1 q_clX5 2 lyp_12 fkX5_2 fl_X5_43 dX5_take_18 ?_
  refine h_putI K1 q_clX5 2 lyp_36 fkX5_2 fl_X5_43 rfl rfl rfl dX5_take_21 ?_
  refine g_nameMI (fun I1 hI1 => ?_)
  replace h := h I1 hI1
  refine g_aload_n K1 0 dX5_take_24 rfl ?_
  refine g_aload_n K1 1 dX5_take_25 rfl ?_
  refine h_getI K1 q_clX5 3 lyp_12 fkX5_3 fl_X5_46 dX5_take_26 ?_
  refine h_putI K1 q_clX5 3 lyp_36 fkX5_3 fl_X5_46 rfl rfl rfl dX5_take_29 ?_
  refine g_aload_n K1 0 dX5_take_32 rfl ?_
  refine g_aload_n K1 1 dX5_take_33 rfl ?_
  refine h_getI K1 q_clX5 4 lyp_12 fkX5_4 fl_X5_49 dX5_take_34 ?_
  refine h_putI K1 q_clX5 4 lyp_36 fkX5_4 fl_X5_49 rfl rfl rfl dX5_take_37 ?_
  refine g_aload_n K1 0 dX5_take_40 rfl ?_
  refine g_aload_n K1 1 dX5_take_41 rfl ?_
  refine h_getI K1 q_clX5 5 lyp_12 fkX5_5 fl_X5_52 dX5_take_42 ?_
  refine h_putI K1 q_clX5 5 lyp_36 fkX5_5 fl_X5_52 rfl rfl rfl dX5_take_45 ?_
  refine g_nameMI (fun I2 hI2 => ?_)
  replace h := h I2 hI2
  refine g_aload_n K1 0 dX5_take_48 rfl ?_
  refine g_aload_n K1 1 dX5_take_49 rfl ?_
  refine h_getI K1 q_clX5 6 lyp_12 fkX5_6 fl_X5_55 dX5_take_50 ?_
  refine h_putI K1 q_clX5 6 lyp_36 fkX5_6 fl_X5_55 rfl rfl rfl dX5_take_53 ?_
  refine g_aload_n K1 0 dX5_take_56 rfl ?_
  refine g_aload_n K1 1 dX5_take_57 rfl ?_
  refine h_getI K1 q_clX5 7 lyp_12 fkX5_7 fl_X5_58 dX5_take_58 ?_
  refine h_putI K1 q_clX5 7 lyp_36 fkX5_7 fl_X5_58 rfl rfl rfl dX5_take_61 ?_
  refine g_aload_n K1 1 dX5_take_64 rfl ?_
  refine h_getO K1 q_clX5 8 13 lyp_12 fkX5_8 rfl fl_X5_9 dX5_take_65 ?_
  refine g_iconst K1 0 dX5_take_68 rfl ?_
  refine g_aload_n K1 0 dX5_take_69 rfl ?_
  refine h_getO K1 q_clX5 8 37 lyp_36 fkX5_8 rfl fl_X5_9 dX5_take_70 ?_
  refine g_iconst K1 0 dX5_take_73 rfl ?_
  refine g_bipush K1 7 dX5_take_74 rfl ?_
  obtain ⟨hg, h⟩ := h
  refine h_copyI K1 lyp_13 lyp_37 hg (Nat.le_of_ble_eq_true rfl) ⟨Nat.le_of_ble_eq_true rfl, Nat.le_of_ble_eq_true rfl⟩ ml_X5_61 dX5_take_76 ?_
  refine g_nameMI (fun I3 hI3 => ?_)
  replace h := h I3 hI3
  refine g_aload_n K1 1 dX5_take_79 rfl ?_
  refine h_getO K1 q_clX5 9 14 lyp_12 fkX5_9 rfl fl_X5_15 dX5_take_80 ?_
  refine g_iconst K1 0 dX5_take_83 rfl ?_
  refine g_aload_n K1 0 dX5_take_84 rfl ?_
  refine h_getO K1 q_clX5 9 38 lyp_36 fkX5_9 rfl fl_X5_15 dX5_take_85 ?_
  refine g_iconst K1 0 dX5_take_88 rfl ?_
  refine g_bipush K1 7 dX5_take_89 rfl ?_
  obtain ⟨hg, h⟩ := h
  refine h_copyI K1 lyp_14 lyp_38 hg (Nat.le_of_ble_eq_true rfl) ⟨Nat.le_of_ble_eq_true rfl, Nat.le_of_ble_eq_true rfl⟩ ml_X5_61 dX5_take_91 ?_
  refine g_nameMI (fun I4 hI4 => ?_)
  replace h := h I4 hI4
  refine g_aload_n K1 1 dX5_take_94 rfl ?_
  refine h_getO K1 q_clX5 10 15 lyp_12 fkX5_10 rfl fl_X5_18 dX5_take_95 ?_
  refine g_iconst K1 0 dX5_take_98 rfl ?_
  refine g_aload_n K1 0 dX5_take_99 rfl ?_
  refine h_getO K1 q_clX5 10 39 lyp_36 fkX5_10 rfl fl_X5_18 dX5_take_100 ?_
  refine g_iconst K1 0 dX5_take_103 rfl ?_
  refine g_bipush K1 7 dX5_take_104 rfl ?_
  obtain ⟨hg, h⟩ := h
  refine h_copyI K1 lyp_15 lyp_39 hg (Nat.le_of_ble_eq_true rfl) ⟨Nat.le_of_ble_eq_true rfl, Nat.le_of_ble_eq_true rfl⟩ ml_X5_61 dX5_take_106 ?_
  refine g_nameMI (fun I5 hI5 => ?_)
  replace h := h I5 hI5
  refine g_aload_n K1 1 dX5_take_109 rfl ?_
  refine h_getO K1 q_clX5 11 16 lyp_12 fkX5_11 rfl fl_X5_21 dX5_take_110 ?_
  refine g_iconst K1 0 dX5_take_113 rfl ?_
  refine g_aload_n K1 0 dX5_take_114 rfl ?_
  refine h_getO K1 q_clX5 11 40 lyp_36 fkX5_11 rfl fl_X5_21 dX5_take_115 ?_
  refine g_iconst K1 0 dX5_take_118 rfl ?_
  refine g_bipush K1 7 dX5_take_119 rfl ?_
  obtain ⟨hg, h⟩ := h
  refine h_copyI K1 lyp_16 lyp_40 hg (Nat.le_of_ble_eq_true rfl) ⟨Nat.le_of_ble_eq_true rfl, Nat.le_of_ble_eq_true rfl⟩ ml_X5_61 dX5_take_121 ?_
  refine g_nameMI (fun I6 hI6 => ?_)
  replace h := h I6 hI6
  refine g_aload_n K1 1 dX5_take_124 rfl ?_
  refine h_getO K1 q_clX5 12 17 lyp_12 fkX5_12 rfl fl_X5_24 dX5_take_125 ?_
  refine g_iconst K1 0 dX5_take_128 rfl ?_
  refine g_aload_n K1 0 dX5_take_129 rfl ?_
  refine h_getO K1 q_clX5 12 41 lyp_36 fkX5_12 rfl fl_X5_24 dX5_take_130 ?_
  refine g_iconst K1 0 dX5_take_133 rfl ?_
  refine g_iconst K1 4 dX5_take_134 rfl ?_
  obtain ⟨hg, h⟩ := h
  refine h_copyI K1 lyp_17 lyp_41 hg (Nat.le_of_ble_eq_true rfl) ⟨Nat.le_of_ble_eq_true rfl, Nat.le_of_ble_eq_true rfl⟩ ml_X5_61 dX5_take_135 ?_
  refine g_nameMI (fun I7 hI7 => ?_)
  replace h := h I7 hI7
  refine g_aload_n K1 1 dX5_take_138 rfl ?_
  refine h_getO K1 q_clX5 13 18 lyp_12 fkX5_13 rfl fl_X5_27 dX5_take_139 ?_
  refine g_iconst K1 0 dX5_take_142 rfl ?_
  refine g_aload_n K1 0 dX5_take_143 rfl ?_
  refine h_getO K1 q_clX5 13 42 lyp_36 fkX5_13 rfl fl_X5_27 dX5_take_144 ?_
  refine g_iconst K1 0 dX5_take_147 rfl ?_
  refine g_iconst K1 4 dX5_take_148 rfl ?_
  obtain ⟨hg, h⟩ := h
  refine h_copyI K1 lyp_18 lyp_42 hg (Nat.le_of_ble_eq_true rfl) ⟨Nat.le_of_ble_eq_true rfl, Nat.le_of_ble_eq_true rfl⟩ ml_X5_61 dX5_take_149 ?_
  refine g_nameMI (fun I8 hI8 => ?_)
  replace h := h I8 hI8
  refine g_aload_n K1 1 dX5_take_152 rfl ?_
  refine h_getO K1 q_clX5 14 19 lyp_12 fkX5_14 rfl fl_X5_30 dX5_take_153 ?_
  refine g_iconst K1 0 dX5_take_156 rfl ?_
  refine g_aload_n K1 0 dX5_take_157 rfl ?_
  refine h_getO K1 q_clX5 14 43 lyp_36 fkX5_14 rfl fl_X5_30 dX5_take_158 ?_
  refine g_iconst K1 0 dX5_take_161 rfl ?_
  refine g_bipush K1 6 dX5_take_162 rfl ?_
  obtain ⟨hg, h⟩ := h
  refine h_copyI K1 lyp_19 lyp_43 hg (Nat.le_of_ble_eq_true rfl) ⟨Nat.le_of_ble_eq_true rfl, Nat.le_of_ble_eq_true rfl⟩ ml_X5_61 dX5_take_164 ?_
  refine g_nameMI (fun I9 hI9 => ?_)
  replace h := h I9 hI9
  refine g_aload_n K1 1 dX5_take_167 rfl ?_
  refine h_getO K1 q_clX5 15 20 lyp_12 fkX5_15 rfl fl_X5_33 dX5_take_168 ?_
  refine g_iconst K1 0 dX5_take_171 rfl ?_
  refine g_aload_n K1 0 dX5_take_172 rfl ?_
  refine h_getO K1 q_clX5 15 44 lyp_36 fkX5_15 rfl fl_X5_33 dX5_take_173 ?_
  refine g_iconst K1 0 dX5_take_176 rfl ?_
  refine g_bipush K1 6 dX5_take_177 rfl ?_
  obtain ⟨hg, h⟩ := h
  refine h_copyI K1 lyp_20 lyp_44 hg (Nat.le_of_ble_eq_true rfl) ⟨Nat.le_of_ble_eq_true rfl, Nat.le_of_ble_eq_true rfl⟩ ml_X5_61 dX5_take_179 ?_
  refine g_nameMI (fun I10 hI10 => ?_)
  replace h := h I10 hI10
  obtain ⟨hr, hI, hL⟩ := h
  subst hr hI hL
  exact g_vreturn K rfl dX5_take_182
theorem c0_X5_take_36_12 {r : Option Value} {I I' : Nat → Nat → Int32} {L L' : Nat → Nat → Int64}  (h : v_X5_take_36_12_0 r I' L' I L ) : q_C kX5_take [.ref 36, .ref 12] I L r I' L' := fun w l => q_ct (by decide) (Nat.le_of_ble_eq_true rfl) (Nat.le_refl _) (fun g _ K => h w g K)
abbrev v_X5_take_49_12_0 (r : Option Value) (I' : Nat → Nat → Int32) (L' : Nat → Nat → Int64) (I : Nat → Nat → Int32) (L : Nat → Nat → Int64)  : Prop := q_W kX5_take 0 [(0, .ref 49), (1, .ref 12)] [] I L r I' L'
set_option maxRecDepth 20000 in
set_option maxHeartbeats 2000000 in
theorem vc_X5_take_49_12_0 {r : Option Value} {I' : Nat → Nat → Int32} {L' : Nat → Nat → Int64} {I : Nat → Nat → Int32} {L : Nat → Nat → Int64}  (h : ∀ I1, I1 = (up2 (up2 (up2 I 49 0 (I 12 0)) 49 1 ((up2 I 49 0 (I 12 0)) 12 1)) 49 2 ((up2 (up2 I 49 0 (I 12 0)) 49 1 ((up2 I 49 0 (I 12 0)) 12 1)) 12 2)) → ∀ I2, I2 = (up2 (up2 (up2 I1 49 3 (I1 12 3)) 49 4 ((up2 I1 49 3 (I1 12 3)) 12 4)) 49 5 ((up2 (up2 I1 49 3 (I1 12 3)) 49 4 ((up2 I1 49 3 (I1 12 3)) 12 4)) 12 5)) → ((¬ (0 : Int32) < 0 ∧ ¬ (0 : Int32) < 0 ∧ ¬ (7 : Int32) < 0 ∧ (0 : Int32).toNatClampNeg + (7 : Int32).toNatClampNeg ≤ 7 ∧ (0 : Int32).toNatClampNeg + (7 : Int32).toNatClampNeg ≤ 7) ∧ ∀ I3, I3 = (upr (up2 (up2 I2 49 6 (I2 12 6)) 49 7 ((up2 I2 49 6 (I2 12 6)) 12 7)) 50 (va_cpy ((up2 (up2 I2 49 6 (I2 12 6)) 49 7 ((up2 I2 49 6 (I2 12 6)) 12 7)) 13) ((up2 (up2 I2 49 6 (I2 12 6)) 49 7 ((up2 I2 49 6 (I2 12 6)) 12 7)) 50) (0 : Int32).toNatClampNeg (0 : Int32).toNatClampNeg (7 : Int32).toNatClampNeg)) → ((¬ (0 : Int32) < 0 ∧ ¬ (0 : Int32) < 0 ∧ ¬ (7 : Int32) < 0 ∧ (0 : Int32).toNatClampNeg + (7 : Int32).toNatClampNeg ≤ 7 ∧ (0 : Int32).toNatClampNeg + (7 : Int32).toNatClampNeg ≤ 7) ∧ ∀ I4, I4 = (upr I3 51 (va_cpy (I3 14) (I3 51) (0 : Int32).toNatClampNeg (0 : Int32).toNatClampNeg (7 : Int32).toNatClampNeg)) → ((¬ (0 : Int32) < 0 ∧ ¬ (0 : Int32) < 0 ∧ ¬ (7 : Int32) < 0 ∧ (0 : Int32).toNatClampNeg + (7 : Int32).toNatClampNeg ≤ 7 ∧ (0 : Int32).toNatClampNeg + (7 : Int32).toNatClampNeg ≤ 7) ∧ ∀ I5, I5 = (upr I4 52 (va_cpy (I4 15) (I4 52) (0 : Int32).toNatClampNeg (0 : Int32).toNatClampNeg (7 : Int32).toNatClampNeg)) → ((¬ (0 : Int32) < 0 ∧ ¬ (0 : Int32) < 0 ∧ ¬ (7 : Int32) < 0 ∧ (0 : Int32).toNatClampNeg + (7 : Int32).toNatClampNeg ≤ 7 ∧ (0 : Int32).toNatClampNeg + (7 : Int32).toNatClampNeg ≤ 7) ∧ ∀ I6, I6 = (upr I5 53 (va_cpy (I5 16) (I5 53) (0 : Int32).toNatClampNeg (0 : Int32).toNatClampNeg (7 : Int32).toNatClampNeg)) → ((¬ (0 : Int32) < 0 ∧ ¬ (0 : Int32) < 0 ∧ ¬ (4 : Int32) < 0 ∧ (0 : Int32).toNatClampNeg + (4 : Int32).toNatClampNeg ≤ 4 ∧ (0 : Int32).toNatClampNeg + (4 : Int32).toNatClampNeg ≤ 4) ∧ ∀ I7, I7 = (upr I6 54 (va_cpy (I6 17) (I6 54) (0 : Int32).toNatClampNeg (0 : Int32).toNatClampNeg (4 : Int32).toNatClampNeg)) → ((¬ (0 : Int32) < 0 ∧ ¬ (0 : Int32) < 0 ∧ ¬ (4 : Int32) < 0 ∧ (0 : Int32).toNatClampNeg + (4 : Int32).toNatClampNeg ≤ 4 ∧ (0 : Int32).toNatClampNeg + (4 : Int32).toNatClampNeg ≤ 4) ∧ ∀ I8, I8 = (upr I7 55 (va_cpy (I7 18) (I7 55) (0 : Int32).toNatClampNeg (0 : Int32).toNatClampNeg (4 : Int32).toNatClampNeg)) → ((¬ (0 : Int32) < 0 ∧ ¬ (0 : Int32) < 0 ∧ ¬ (6 : Int32) < 0 ∧ (0 : Int32).toNatClampNeg + (6 : Int32).toNatClampNeg ≤ 6 ∧ (0 : Int32).toNatClampNeg + (6 : Int32).toNatClampNeg ≤ 6) ∧ ∀ I9, I9 = (upr I8 56 (va_cpy (I8 19) (I8 56) (0 : Int32).toNatClampNeg (0 : Int32).toNatClampNeg (6 : Int32).toNatClampNeg)) → ((¬ (0 : Int32) < 0 ∧ ¬ (0 : Int32) < 0 ∧ ¬ (6 : Int32) < 0 ∧ (0 : Int32).toNatClampNeg + (6 : Int32).toNatClampNeg ≤ 6 ∧ (0 : Int32).toNatClampNeg + (6 : Int32).toNatClampNeg ≤ 6) ∧ ∀ I10, I10 = (upr I9 57 (va_cpy (I9 20) (I9 57) (0 : Int32).toNatClampNeg (0 : Int32).toNatClampNeg (6 : Int32).toNatClampNeg)) → (r = none ∧ I' = I10 ∧ L' = L)))))))))) : v_X5_take_49_12_0 r I' L' I L  := by
  intro w g K
  have K1 := K.1
  refine g_aload_n K1 0 dX5_take_0 rfl ?_
  refine g_aload_n K1 1 dX5_take_1 rfl ?_
  refine h_getI K1 q_clX5 0 lyp_12 fkX5_0 fl_X5_36 dX5_take_2 ?_
  refine h_putI K1 q_clX5 0 lyp_49 fkX5_0 fl_X5_36 rfl rfl rfl dX5_take_5 ?_
  refine g_aload_n K1 0 dX5_take_8 rfl ?_
  refine g_aload_n K1 1 dX5_take_9 rfl ?_
  refine h_getI K1 q_clX5 1 lyp_12 fkX5_1 fl_X5_40 dX5_take_10 ?_
  refine h_putI K1 q_clX5 1 lyp_49 fkX5_1 fl_X5_40 rfl rfl rfl dX5_take_13 ?_
  refine g_aload_n K1 0 dX5_take_16 rfl ?_
  refine g_aload_n K1 1 dX5_take_17 rfl ?_
  refine h_getI K1 q_clX5 2 lyp_12 fkX5_2 fl_X5_43 dX5_take_18 ?_
  refine h_putI K1 q_clX5 2 lyp_49 fkX5_2 fl_X5_43 rfl rfl rfl dX5_take_21 ?_
  refine g_nameMI (fun I1 hI1 => ?_)
  replace h := h I1 hI1
  refine g_aload_n K1 0 dX5_take_24 rfl ?_
  refine g_aload_n K1 1 dX5_take_25 rfl ?_
  refine h_getI K1 q_clX5 3 lyp_12 fkX5_3 fl_X5_46 dX5_take_26 ?_
  refine h_putI K1 q_clX5 3 lyp_49 fkX5_3 fl_X5_46 rfl rfl rfl dX5_take_29 ?_
  refine g_aload_n K1 0 dX5_take_32 rfl ?_
  refine g_aload_n K1 1 dX5_take_33 rfl ?_
  refine h_getI K1 q_clX5 4 lyp_12 fkX5_4 fl_X5_49 dX5_take_34 ?_
  refine h_putI K1 q_clX5 4 lyp_49 fkX5_4 fl_X5_49 rfl rfl rfl dX5_take_37 ?_
  refine g_aload_n K1 0 dX5_take_40 rfl ?_
  refine g_aload_n K1 1 dX5_take_41 rfl ?_
  refine h_getI K1 q_clX5 5 lyp_12 fkX5_5 fl_X5_52 dX5_take_42 ?_
  refine h_putI K1 q_clX5 5 lyp_49 fkX5_5 fl_X5_52 rfl rfl rfl dX5_take_45 ?_
  refine g_nameMI (fun I2 hI2 => ?_)
  replace h := h I2 hI2
  refine g_aload_n K1 0 dX5_take_48 rfl ?_
  refine g_aload_n K1 1 dX5_take_49 rfl ?_
  refine h_getI K1 q_clX5 6 lyp_12 fkX5_6 fl_X5_55 dX5_take_50 ?_
  refine h_putI K1 q_clX5 6 lyp_49 fkX5_6 fl_X5_55 rfl rfl rfl dX5_take_53 ?_
  refine g_aload_n K1 0 dX5_take_56 rfl ?_
  refine g_aload_n K1 1 dX5_take_57 rfl ?_
  refine h_getI K1 q_clX5 7 lyp_12 fkX5_7 fl_X5_58 dX5_take_58 ?_
  refine h_putI K1 q_clX5 7 lyp_49 fkX5_7 fl_X5_58 rfl rfl rfl dX5_take_61 ?_
  refine g_aload_n K1 1 dX5_take_64 rfl ?_
  refine h_getO K1 q_clX5 8 13 lyp_12 fkX5_8 rfl fl_X5_9 dX5_take_65 ?_
  refine g_iconst K1 0 dX5_take_68 rfl ?_
  refine g_aload_n K1 0 dX5_take_69 rfl ?_
  refine h_getO K1 q_clX5 8 50 lyp_49 fkX5_8 rfl fl_X5_9 dX5_take_70 ?_
  refine g_iconst K1 0 dX5_take_73 rfl ?_
  refine g_bipush K1 7 dX5_take_74 rfl ?_
  obtain ⟨hg, h⟩ := h
  refine h_copyI K1 lyp_13 lyp_50 hg (Nat.le_of_ble_eq_true rfl) ⟨Nat.le_of_ble_eq_true rfl, Nat.le_of_ble_eq_true rfl⟩ ml_X5_61 dX5_take_76 ?_
  refine g_nameMI (fun I3 hI3 => ?_)
  replace h := h I3 hI3
  refine g_aload_n K1 1 dX5_take_79 rfl ?_
  refine h_getO K1 q_clX5 9 14 lyp_12 fkX5_9 rfl fl_X5_15 dX5_take_80 ?_
  refine g_iconst K1 0 dX5_take_83 rfl ?_
  refine g_aload_n K1 0 dX5_take_84 rfl ?_
  refine h_getO K1 q_clX5 9 51 lyp_49 fkX5_9 rfl fl_X5_15 dX5_take_85 ?_
  refine g_iconst K1 0 dX5_take_88 rfl ?_
  refine g_bipush K1 7 dX5_take_89 rfl ?_
  obtain ⟨hg, h⟩ := h
  refine h_copyI K1 lyp_14 lyp_51 hg (Nat.le_of_ble_eq_true rfl) ⟨Nat.le_of_ble_eq_true rfl, Nat.le_of_ble_eq_true rfl⟩ ml_X5_61 dX5_take_91 ?_
  refine g_nameMI (fun I4 hI4 => ?_)
  replace h := h I4 hI4
  refine g_aload_n K1 1 dX5_take_94 rfl ?_
  refine h_getO K1 q_clX5 10 15 lyp_12 fkX5_10 rfl fl_X5_18 dX5_take_95 ?_
  refine g_iconst K1 0 dX5_take_98 rfl ?_
  refine g_aload_n K1 0 dX5_take_99 rfl ?_
  refine h_getO K1 q_clX5 10 52 lyp_49 fkX5_10 rfl fl_X5_18 dX5_take_100 ?_
  refine g_iconst K1 0 dX5_take_103 rfl ?_
  refine g_bipush K1 7 dX5_take_104 rfl ?_
  obtain ⟨hg, h⟩ := h
  refine h_copyI K1 lyp_15 lyp_52 hg (Nat.le_of_ble_eq_true rfl) ⟨Nat.le_of_ble_eq_true rfl, Nat.le_of_ble_eq_true rfl⟩ ml_X5_61 dX5_take_106 ?_
  refine g_nameMI (fun I5 hI5 => ?_)
  replace h := h I5 hI5
  refine g_aload_n K1 1 dX5_take_109 rfl ?_
  refine h_getO K1 q_clX5 11 16 lyp_12 fkX5_11 rfl fl_X5_21 dX5_take_110 ?_
  refine g_iconst K1 0 dX5_take_113 rfl ?_
  refine g_aload_n K1 0 dX5_take_114 rfl ?_
  refine h_getO K1 q_clX5 11 53 lyp_49 fkX5_11 rfl fl_X5_21 dX5_take_115 ?_
  refine g_iconst K1 0 dX5_take_118 rfl ?_
  refine g_bipush K1 7 dX5_take_119 rfl ?_
  obtain ⟨hg, h⟩ := h
  refine h_copyI K1 lyp_16 lyp_53 hg (Nat.le_of_ble_eq_true rfl) ⟨Nat.le_of_ble_eq_true rfl, Nat.le_of_ble_eq_true rfl⟩ ml_X5_61 dX5_take_121 ?_
  refine g_nameMI (fun I6 hI6 => ?_)
  replace h := h I6 hI6
  refine g_aload_n K1 1 dX5_take_124 rfl ?_
  refine h_getO K1 q_clX5 12 17 lyp_12 fkX5_12 rfl fl_X5_24 dX5_take_125 ?_
  refine g_iconst K1 0 dX5_take_128 rfl ?_
  refine g_aload_n K1 0 dX5_take_129 rfl ?_
  refine h_getO K1 q_clX5 12 54 lyp_49 fkX5_12 rfl fl_X5_24 dX5_take_130 ?_
  refine g_iconst K1 0 dX5_take_133 rfl ?_
  refine g_iconst K1 4 dX5_take_134 rfl ?_
  obtain ⟨hg, h⟩ := h
  refine h_copyI K1 lyp_17 lyp_54 hg (Nat.le_of_ble_eq_true rfl) ⟨Nat.le_of_ble_eq_true rfl, Nat.le_of_ble_eq_true rfl⟩ ml_X5_61 dX5_take_135 ?_
  refine g_nameMI (fun I7 hI7 => ?_)
  replace h := h I7 hI7
  refine g_aload_n K1 1 dX5_take_138 rfl ?_
  refine h_getO K1 q_clX5 13 18 lyp_12 fkX5_13 rfl fl_X5_27 dX5_take_139 ?_
  refine g_iconst K1 0 dX5_take_142 rfl ?_
  refine g_aload_n K1 0 dX5_take_143 rfl ?_
  refine h_getO K1 q_clX5 13 55 lyp_49 fkX5_13 rfl fl_X5_27 dX5_take_144 ?_
  refine g_iconst K1 0 dX5_take_147 rfl ?_
  refine g_iconst K1 4 dX5_take_148 rfl ?_
  obtain ⟨hg, h⟩ := h
  refine h_copyI K1 lyp_18 lyp_55 hg (Nat.le_of_ble_eq_true rfl) ⟨Nat.le_of_ble_eq_true rfl, Nat.le_of_ble_eq_true rfl⟩ ml_X5_61 dX5_take_149 ?_
  refine g_nameMI (fun I8 hI8 => ?_)
  replace h := h I8 hI8
  refine g_aload_n K1 1 dX5_take_152 rfl ?_
  refine h_getO K1 q_clX5 14 19 lyp_12 fkX5_14 rfl fl_X5_30 dX5_take_153 ?_
  refine g_iconst K1 0 dX5_take_156 rfl ?_
  refine g_aload_n K1 0 dX5_take_157 rfl ?_
  refine h_getO K1 q_clX5 14 56 lyp_49 fkX5_14 rfl fl_X5_30 dX5_take_158 ?_
  refine g_iconst K1 0 dX5_take_161 rfl ?_
  refine g_bipush K1 6 dX5_take_162 rfl ?_
  obtain ⟨hg, h⟩ := h
  refine h_copyI K1 lyp_19 lyp_56 hg (Nat.le_of_ble_eq_true rfl) ⟨Nat.le_of_ble_eq_true rfl, Nat.le_of_ble_eq_true rfl⟩ ml_X5_61 dX5_take_164 ?_
  refine g_nameMI (fun I9 hI9 => ?_)
  replace h := h I9 hI9
  refine g_aload_n K1 1 dX5_take_167 rfl ?_
  refine h_getO K1 q_clX5 15 20 lyp_12 fkX5_15 rfl fl_X5_33 dX5_take_168 ?_
  refine g_iconst K1 0 dX5_take_171 rfl ?_
  refine g_aload_n K1 0 dX5_take_172 rfl ?_
  refine h_getO K1 q_clX5 15 57 lyp_49 fkX5_15 rfl fl_X5_33 dX5_take_173 ?_
  refine g_iconst K1 0 dX5_take_176 rfl ?_
  refine g_bipush K1 6 dX5_take_177 rfl ?_
  obtain ⟨hg, h⟩ := h
  refine h_copyI K1 lyp_20 lyp_57 hg (Nat.le_of_ble_eq_true rfl) ⟨Nat.le_of_ble_eq_true rfl, Nat.le_of_ble_eq_true rfl⟩ ml_X5_61 dX5_take_179 ?_
  refine g_nameMI (fun I10 hI10 => ?_)
  replace h := h I10 hI10
  obtain ⟨hr, hI, hL⟩ := h
  subst hr hI hL
  exact g_vreturn K rfl dX5_take_182
theorem c0_X5_take_49_12 {r : Option Value} {I I' : Nat → Nat → Int32} {L L' : Nat → Nat → Int64}  (h : v_X5_take_49_12_0 r I' L' I L ) : q_C kX5_take [.ref 49, .ref 12] I L r I' L' := fun w l => q_ct (by decide) (Nat.le_of_ble_eq_true rfl) (Nat.le_refl _) (fun g _ K => h w g K)
abbrev v_X5_take_62_12_0 (r : Option Value) (I' : Nat → Nat → Int32) (L' : Nat → Nat → Int64) (I : Nat → Nat → Int32) (L : Nat → Nat → Int64)  : Prop := q_W kX5_take 0 [(0, .ref 62), (1, .ref 12)] [] I L r I' L'
set_option maxRecDepth 20000 in
set_option maxHeartbeats 2000000 in
theorem vc_X5_take_62_12_0 {r : Option Value} {I' : Nat → Nat → Int32} {L' : Nat → Nat → Int64} {I : Nat → Nat → Int32} {L : Nat → Nat → Int64}  (h : ∀ I1, I1 = (up2 (up2 (up2 I 62 0 (I 12 0)) 62 1 ((up2 I 62 0 (I 12 0)) 12 1)) 62 2 ((up2 (up2 I 62 0 (I 12 0)) 62 1 ((up2 I 62 0 (I 12 0)) 12 1)) 12 2)) → ∀ I2, I2 = (up2 (up2 (up2 I1 62 3 (I1 12 3)) 62 4 ((up2 I1 62 3 (I1 12 3)) 12 4)) 62 5 ((up2 (up2 I1 62 3 (I1 12 3)) 62 4 ((up2 I1 62 3 (I1 12 3)) 12 4)) 12 5)) → ((¬ (0 : Int32) < 0 ∧ ¬ (0 : Int32) < 0 ∧ ¬ (7 : Int32) < 0 ∧ (0 : Int32).toNatClampNeg + (7 : Int32).toNatClampNeg ≤ 7 ∧ (0 : Int32).toNatClampNeg + (7 : Int32).toNatClampNeg ≤ 7) ∧ ∀ I3, I3 = (upr (up2 (up2 I2 62 6 (I2 12 6)) 62 7 ((up2 I2 62 6 (I2 12 6)) 12 7)) 63 (va_cpy ((up2 (up2 I2 62 6 (I2 12 6)) 62 7 ((up2 I2 62 6 (I2 12 6)) 12 7)) 13) ((up2 (up2 I2 62 6 (I2 12 6)) 62 7 ((up2 I2 62 6 (I2 12 6)) 12 7)) 63) (0 : Int32).toNatClampNeg (0 : Int32).toNatClampNeg (7 : Int32).toNatClampNeg)) → ((¬ (0 : Int32) < 0 ∧ ¬ (0 : Int32) < 0 ∧ ¬ (7 : Int32) < 0 ∧ (0 : Int32).toNatClampNeg + (7 : Int32).toNatClampNeg ≤ 7 ∧ (0 : Int32).toNatClampNeg + (7 : Int32).toNatClampNeg ≤ 7) ∧ ∀ I4, I4 = (upr I3 64 (va_cpy (I3 14) (I3 64) (0 : Int32).toNatClampNeg (0 : Int32).toNatClampNeg (7 : Int32).toNatClampNeg)) → ((¬ (0 : Int32) < 0 ∧ ¬ (0 : Int32) < 0 ∧ ¬ (7 : Int32) < 0 ∧ (0 : Int32).toNatClampNeg + (7 : Int32).toNatClampNeg ≤ 7 ∧ (0 : Int32).toNatClampNeg + (7 : Int32).toNatClampNeg ≤ 7) ∧ ∀ I5, I5 = (upr I4 65 (va_cpy (I4 15) (I4 65) (0 : Int32).toNatClampNeg (0 : Int32).toNatClampNeg (7 : Int32).toNatClampNeg)) → ((¬ (0 : Int32) < 0 ∧ ¬ (0 : Int32) < 0 ∧ ¬ (7 : Int32) < 0 ∧ (0 : Int32).toNatClampNeg + (7 : Int32).toNatClampNeg ≤ 7 ∧ (0 : Int32).toNatClampNeg + (7 : Int32).toNatClampNeg ≤ 7) ∧ ∀ I6, I6 = (upr I5 66 (va_cpy (I5 16) (I5 66) (0 : Int32).toNatClampNeg (0 : Int32).toNatClampNeg (7 : Int32).toNatClampNeg)) → ((¬ (0 : Int32) < 0 ∧ ¬ (0 : Int32) < 0 ∧ ¬ (4 : Int32) < 0 ∧ (0 : Int32).toNatClampNeg + (4 : Int32).toNatClampNeg ≤ 4 ∧ (0 : Int32).toNatClampNeg + (4 : Int32).toNatClampNeg ≤ 4) ∧ ∀ I7, I7 = (upr I6 67 (va_cpy (I6 17) (I6 67) (0 : Int32).toNatClampNeg (0 : Int32).toNatClampNeg (4 : Int32).toNatClampNeg)) → ((¬ (0 : Int32) < 0 ∧ ¬ (0 : Int32) < 0 ∧ ¬ (4 : Int32) < 0 ∧ (0 : Int32).toNatClampNeg + (4 : Int32).toNatClampNeg ≤ 4 ∧ (0 : Int32).toNatClampNeg + (4 : Int32).toNatClampNeg ≤ 4) ∧ ∀ I8, I8 = (upr I7 68 (va_cpy (I7 18) (I7 68) (0 : Int32).toNatClampNeg (0 : Int32).toNatClampNeg (4 : Int32).toNatClampNeg)) → ((¬ (0 : Int32) < 0 ∧ ¬ (0 : Int32) < 0 ∧ ¬ (6 : Int32) < 0 ∧ (0 : Int32).toNatClampNeg + (6 : Int32).toNatClampNeg ≤ 6 ∧ (0 : Int32).toNatClampNeg + (6 : Int32).toNatClampNeg ≤ 6) ∧ ∀ I9, I9 = (upr I8 69 (va_cpy (I8 19) (I8 69) (0 : Int32).toNatClampNeg (0 : Int32).toNatClampNeg (6 : Int32).toNatClampNeg)) → ((¬ (0 : Int32) < 0 ∧ ¬ (0 : Int32) < 0 ∧ ¬ (6 : Int32) < 0 ∧ (0 : Int32).toNatClampNeg + (6 : Int32).toNatClampNeg ≤ 6 ∧ (0 : Int32).toNatClampNeg + (6 : Int32).toNatClampNeg ≤ 6) ∧ ∀ I10, I10 = (upr I9 70 (va_cpy (I9 20) (I9 70) (0 : Int32).toNatClampNeg (0 : Int32).toNatClampNeg (6 : Int32).toNatClampNeg)) → (r = none ∧ I' = I10 ∧ L' = L)))))))))) : v_X5_take_62_12_0 r I' L' I L  := by
  intro w g K
  have K1 := K.1
  refine g_aload_n K1 0 dX5_take_0 rfl ?_
  refine g_aload_n K1 1 dX5_take_1 rfl ?_
  refine h_getI K1 q_clX5 0 lyp_12 fkX5_0 fl_X5_36 dX5_take_2 ?_
  refine h_putI K1 q_clX5 0 lyp_62 fkX5_0 fl_X5_36 rfl rfl rfl dX5_take_5 ?_
  refine g_aload_n K1 0 dX5_take_8 rfl ?_
  refine g_aload_n K1 1 dX5_take_9 rfl ?_
  refine h_getI K1 q_clX5 1 lyp_12 fkX5_1 fl_X5_40 dX5_take_10 ?_
  refine h_putI K1 q_clX5 1 lyp_62 fkX5_1 fl_X5_40 rfl rfl rfl dX5_take_13 ?_
  refine g_aload_n K1 0 dX5_take_16 rfl ?_
  refine g_aload_n K1 1 dX5_take_17 rfl ?_
  refine h_getI K1 q_clX5 2 lyp_12 fkX5_2 fl_X5_43 dX5_take_18 ?_
  refine h_putI K1 q_clX5 2 lyp_62 fkX5_2 fl_X5_43 rfl rfl rfl dX5_take_21 ?_
  refine g_nameMI (fun I1 hI1 => ?_)
  replace h := h I1 hI1
  refine g_aload_n K1 0 dX5_take_24 rfl ?_
  refine g_aload_n K1 1 dX5_take_25 rfl ?_
  refine h_getI K1 q_clX5 3 lyp_12 fkX5_3 fl_X5_46 dX5_take_26 ?_
  refine h_putI K1 q_clX5 3 lyp_62 fkX5_3 fl_X5_46 rfl rfl rfl dX5_take_29 ?_
  refine g_aload_n K1 0 dX5_take_32 rfl ?_
  refine g_aload_n K1 1 dX5_take_33 rfl ?_
  refine h_getI K1 q_clX5 4 lyp_12 fkX5_4 fl_X5_49 dX5_take_34 ?_
  refine h_putI K1 q_clX5 4 lyp_62 fkX5_4 fl_X5_49 rfl rfl rfl dX5_take_37 ?_
  refine g_aload_n K1 0 dX5_take_40 rfl ?_
  refine g_aload_n K1 1 dX5_take_41 rfl ?_
  refine h_getI K1 q_clX5 5 lyp_12 fkX5_5 fl_X5_52 dX5_take_42 ?_
  refine h_putI K1 q_clX5 5 lyp_62 fkX5_5 fl_X5_52 rfl rfl rfl dX5_take_45 ?_
  refine g_nameMI (fun I2 hI2 => ?_)
  replace h := h I2 hI2
  refine g_aload_n K1 0 dX5_take_48 rfl ?_
  refine g_aload_n K1 1 dX5_take_49 rfl ?_
  refine h_getI K1 q_clX5 6 lyp_12 fkX5_6 fl_X5_55 dX5_take_50 ?_
  refine h_putI K1 q_clX5 6 lyp_62 fkX5_6 fl_X5_55 rfl rfl rfl dX5_take_53 ?_
  refine g_aload_n K1 0 dX5_take_56 rfl ?_
  refine g_aload_n K1 1 dX5_take_57 rfl ?_
  refine h_getI K1 q_clX5 7 lyp_12 fkX5_7 fl_X5_58 dX5_take_58 ?_
  refine h_putI K1 q_clX5 7 lyp_62 fkX5_7 fl_X5_58 rfl rfl rfl dX5_take_61 ?_
  refine g_aload_n K1 1 dX5_take_64 rfl ?_
  refine h_getO K1 q_clX5 8 13 lyp_12 fkX5_8 rfl fl_X5_9 dX5_take_65 ?_
  refine g_iconst K1 0 dX5_take_68 rfl ?_
  refine g_aload_n K1 0 dX5_take_69 rfl ?_
  refine h_getO K1 q_clX5 8 63 lyp_62 fkX5_8 rfl fl_X5_9 dX5_take_70 ?_
  refine g_iconst K1 0 dX5_take_73 rfl ?_
  refine g_bipush K1 7 dX5_take_74 rfl ?_
  obtain ⟨hg, h⟩ := h
  refine h_copyI K1 lyp_13 lyp_63 hg (Nat.le_of_ble_eq_true rfl) ⟨Nat.le_of_ble_eq_true rfl, Nat.le_of_ble_eq_true rfl⟩ ml_X5_61 dX5_take_76 ?_
  refine g_nameMI (fun I3 hI3 => ?_)
  replace h := h I3 hI3
  refine g_aload_n K1 1 dX5_take_79 rfl ?_
  refine h_getO K1 q_clX5 9 14 lyp_12 fkX5_9 rfl fl_X5_15 dX5_take_80 ?_
  refine g_iconst K1 0 dX5_take_83 rfl ?_
  refine g_aload_n K1 0 dX5_take_84 rfl ?_
  refine h_getO K1 q_clX5 9 64 lyp_62 fkX5_9 rfl fl_X5_15 dX5_take_85 ?_
  refine g_iconst K1 0 dX5_take_88 rfl ?_
  refine g_bipush K1 7 dX5_take_89 rfl ?_
  obtain ⟨hg, h⟩ := h
  refine h_copyI K1 lyp_14 lyp_64 hg (Nat.le_of_ble_eq_true rfl) ⟨Nat.le_of_ble_eq_true rfl, Nat.le_of_ble_eq_true rfl⟩ ml_X5_61 dX5_take_91 ?_
  refine g_nameMI (fun I4 hI4 => ?_)
  replace h := h I4 hI4
  refine g_aload_n K1 1 dX5_take_94 rfl ?_
  refine h_getO K1 q_clX5 10 15 lyp_12 fkX5_10 rfl fl_X5_18 dX5_take_95 ?_
  refine g_iconst K1 0 dX5_take_98 rfl ?_
  refine g_aload_n K1 0 dX5_take_99 rfl ?_
  refine h_getO K1 q_clX5 10 65 lyp_62 fkX5_10 rfl fl_X5_18 dX5_take_100 ?_
  refine g_iconst K1 0 dX5_take_103 rfl ?_
  refine g_bipush K1 7 dX5_take_104 rfl ?_
  obtain ⟨hg, h⟩ := h
  refine h_copyI K1 lyp_15 lyp_65 hg (Nat.le_of_ble_eq_true rfl) ⟨Nat.le_of_ble_eq_true rfl, Nat.le_of_ble_eq_true rfl⟩ ml_X5_61 dX5_take_106 ?_
  refine g_nameMI (fun I5 hI5 => ?_)
  replace h := h I5 hI5
  refine g_aload_n K1 1 dX5_take_109 rfl ?_
  refine h_getO K1 q_clX5 11 16 lyp_12 fkX5_11 rfl fl_X5_21 dX5_take_110 ?_
  refine g_iconst K1 0 dX5_take_113 rfl ?_
  refine g_aload_n K1 0 dX5_take_114 rfl ?_
  refine h_getO K1 q_clX5 11 66 lyp_62 fkX5_11 rfl fl_X5_21 dX5_take_115 ?_
  refine g_iconst K1 0 dX5_take_118 rfl ?_
  refine g_bipush K1 7 dX5_take_119 rfl ?_
  obtain ⟨hg, h⟩ := h
  refine h_copyI K1 lyp_16 lyp_66 hg (Nat.le_of_ble_eq_true rfl) ⟨Nat.le_of_ble_eq_true rfl, Nat.le_of_ble_eq_true rfl⟩ ml_X5_61 dX5_take_121 ?_
  refine g_nameMI (fun I6 hI6 => ?_)
  replace h := h I6 hI6
  refine g_aload_n K1 1 dX5_take_124 rfl ?_
  refine h_getO K1 q_clX5 12 17 lyp_12 fkX5_12 rfl fl_X5_24 dX5_take_125 ?_
  refine g_iconst K1 0 dX5_take_128 rfl ?_
  refine g_aload_n K1 0 dX5_take_129 rfl ?_
  refine h_getO K1 q_clX5 12 67 lyp_62 fkX5_12 rfl fl_X5_24 dX5_take_130 ?_
  refine g_iconst K1 0 dX5_take_133 rfl ?_
  refine g_iconst K1 4 dX5_take_134 rfl ?_
  obtain ⟨hg, h⟩ := h
  refine h_copyI K1 lyp_17 lyp_67 hg (Nat.le_of_ble_eq_true rfl) ⟨Nat.le_of_ble_eq_true rfl, Nat.le_of_ble_eq_true rfl⟩ ml_X5_61 dX5_take_135 ?_
  refine g_nameMI (fun I7 hI7 => ?_)
  replace h := h I7 hI7
  refine g_aload_n K1 1 dX5_take_138 rfl ?_
  refine h_getO K1 q_clX5 13 18 lyp_12 fkX5_13 rfl fl_X5_27 dX5_take_139 ?_
  refine g_iconst K1 0 dX5_take_142 rfl ?_
  refine g_aload_n K1 0 dX5_take_143 rfl ?_
  refine h_getO K1 q_clX5 13 68 lyp_62 fkX5_13 rfl fl_X5_27 dX5_take_144 ?_
  refine g_iconst K1 0 dX5_take_147 rfl ?_
  refine g_iconst K1 4 dX5_take_148 rfl ?_
  obtain ⟨hg, h⟩ := h
  refine h_copyI K1 lyp_18 lyp_68 hg (Nat.le_of_ble_eq_true rfl) ⟨Nat.le_of_ble_eq_true rfl, Nat.le_of_ble_eq_true rfl⟩ ml_X5_61 dX5_take_149 ?_
  refine g_nameMI (fun I8 hI8 => ?_)
  replace h := h I8 hI8
  refine g_aload_n K1 1 dX5_take_152 rfl ?_
  refine h_getO K1 q_clX5 14 19 lyp_12 fkX5_14 rfl fl_X5_30 dX5_take_153 ?_
  refine g_iconst K1 0 dX5_take_156 rfl ?_
  refine g_aload_n K1 0 dX5_take_157 rfl ?_
  refine h_getO K1 q_clX5 14 69 lyp_62 fkX5_14 rfl fl_X5_30 dX5_take_158 ?_
  refine g_iconst K1 0 dX5_take_161 rfl ?_
  refine g_bipush K1 6 dX5_take_162 rfl ?_
  obtain ⟨hg, h⟩ := h
  refine h_copyI K1 lyp_19 lyp_69 hg (Nat.le_of_ble_eq_true rfl) ⟨Nat.le_of_ble_eq_true rfl, Nat.le_of_ble_eq_true rfl⟩ ml_X5_61 dX5_take_164 ?_
  refine g_nameMI (fun I9 hI9 => ?_)
  replace h := h I9 hI9
  refine g_aload_n K1 1 dX5_take_167 rfl ?_
  refine h_getO K1 q_clX5 15 20 lyp_12 fkX5_15 rfl fl_X5_33 dX5_take_168 ?_
  refine g_iconst K1 0 dX5_take_171 rfl ?_
  refine g_aload_n K1 0 dX5_take_172 rfl ?_
  refine h_getO K1 q_clX5 15 70 lyp_62 fkX5_15 rfl fl_X5_33 dX5_take_173 ?_
  refine g_iconst K1 0 dX5_take_176 rfl ?_
  refine g_bipush K1 6 dX5_take_177 rfl ?_
  obtain ⟨hg, h⟩ := h
  refine h_copyI K1 lyp_20 lyp_70 hg (Nat.le_of_ble_eq_true rfl) ⟨Nat.le_of_ble_eq_true rfl, Nat.le_of_ble_eq_true rfl⟩ ml_X5_61 dX5_take_179 ?_
  refine g_nameMI (fun I10 hI10 => ?_)
  replace h := h I10 hI10
  obtain ⟨hr, hI, hL⟩ := h
  subst hr hI hL
  exact g_vreturn K rfl dX5_take_182
theorem c0_X5_take_62_12 {r : Option Value} {I I' : Nat → Nat → Int32} {L L' : Nat → Nat → Int64}  (h : v_X5_take_62_12_0 r I' L' I L ) : q_C kX5_take [.ref 62, .ref 12] I L r I' L' := fun w l => q_ct (by decide) (Nat.le_of_ble_eq_true rfl) (Nat.le_refl _) (fun g _ K => h w g K)
abbrev v_X6_advance_0 (r : Option Value) (I' : Nat → Nat → Int32) (L' : Nat → Nat → Int64) (I : Nat → Nat → Int32) (L : Nat → Nat → Int64)  : Prop := q_W kX6_advance 0 [(0, .ref 2)] [] I L r I' L'
abbrev v_X6_advance_8 (r : Option Value) (I' : Nat → Nat → Int32) (L' : Nat → Nat → Int64) (I : Nat → Nat → Int32) (L : Nat → Nat → Int64)  : Prop := q_W kX6_advance 8 [(0, .ref 2)] [] I L r I' L'
abbrev v_X6_advance_60 (r : Option Value) (I' : Nat → Nat → Int32) (L' : Nat → Nat → Int64) (I : Nat → Nat → Int32) (L : Nat → Nat → Int64)  : Prop := q_W kX6_advance 60 [(0, .ref 2)] [] I L r I' L'
abbrev v_X6_advance_112 (r : Option Value) (I' : Nat → Nat → Int32) (L' : Nat → Nat → Int64) (I : Nat → Nat → Int32) (L : Nat → Nat → Int64)  : Prop := q_W kX6_advance 112 [(0, .ref 2)] [] I L r I' L'
abbrev v_X6_advance_171 (r : Option Value) (I' : Nat → Nat → Int32) (L' : Nat → Nat → Int64) (I : Nat → Nat → Int32) (L : Nat → Nat → Int64)  : Prop := q_W kX6_advance 171 [(0, .ref 2)] [] I L r I' L'
set_option maxRecDepth 20000 in
set_option maxHeartbeats 2000000 in
theorem vc_X6_advance_0 {r : Option Value} {I' : Nat → Nat → Int32} {L' : Nat → Nat → Int64} {I : Nat → Nat → Int32} {L : Nat → Nat → Int64}  (h : (((I 2 0) = 0 → (v_X6_advance_8 r I' L' I L)) ∧ (¬ (I 2 0) = 0 → (r = none ∧ I' = I ∧ L' = L)))) : v_X6_advance_0 r I' L' I L  := by
  intro w g K
  have K1 := K.1
  refine g_aload_n K1 0 dX6_advance_0 rfl ?_
  refine h_getI K1 q_clX6 0 lyp_2 fkX6_0 fl_X6_29 dX6_advance_1 ?_
  refine g_if_eq K1 8 dX6_advance_4 rfl (fun hc => ?_) (fun hc => ?_)
  · replace h := h.1 hc
    exact g_perm [0] rfl (h w g K)
  · replace h := h.2 hc
    obtain ⟨hr, hI, hL⟩ := h
    subst hr hI hL
    exact g_vreturn K rfl dX6_advance_7
set_option maxRecDepth 20000 in
set_option maxHeartbeats 2000000 in
theorem vc_X6_advance_8 {r : Option Value} {I' : Nat → Nat → Int32} {L' : Nat → Nat → Int64} {I : Nat → Nat → Int32} {L : Nat → Nat → Int64}  (h : (((I 2 4) ≤ (I 2 6) → (v_X6_advance_60 r I' L' I L)) ∧ (¬ (I 2 4) ≤ (I 2 6) → (vp_in (I 2 6) 600 ∧ (((I 1 ((I 2 6) : Int32).toNatClampNeg) = 32 → (v_X6_advance_8 r I' L' (up2 I 2 6 ((I 2 6) + 1)) L)) ∧ (¬ (I 1 ((I 2 6) : Int32).toNatClampNeg) = 32 → (vp_in (I 2 6) 600 ∧ (((I 1 ((I 2 6) : Int32).toNatClampNeg) = 10 → (v_X6_advance_8 r I' L' (up2 I 2 6 ((I 2 6) + 1)) L)) ∧ (¬ (I 1 ((I 2 6) : Int32).toNatClampNeg) = 10 → (v_X6_advance_60 r I' L' I L)))))))))) : v_X6_advance_8 r I' L' I L  := by
  intro w g K
  have K1 := K.1
  refine g_aload_n K1 0 dX6_advance_8 rfl ?_
  refine h_getI K1 q_clX6 6 lyp_2 fkX6_6 fl_X6_26 dX6_advance_9 ?_
  refine g_aload_n K1 0 dX6_advance_12 rfl ?_
  refine h_getI K1 q_clX6 4 lyp_2 fkX6_4 fl_X6_22 dX6_advance_13 ?_
  refine g_icmp_ge K1 60 dX6_advance_16 rfl (fun hc => ?_) (fun hc => ?_)
  · replace h := h.1 hc
    exact g_perm [0] rfl (h w g K)
  · replace h := h.2 hc
    refine g_aload_n K1 0 dX6_advance_19 rfl ?_
    refine h_getO K1 q_clX6 3 1 lyp_2 fkX6_3 rfl fl_X6_18 dX6_advance_20 ?_
    refine g_aload_n K1 0 dX6_advance_23 rfl ?_
    refine h_getI K1 q_clX6 6 lyp_2 fkX6_6 fl_X6_26 dX6_advance_24 ?_
    obtain ⟨hg, h⟩ := h
    refine h_baload K1 lyp_1 hg dX6_advance_27 ?_
    refine g_bipush K1 32 dX6_advance_28 rfl ?_
    refine g_icmp_eq K1 47 dX6_advance_30 rfl (fun hc => ?_) (fun hc => ?_)
    · replace h := h.1 hc
      refine g_aload_n K1 0 dX6_advance_47 rfl ?_
      refine g_dup K1 dX6_advance_48 rfl ?_
      refine h_getI K1 q_clX6 6 lyp_2 fkX6_6 fl_X6_26 dX6_advance_49 ?_
      refine g_iconst K1 1 dX6_advance_52 rfl ?_
      refine g_iadd K1 dX6_advance_53 ?_
      refine h_putI K1 q_clX6 6 lyp_2 fkX6_6 fl_X6_26 rfl rfl rfl dX6_advance_54 ?_
      refine g_goto K1 8 dX6_advance_57 rfl ?_
      exact g_perm [0] rfl (h w g K)
    · replace h := h.2 hc
      refine g_aload_n K1 0 dX6_advance_33 rfl ?_
      refine h_getO K1 q_clX6 3 1 lyp_2 fkX6_3 rfl fl_X6_18 dX6_advance_34 ?_
      refine g_aload_n K1 0 dX6_advance_37 rfl ?_
      refine h_getI K1 q_clX6 6 lyp_2 fkX6_6 fl_X6_26 dX6_advance_38 ?_
      obtain ⟨hg, h⟩ := h
      refine h_baload K1 lyp_1 hg dX6_advance_41 ?_
      refine g_bipush K1 10 dX6_advance_42 rfl ?_
      refine g_icmp_ne K1 60 dX6_advance_44 rfl (fun hc => ?_) (fun hc => ?_)
      · replace h := h.2 hc
        exact g_perm [0] rfl (h w g K)
      · replace h := h.1 hc
        refine g_aload_n K1 0 dX6_advance_47 rfl ?_
        refine g_dup K1 dX6_advance_48 rfl ?_
        refine h_getI K1 q_clX6 6 lyp_2 fkX6_6 fl_X6_26 dX6_advance_49 ?_
        refine g_iconst K1 1 dX6_advance_52 rfl ?_
        refine g_iadd K1 dX6_advance_53 ?_
        refine h_putI K1 q_clX6 6 lyp_2 fkX6_6 fl_X6_26 rfl rfl rfl dX6_advance_54 ?_
        refine g_goto K1 8 dX6_advance_57 rfl ?_
        exact g_perm [0] rfl (h w g K)
set_option maxRecDepth 20000 in
set_option maxHeartbeats 2000000 in
theorem vc_X6_advance_60 {r : Option Value} {I' : Nat → Nat → Int32} {L' : Nat → Nat → Int64} {I : Nat → Nat → Int32} {L : Nat → Nat → Int64}  (h : ((((up2 (up2 I 2 5 (I 2 6)) 2 8 0) 2 6) < ((up2 (up2 I 2 5 (I 2 6)) 2 8 0) 2 4) → (vp_in ((up2 (up2 I 2 5 (I 2 6)) 2 8 0) 2 6) 600 ∧ (∃ r1, q_C kX6_isLowerCase [.int ((up2 (up2 I 2 5 (I 2 6)) 2 8 0) 1 (((up2 (up2 I 2 5 (I 2 6)) 2 8 0) 2 6) : Int32).toNatClampNeg)] (up2 (up2 I 2 5 (I 2 6)) 2 8 0) L (some (.int r1)) (up2 (up2 I 2 5 (I 2 6)) 2 8 0) L ∧ ((r1 = 0 → (vp_in ((up2 (up2 I 2 5 (I 2 6)) 2 8 0) 2 6) 600 ∧ (∃ r2, q_C kX6_isDigit [.int ((up2 (up2 I 2 5 (I 2 6)) 2 8 0) 1 (((up2 (up2 I 2 5 (I 2 6)) 2 8 0) 2 6) : Int32).toNatClampNeg)] (up2 (up2 I 2 5 (I 2 6)) 2 8 0) L (some (.int r2)) (up2 (up2 I 2 5 (I 2 6)) 2 8 0) L ∧ ((r2 = 0 → (vp_in ((up2 (up2 I 2 5 (I 2 6)) 2 8 0) 2 6) 600 ∧ ((((up2 (up2 I 2 5 (I 2 6)) 2 8 0) 1 (((up2 (up2 I 2 5 (I 2 6)) 2 8 0) 2 6) : Int32).toNatClampNeg) = 59 → ∀ I4, I4 = (up2 (up2 (up2 (up2 I 2 5 (I 2 6)) 2 8 0) 2 7 3) 2 6 (((up2 (up2 (up2 I 2 5 (I 2 6)) 2 8 0) 2 7 3) 2 6) + 1)) → (r = none ∧ I' = I4 ∧ L' = L)) ∧ (¬ ((up2 (up2 I 2 5 (I 2 6)) 2 8 0) 1 (((up2 (up2 I 2 5 (I 2 6)) 2 8 0) 2 6) : Int32).toNatClampNeg) = 59 → ∀ I3, I3 = (up2 (up2 (up2 (up2 I 2 5 (I 2 6)) 2 8 0) 2 7 4) 2 6 (((up2 (up2 (up2 I 2 5 (I 2 6)) 2 8 0) 2 7 4) 2 6) + 1)) → (r = none ∧ I' = I3 ∧ L' = L))))) ∧ (¬ r2 = 0 → (v_X6_advance_171 r I' L' (up2 (up2 (up2 I 2 5 (I 2 6)) 2 8 0) 2 7 2) L)))))) ∧ (¬ r1 = 0 → (v_X6_advance_112 r I' L' (up2 (up2 (up2 I 2 5 (I 2 6)) 2 8 0) 2 7 1) L)))))) ∧ (¬ ((up2 (up2 I 2 5 (I 2 6)) 2 8 0) 2 6) < ((up2 (up2 I 2 5 (I 2 6)) 2 8 0) 2 4) → (r = none ∧ I' = (up2 (up2 (up2 I 2 5 (I 2 6)) 2 8 0) 2 7 0) ∧ L' = L)))) : v_X6_advance_60 r I' L' I L  := by
  intro w g K
  have K1 := K.1
  refine g_aload_n K1 0 dX6_advance_60 rfl ?_
  refine g_aload_n K1 0 dX6_advance_61 rfl ?_
  refine h_getI K1 q_clX6 6 lyp_2 fkX6_6 fl_X6_26 dX6_advance_62 ?_
  refine h_putI K1 q_clX6 5 lyp_2 fkX6_5 fl_X6_165 rfl rfl rfl dX6_advance_65 ?_
  refine g_aload_n K1 0 dX6_advance_68 rfl ?_
  refine g_iconst K1 0 dX6_advance_69 rfl ?_
  refine h_putI K1 q_clX6 8 lyp_2 fkX6_8 fl_X6_116 rfl rfl rfl dX6_advance_70 ?_
  refine g_aload_n K1 0 dX6_advance_73 rfl ?_
  refine h_getI K1 q_clX6 6 lyp_2 fkX6_6 fl_X6_26 dX6_advance_74 ?_
  refine g_aload_n K1 0 dX6_advance_77 rfl ?_
  refine h_getI K1 q_clX6 4 lyp_2 fkX6_4 fl_X6_22 dX6_advance_78 ?_
  refine g_icmp_lt K1 92 dX6_advance_81 rfl (fun hc => ?_) (fun hc => ?_)
  · replace h := h.1 hc
    refine g_aload_n K1 0 dX6_advance_92 rfl ?_
    refine h_getO K1 q_clX6 3 1 lyp_2 fkX6_3 rfl fl_X6_18 dX6_advance_93 ?_
    refine g_aload_n K1 0 dX6_advance_96 rfl ?_
    refine h_getI K1 q_clX6 6 lyp_2 fkX6_6 fl_X6_26 dX6_advance_97 ?_
    obtain ⟨hg, h⟩ := h
    refine h_baload K1 lyp_1 hg dX6_advance_100 ?_
    obtain ⟨r1, hct, h⟩ := h
    refine h_callS K1 (st := []) [.int ((up2 (up2 I 2 5 (I 2 6)) 2 8 0) 1 (((up2 (up2 I 2 5 (I 2 6)) 2 8 0) 2 6) : Int32).toNatClampNeg)] (hct w (gl g)) ok_X6_isLowerCase ml_X6_168 ⟨Nat.le_of_ble_eq_true rfl, Nat.le_of_ble_eq_true rfl⟩ (Nat.le_of_ble_eq_true rfl) dX6_advance_101 ?_
    show q_Gs w g 104 [(0, .ref 2)] [.int r1] (q_mm (up2 (up2 I 2 5 (I 2 6)) 2 8 0) L)
    refine g_if_eq K1 151 dX6_advance_104 rfl (fun hc => ?_) (fun hc => ?_)
    · replace h := h.1 hc
      refine g_aload_n K1 0 dX6_advance_151 rfl ?_
      refine h_getO K1 q_clX6 3 1 lyp_2 fkX6_3 rfl fl_X6_18 dX6_advance_152 ?_
      refine g_aload_n K1 0 dX6_advance_155 rfl ?_
      refine h_getI K1 q_clX6 6 lyp_2 fkX6_6 fl_X6_26 dX6_advance_156 ?_
      obtain ⟨hg, h⟩ := h
      refine h_baload K1 lyp_1 hg dX6_advance_159 ?_
      obtain ⟨r2, hct, h⟩ := h
      refine h_callS K1 (st := []) [.int ((up2 (up2 I 2 5 (I 2 6)) 2 8 0) 1 (((up2 (up2 I 2 5 (I 2 6)) 2 8 0) 2 6) : Int32).toNatClampNeg)] (hct w (gl g)) ok_X6_isDigit ml_X6_171 ⟨Nat.le_of_ble_eq_true rfl, Nat.le_of_ble_eq_true rfl⟩ (Nat.le_of_ble_eq_true rfl) dX6_advance_160 ?_
      show q_Gs w g 163 [(0, .ref 2)] [.int r2] (q_mm (up2 (up2 I 2 5 (I 2 6)) 2 8 0) L)
      refine g_if_eq K1 240 dX6_advance_163 rfl (fun hc => ?_) (fun hc => ?_)
      · replace h := h.1 hc
        refine g_aload_n K1 0 dX6_advance_240 rfl ?_
        refine g_aload_n K1 0 dX6_advance_241 rfl ?_
        refine h_getO K1 q_clX6 3 1 lyp_2 fkX6_3 rfl fl_X6_18 dX6_advance_242 ?_
        refine g_aload_n K1 0 dX6_advance_245 rfl ?_
        refine h_getI K1 q_clX6 6 lyp_2 fkX6_6 fl_X6_26 dX6_advance_246 ?_
        obtain ⟨hg, h⟩ := h
        refine h_baload K1 lyp_1 hg dX6_advance_249 ?_
        refine g_bipush K1 59 dX6_advance_250 rfl ?_
        refine g_icmp_ne K1 259 dX6_advance_252 rfl (fun hc => ?_) (fun hc => ?_)
        · replace h := h.2 hc
          refine g_iconst K1 4 dX6_advance_259 rfl ?_
          refine h_putI K1 q_clX6 7 lyp_2 fkX6_7 fl_X6_41 rfl rfl rfl dX6_advance_260 ?_
          refine g_aload_n K1 0 dX6_advance_263 rfl ?_
          refine g_dup K1 dX6_advance_264 rfl ?_
          refine h_getI K1 q_clX6 6 lyp_2 fkX6_6 fl_X6_26 dX6_advance_265 ?_
          refine g_iconst K1 1 dX6_advance_268 rfl ?_
          refine g_iadd K1 dX6_advance_269 ?_
          refine h_putI K1 q_clX6 6 lyp_2 fkX6_6 fl_X6_26 rfl rfl rfl dX6_advance_270 ?_
          refine g_nameMI (fun I3 hI3 => ?_)
          replace h := h I3 hI3
          obtain ⟨hr, hI, hL⟩ := h
          subst hr hI hL
          exact g_vreturn K rfl dX6_advance_273
        · replace h := h.1 hc
          refine g_iconst K1 3 dX6_advance_255 rfl ?_
          refine g_goto K1 260 dX6_advance_256 rfl ?_
          refine h_putI K1 q_clX6 7 lyp_2 fkX6_7 fl_X6_41 rfl rfl rfl dX6_advance_260 ?_
          refine g_aload_n K1 0 dX6_advance_263 rfl ?_
          refine g_dup K1 dX6_advance_264 rfl ?_
          refine h_getI K1 q_clX6 6 lyp_2 fkX6_6 fl_X6_26 dX6_advance_265 ?_
          refine g_iconst K1 1 dX6_advance_268 rfl ?_
          refine g_iadd K1 dX6_advance_269 ?_
          refine h_putI K1 q_clX6 6 lyp_2 fkX6_6 fl_X6_26 rfl rfl rfl dX6_advance_270 ?_
          refine g_nameMI (fun I4 hI4 => ?_)
          replace h := h I4 hI4
          obtain ⟨hr, hI, hL⟩ := h
          subst hr hI hL
          exact g_vreturn K rfl dX6_advance_273
      · replace h := h.2 hc
        refine g_aload_n K1 0 dX6_advance_166 rfl ?_
        refine g_iconst K1 2 dX6_advance_167 rfl ?_
        refine h_putI K1 q_clX6 7 lyp_2 fkX6_7 fl_X6_41 rfl rfl rfl dX6_advance_168 ?_
        exact g_perm [0] rfl (h w g K)
    · replace h := h.2 hc
      refine g_aload_n K1 0 dX6_advance_107 rfl ?_
      refine g_iconst K1 1 dX6_advance_108 rfl ?_
      refine h_putI K1 q_clX6 7 lyp_2 fkX6_7 fl_X6_41 rfl rfl rfl dX6_advance_109 ?_
      exact g_perm [0] rfl (h w g K)
  · replace h := h.2 hc
    refine g_aload_n K1 0 dX6_advance_84 rfl ?_
    refine g_iconst K1 0 dX6_advance_85 rfl ?_
    refine h_putI K1 q_clX6 7 lyp_2 fkX6_7 fl_X6_41 rfl rfl rfl dX6_advance_86 ?_
    refine g_goto K1 273 dX6_advance_89 rfl ?_
    obtain ⟨hr, hI, hL⟩ := h
    subst hr hI hL
    exact g_vreturn K rfl dX6_advance_273
set_option maxRecDepth 20000 in
set_option maxHeartbeats 2000000 in
theorem vc_X6_advance_112 {r : Option Value} {I' : Nat → Nat → Int32} {L' : Nat → Nat → Int64} {I : Nat → Nat → Int32} {L : Nat → Nat → Int64}  (h : (((I 2 4) ≤ (I 2 6) → (r = none ∧ I' = I ∧ L' = L)) ∧ (¬ (I 2 4) ≤ (I 2 6) → (vp_in (I 2 6) 600 ∧ (∃ r1, q_C kX6_isLowerCase [.int (I 1 ((I 2 6) : Int32).toNatClampNeg)] I L (some (.int r1)) I L ∧ ((r1 = 0 → (r = none ∧ I' = I ∧ L' = L)) ∧ (¬ r1 = 0 → (v_X6_advance_112 r I' L' (up2 I 2 6 ((I 2 6) + 1)) L)))))))) : v_X6_advance_112 r I' L' I L  := by
  intro w g K
  have K1 := K.1
  refine g_aload_n K1 0 dX6_advance_112 rfl ?_
  refine h_getI K1 q_clX6 6 lyp_2 fkX6_6 fl_X6_26 dX6_advance_113 ?_
  refine g_aload_n K1 0 dX6_advance_116 rfl ?_
  refine h_getI K1 q_clX6 4 lyp_2 fkX6_4 fl_X6_22 dX6_advance_117 ?_
  refine g_icmp_ge K1 273 dX6_advance_120 rfl (fun hc => ?_) (fun hc => ?_)
  · replace h := h.1 hc
    obtain ⟨hr, hI, hL⟩ := h
    subst hr hI hL
    exact g_vreturn K rfl dX6_advance_273
  · replace h := h.2 hc
    refine g_aload_n K1 0 dX6_advance_123 rfl ?_
    refine h_getO K1 q_clX6 3 1 lyp_2 fkX6_3 rfl fl_X6_18 dX6_advance_124 ?_
    refine g_aload_n K1 0 dX6_advance_127 rfl ?_
    refine h_getI K1 q_clX6 6 lyp_2 fkX6_6 fl_X6_26 dX6_advance_128 ?_
    obtain ⟨hg, h⟩ := h
    refine h_baload K1 lyp_1 hg dX6_advance_131 ?_
    obtain ⟨r1, hct, h⟩ := h
    refine h_callS K1 (st := []) [.int (I 1 ((I 2 6) : Int32).toNatClampNeg)] (hct w (gl g)) ok_X6_isLowerCase ml_X6_168 ⟨Nat.le_of_ble_eq_true rfl, Nat.le_of_ble_eq_true rfl⟩ (Nat.le_of_ble_eq_true rfl) dX6_advance_132 ?_
    show q_Gs w g 135 [(0, .ref 2)] [.int r1] (q_mm I L)
    refine g_if_eq K1 273 dX6_advance_135 rfl (fun hc => ?_) (fun hc => ?_)
    · replace h := h.1 hc
      obtain ⟨hr, hI, hL⟩ := h
      subst hr hI hL
      exact g_vreturn K rfl dX6_advance_273
    · replace h := h.2 hc
      refine g_aload_n K1 0 dX6_advance_138 rfl ?_
      refine g_dup K1 dX6_advance_139 rfl ?_
      refine h_getI K1 q_clX6 6 lyp_2 fkX6_6 fl_X6_26 dX6_advance_140 ?_
      refine g_iconst K1 1 dX6_advance_143 rfl ?_
      refine g_iadd K1 dX6_advance_144 ?_
      refine h_putI K1 q_clX6 6 lyp_2 fkX6_6 fl_X6_26 rfl rfl rfl dX6_advance_145 ?_
      refine g_goto K1 112 dX6_advance_148 rfl ?_
      exact g_perm [0] rfl (h w g K)
set_option maxRecDepth 20000 in
set_option maxHeartbeats 2000000 in
theorem vc_X6_advance_171 {r : Option Value} {I' : Nat → Nat → Int32} {L' : Nat → Nat → Int64} {I : Nat → Nat → Int32} {L : Nat → Nat → Int64}  (h : (((I 2 4) ≤ (I 2 6) → (r = none ∧ I' = I ∧ L' = L)) ∧ (¬ (I 2 4) ≤ (I 2 6) → (vp_in (I 2 6) 600 ∧ (∃ r1, q_C kX6_isDigit [.int (I 1 ((I 2 6) : Int32).toNatClampNeg)] I L (some (.int r1)) I L ∧ ((r1 = 0 → (r = none ∧ I' = I ∧ L' = L)) ∧ (¬ r1 = 0 → (vp_in (I 2 6) 600 ∧ ∀ I2, I2 = (up2 I 2 8 (if ((((I 2 8) * 10) + (I 1 ((I 2 6) : Int32).toNatClampNeg)) - 48) < 1000 then ((((I 2 8) * 10) + (I 1 ((I 2 6) : Int32).toNatClampNeg)) - 48) else 1000)) → (v_X6_advance_171 r I' L' (up2 I2 2 6 ((I2 2 6) + 1)) L))))))))) : v_X6_advance_171 r I' L' I L  := by
  intro w g K
  have K1 := K.1
  refine g_aload_n K1 0 dX6_advance_171 rfl ?_
  refine h_getI K1 q_clX6 6 lyp_2 fkX6_6 fl_X6_26 dX6_advance_172 ?_
  refine g_aload_n K1 0 dX6_advance_175 rfl ?_
  refine h_getI K1 q_clX6 4 lyp_2 fkX6_4 fl_X6_22 dX6_advance_176 ?_
  refine g_icmp_ge K1 273 dX6_advance_179 rfl (fun hc => ?_) (fun hc => ?_)
  · replace h := h.1 hc
    obtain ⟨hr, hI, hL⟩ := h
    subst hr hI hL
    exact g_vreturn K rfl dX6_advance_273
  · replace h := h.2 hc
    refine g_aload_n K1 0 dX6_advance_182 rfl ?_
    refine h_getO K1 q_clX6 3 1 lyp_2 fkX6_3 rfl fl_X6_18 dX6_advance_183 ?_
    refine g_aload_n K1 0 dX6_advance_186 rfl ?_
    refine h_getI K1 q_clX6 6 lyp_2 fkX6_6 fl_X6_26 dX6_advance_187 ?_
    obtain ⟨hg, h⟩ := h
    refine h_baload K1 lyp_1 hg dX6_advance_190 ?_
    obtain ⟨r1, hct, h⟩ := h
    refine h_callS K1 (st := []) [.int (I 1 ((I 2 6) : Int32).toNatClampNeg)] (hct w (gl g)) ok_X6_isDigit ml_X6_171 ⟨Nat.le_of_ble_eq_true rfl, Nat.le_of_ble_eq_true rfl⟩ (Nat.le_of_ble_eq_true rfl) dX6_advance_191 ?_
    show q_Gs w g 194 [(0, .ref 2)] [.int r1] (q_mm I L)
    refine g_if_eq K1 273 dX6_advance_194 rfl (fun hc => ?_) (fun hc => ?_)
    · replace h := h.1 hc
      obtain ⟨hr, hI, hL⟩ := h
      subst hr hI hL
      exact g_vreturn K rfl dX6_advance_273
    · replace h := h.2 hc
      refine g_aload_n K1 0 dX6_advance_197 rfl ?_
      refine g_sipush K1 1000 dX6_advance_198 rfl ?_
      refine g_aload_n K1 0 dX6_advance_201 rfl ?_
      refine h_getI K1 q_clX6 8 lyp_2 fkX6_8 fl_X6_116 dX6_advance_202 ?_
      refine g_bipush K1 10 dX6_advance_205 rfl ?_
      refine g_imul K1 dX6_advance_207 ?_
      refine g_aload_n K1 0 dX6_advance_208 rfl ?_
      refine h_getO K1 q_clX6 3 1 lyp_2 fkX6_3 rfl fl_X6_18 dX6_advance_209 ?_
      refine g_aload_n K1 0 dX6_advance_212 rfl ?_
      refine h_getI K1 q_clX6 6 lyp_2 fkX6_6 fl_X6_26 dX6_advance_213 ?_
      obtain ⟨hg, h⟩ := h
      refine h_baload K1 lyp_1 hg dX6_advance_216 ?_
      refine g_iadd K1 dX6_advance_217 ?_
      refine g_bipush K1 48 dX6_advance_218 rfl ?_
      refine g_isub K1 dX6_advance_220 ?_
      refine h_mmin K1 (by exact Nat.le_of_ble_eq_true rfl) ⟨Nat.le_of_ble_eq_true rfl, Nat.le_of_ble_eq_true rfl⟩ ml_X6_174 dX6_advance_221 ?_
      refine h_putI K1 q_clX6 8 lyp_2 fkX6_8 fl_X6_116 rfl rfl rfl dX6_advance_224 ?_
      refine g_nameMI (fun I2 hI2 => ?_)
      replace h := h I2 hI2
      refine g_aload_n K1 0 dX6_advance_227 rfl ?_
      refine g_dup K1 dX6_advance_228 rfl ?_
      refine h_getI K1 q_clX6 6 lyp_2 fkX6_6 fl_X6_26 dX6_advance_229 ?_
      refine g_iconst K1 1 dX6_advance_232 rfl ?_
      refine g_iadd K1 dX6_advance_233 ?_
      refine h_putI K1 q_clX6 6 lyp_2 fkX6_6 fl_X6_26 rfl rfl rfl dX6_advance_234 ?_
      refine g_goto K1 171 dX6_advance_237 rfl ?_
      exact g_perm [0] rfl (h w g K)
theorem c0_X6_advance {r : Option Value} {I I' : Nat → Nat → Int32} {L L' : Nat → Nat → Int64}  (h : v_X6_advance_0 r I' L' I L ) : q_C kX6_advance [.ref 2] I L r I' L' := fun w l => q_ct (by decide) (Nat.le_of_ble_eq_true rfl) (Nat.le_refl _) (fun g _ K => h w g K)
abbrev v_X6_areJoined_0 (r : Option Value) (I' : Nat → Nat → Int32) (L' : Nat → Nat → Int64) (I : Nat → Nat → Int32) (L : Nat → Nat → Int64) (x1 : Int32) : Prop := q_W kX6_areJoined 0 [(0, .ref 2), (1, .int x1)] [] I L r I' L'
set_option maxRecDepth 20000 in
set_option maxHeartbeats 2000000 in
theorem vc_X6_areJoined_0 {r : Option Value} {I' : Nat → Nat → Int32} {L' : Nat → Nat → Int64} {I : Nat → Nat → Int32} {L : Nat → Nat → Int64} {x1 : Int32} (h : ((7 ≤ (I 2 8) → (r = some (.int 0) ∧ I' = I ∧ L' = L)) ∧ (¬ 7 ≤ (I 2 8) → (vp_in x1 7 ∧ (((((I 7 x1.toNatClampNeg) >>> ((I 2 8) &&& 31)) &&& 1) = 0 → (r = some (.int 0) ∧ I' = I ∧ L' = L)) ∧ (¬ (((I 7 x1.toNatClampNeg) >>> ((I 2 8) &&& 31)) &&& 1) = 0 → (r = some (.int 1) ∧ I' = I ∧ L' = L))))))) : v_X6_areJoined_0 r I' L' I L x1 := by
  intro w g K
  have K1 := K.1
  refine g_aload_n K1 0 dX6_areJoined_0 rfl ?_
  refine h_getI K1 q_clX6 8 lyp_2 fkX6_8 fl_X6_116 dX6_areJoined_1 ?_
  refine g_bipush K1 7 dX6_areJoined_4 rfl ?_
  refine g_icmp_ge K1 32 dX6_areJoined_6 rfl (fun hc => ?_) (fun hc => ?_)
  · replace h := h.1 hc
    refine g_iconst K1 0 dX6_areJoined_32 rfl ?_
    obtain ⟨hr, hI, hL⟩ := h
    subst hr hI hL
    exact g_zreturn K rfl (by decide) dX6_areJoined_33
  · replace h := h.2 hc
    refine g_aload_n K1 0 dX6_areJoined_9 rfl ?_
    refine h_getO K1 q_clX6 2 3 lyp_2 fkX6_2 rfl fl_X6_12 dX6_areJoined_10 ?_
    refine h_getO K1 q_clX5 11 7 lyp_3 fkX5_11 rfl fl_X6_143 dX6_areJoined_13 ?_
    refine g_iload_n K1 1 dX6_areJoined_16 rfl ?_
    obtain ⟨hg, h⟩ := h
    refine h_iaload K1 lyp_7 hg dX6_areJoined_17 ?_
    refine g_aload_n K1 0 dX6_areJoined_18 rfl ?_
    refine h_getI K1 q_clX6 8 lyp_2 fkX6_8 fl_X6_116 dX6_areJoined_19 ?_
    refine g_ishr K1 dX6_areJoined_22 ?_
    refine g_iconst K1 1 dX6_areJoined_23 rfl ?_
    refine g_iand K1 dX6_areJoined_24 ?_
    refine g_if_eq K1 32 dX6_areJoined_25 rfl (fun hc => ?_) (fun hc => ?_)
    · replace h := h.1 hc
      refine g_iconst K1 0 dX6_areJoined_32 rfl ?_
      obtain ⟨hr, hI, hL⟩ := h
      subst hr hI hL
      exact g_zreturn K rfl (by decide) dX6_areJoined_33
    · replace h := h.2 hc
      refine g_iconst K1 1 dX6_areJoined_28 rfl ?_
      refine g_goto K1 33 dX6_areJoined_29 rfl ?_
      obtain ⟨hr, hI, hL⟩ := h
      subst hr hI hL
      exact g_zreturn K rfl (by decide) dX6_areJoined_33
theorem c0_X6_areJoined {r : Option Value} {I I' : Nat → Nat → Int32} {L L' : Nat → Nat → Int64} {x1 : Int32} (h : v_X6_areJoined_0 r I' L' I L x1) : q_C kX6_areJoined [.ref 2, .int x1] I L r I' L' := fun w l => q_ct (by decide) (Nat.le_of_ble_eq_true rfl) (Nat.le_refl _) (fun g _ K => h w g K)
abbrev v_X6_fail_0 (r : Option Value) (I' : Nat → Nat → Int32) (L' : Nat → Nat → Int64) (I : Nat → Nat → Int32) (L : Nat → Nat → Int64) (x1 : Int32) : Prop := q_W kX6_fail 0 [(0, .ref 2), (1, .int x1)] [] I L r I' L'
set_option maxRecDepth 20000 in
set_option maxHeartbeats 2000000 in
theorem vc_X6_fail_0 {r : Option Value} {I' : Nat → Nat → Int32} {L' : Nat → Nat → Int64} {I : Nat → Nat → Int32} {L : Nat → Nat → Int64} {x1 : Int32} (h : (((I 2 0) = 0 → (r = none ∧ I' = (up2 (up2 I 2 0 x1) 2 1 ((up2 I 2 0 x1) 2 5)) ∧ L' = L)) ∧ (¬ (I 2 0) = 0 → (r = none ∧ I' = I ∧ L' = L)))) : v_X6_fail_0 r I' L' I L x1 := by
  intro w g K
  have K1 := K.1
  refine g_aload_n K1 0 dX6_fail_0 rfl ?_
  refine h_getI K1 q_clX6 0 lyp_2 fkX6_0 fl_X6_29 dX6_fail_1 ?_
  refine g_if_ne K1 20 dX6_fail_4 rfl (fun hc => ?_) (fun hc => ?_)
  · replace h := h.2 hc
    obtain ⟨hr, hI, hL⟩ := h
    subst hr hI hL
    exact g_vreturn K rfl dX6_fail_20
  · replace h := h.1 hc
    refine g_aload_n K1 0 dX6_fail_7 rfl ?_
    refine g_iload_n K1 1 dX6_fail_8 rfl ?_
    refine h_putI K1 q_clX6 0 lyp_2 fkX6_0 fl_X6_29 rfl rfl rfl dX6_fail_9 ?_
    refine g_aload_n K1 0 dX6_fail_12 rfl ?_
    refine g_aload_n K1 0 dX6_fail_13 rfl ?_
    refine h_getI K1 q_clX6 5 lyp_2 fkX6_5 fl_X6_165 dX6_fail_14 ?_
    refine h_putI K1 q_clX6 1 lyp_2 fkX6_1 fl_X6_32 rfl rfl rfl dX6_fail_17 ?_
    obtain ⟨hr, hI, hL⟩ := h
    subst hr hI hL
    exact g_vreturn K rfl dX6_fail_20
theorem c0_X6_fail {r : Option Value} {I I' : Nat → Nat → Int32} {L L' : Nat → Nat → Int64} {x1 : Int32} (h : v_X6_fail_0 r I' L' I L x1) : q_C kX6_fail [.ref 2, .int x1] I L r I' L' := fun w l => q_ct (by decide) (Nat.le_of_ble_eq_true rfl) (Nat.le_refl _) (fun g _ K => h w g K)
abbrev v_X6_isDigit_0 (r : Option Value) (I' : Nat → Nat → Int32) (L' : Nat → Nat → Int64) (I : Nat → Nat → Int32) (L : Nat → Nat → Int64) (x0 : Int32) : Prop := q_W kX6_isDigit 0 [(0, .int x0)] [] I L r I' L'
set_option maxRecDepth 20000 in
set_option maxHeartbeats 2000000 in
theorem vc_X6_isDigit_0 {r : Option Value} {I' : Nat → Nat → Int32} {L' : Nat → Nat → Int64} {I : Nat → Nat → Int32} {L : Nat → Nat → Int64} {x0 : Int32} (h : ((x0 < 48 → (r = some (.int 0) ∧ I' = I ∧ L' = L)) ∧ (¬ x0 < 48 → ((57 < x0 → (r = some (.int 0) ∧ I' = I ∧ L' = L)) ∧ (¬ 57 < x0 → (r = some (.int 1) ∧ I' = I ∧ L' = L)))))) : v_X6_isDigit_0 r I' L' I L x0 := by
  intro w g K
  have K1 := K.1
  refine g_iload_n K1 0 dX6_isDigit_0 rfl ?_
  refine g_bipush K1 48 dX6_isDigit_1 rfl ?_
  refine g_icmp_lt K1 16 dX6_isDigit_3 rfl (fun hc => ?_) (fun hc => ?_)
  · replace h := h.1 hc
    refine g_iconst K1 0 dX6_isDigit_16 rfl ?_
    obtain ⟨hr, hI, hL⟩ := h
    subst hr hI hL
    exact g_zreturn K rfl (by decide) dX6_isDigit_17
  · replace h := h.2 hc
    refine g_iload_n K1 0 dX6_isDigit_6 rfl ?_
    refine g_bipush K1 57 dX6_isDigit_7 rfl ?_
    refine g_icmp_gt K1 16 dX6_isDigit_9 rfl (fun hc => ?_) (fun hc => ?_)
    · replace h := h.1 hc
      refine g_iconst K1 0 dX6_isDigit_16 rfl ?_
      obtain ⟨hr, hI, hL⟩ := h
      subst hr hI hL
      exact g_zreturn K rfl (by decide) dX6_isDigit_17
    · replace h := h.2 hc
      refine g_iconst K1 1 dX6_isDigit_12 rfl ?_
      refine g_goto K1 17 dX6_isDigit_13 rfl ?_
      obtain ⟨hr, hI, hL⟩ := h
      subst hr hI hL
      exact g_zreturn K rfl (by decide) dX6_isDigit_17
theorem c0_X6_isDigit {r : Option Value} {I I' : Nat → Nat → Int32} {L L' : Nat → Nat → Int64} {x0 : Int32} (h : v_X6_isDigit_0 r I' L' I L x0) : q_C kX6_isDigit [.int x0] I L r I' L' := fun w l => q_ct (by decide) (Nat.le_of_ble_eq_true rfl) (Nat.le_refl _) (fun g _ K => h w g K)
abbrev v_X6_isLowerCase_0 (r : Option Value) (I' : Nat → Nat → Int32) (L' : Nat → Nat → Int64) (I : Nat → Nat → Int32) (L : Nat → Nat → Int64) (x0 : Int32) : Prop := q_W kX6_isLowerCase 0 [(0, .int x0)] [] I L r I' L'
set_option maxRecDepth 20000 in
set_option maxHeartbeats 2000000 in
theorem vc_X6_isLowerCase_0 {r : Option Value} {I' : Nat → Nat → Int32} {L' : Nat → Nat → Int64} {I : Nat → Nat → Int32} {L : Nat → Nat → Int64} {x0 : Int32} (h : ((x0 < 97 → (r = some (.int 0) ∧ I' = I ∧ L' = L)) ∧ (¬ x0 < 97 → ((122 < x0 → (r = some (.int 0) ∧ I' = I ∧ L' = L)) ∧ (¬ 122 < x0 → (r = some (.int 1) ∧ I' = I ∧ L' = L)))))) : v_X6_isLowerCase_0 r I' L' I L x0 := by
  intro w g K
  have K1 := K.1
  refine g_iload_n K1 0 dX6_isLowerCase_0 rfl ?_
  refine g_bipush K1 97 dX6_isLowerCase_1 rfl ?_
  refine g_icmp_lt K1 16 dX6_isLowerCase_3 rfl (fun hc => ?_) (fun hc => ?_)
  · replace h := h.1 hc
    refine g_iconst K1 0 dX6_isLowerCase_16 rfl ?_
    obtain ⟨hr, hI, hL⟩ := h
    subst hr hI hL
    exact g_zreturn K rfl (by decide) dX6_isLowerCase_17
  · replace h := h.2 hc
    refine g_iload_n K1 0 dX6_isLowerCase_6 rfl ?_
    refine g_bipush K1 122 dX6_isLowerCase_7 rfl ?_
    refine g_icmp_gt K1 16 dX6_isLowerCase_9 rfl (fun hc => ?_) (fun hc => ?_)
    · replace h := h.1 hc
      refine g_iconst K1 0 dX6_isLowerCase_16 rfl ?_
      obtain ⟨hr, hI, hL⟩ := h
      subst hr hI hL
      exact g_zreturn K rfl (by decide) dX6_isLowerCase_17
    · replace h := h.2 hc
      refine g_iconst K1 1 dX6_isLowerCase_12 rfl ?_
      refine g_goto K1 17 dX6_isLowerCase_13 rfl ?_
      obtain ⟨hr, hI, hL⟩ := h
      subst hr hI hL
      exact g_zreturn K rfl (by decide) dX6_isLowerCase_17
theorem c0_X6_isLowerCase {r : Option Value} {I I' : Nat → Nat → Int32} {L L' : Nat → Nat → Int64} {x0 : Int32} (h : v_X6_isLowerCase_0 r I' L' I L x0) : q_C kX6_isLowerCase [.int x0] I L r I' L' := fun w l => q_ct (by decide) (Nat.le_of_ble_eq_true rfl) (Nat.le_refl _) (fun g _ K => h w g K)
abbrev v_X6_isWord_0 (r : Option Value) (I' : Nat → Nat → Int32) (L' : Nat → Nat → Int64) (I : Nat → Nat → Int32) (L : Nat → Nat → Int64) (x1 : Nat) : Prop := q_W kX6_isWord 0 [(0, .ref 2), (1, .ref x1)] [] I L r I' L'
abbrev v_X6_isWord_28 (r : Option Value) (I' : Nat → Nat → Int32) (L' : Nat → Nat → Int64) (I : Nat → Nat → Int32) (L : Nat → Nat → Int64) (x1 : Nat) (x2 : Int32) : Prop := q_W kX6_isWord 28 [(0, .ref 2), (1, .ref x1), (2, .int x2)] [] I L r I' L'
set_option maxRecDepth 20000 in
set_option maxHeartbeats 2000000 in
theorem vc_X6_isWord_0 {r : Option Value} {I' : Nat → Nat → Int32} {L' : Nat → Nat → Int64} {I : Nat → Nat → Int32} {L : Nat → Nat → Int64} {x1 : Nat} (h : (((I 2 7) = 1 → (∃ r1, q_C kJ0_length_8abf5 [.ref x1] I L (some (.int r1)) I L ∧ ((10001 ≤ x1 ∧ x1 < 10029) ∧ ((((I 2 6) - (I 2 5)) = r1 → (v_X6_isWord_28 r I' L' I L x1 0)) ∧ (¬ ((I 2 6) - (I 2 5)) = r1 → (r = some (.int 0) ∧ I' = I ∧ L' = L)))))) ∧ (¬ (I 2 7) = 1 → (r = some (.int 0) ∧ I' = I ∧ L' = L)))) : v_X6_isWord_0 r I' L' I L x1 := by
  intro w g K
  have K1 := K.1
  refine g_aload_n K1 0 dX6_isWord_0 rfl ?_
  refine h_getI K1 q_clX6 7 lyp_2 fkX6_7 fl_X6_41 dX6_isWord_1 ?_
  refine g_iconst K1 1 dX6_isWord_4 rfl ?_
  refine g_icmp_ne K1 24 dX6_isWord_5 rfl (fun hc => ?_) (fun hc => ?_)
  · replace h := h.2 hc
    refine g_iconst K1 0 dX6_isWord_24 rfl ?_
    obtain ⟨hr, hI, hL⟩ := h
    subst hr hI hL
    exact g_zreturn K rfl (by decide) dX6_isWord_25
  · replace h := h.1 hc
    refine g_aload_n K1 0 dX6_isWord_8 rfl ?_
    refine h_getI K1 q_clX6 6 lyp_2 fkX6_6 fl_X6_26 dX6_isWord_9 ?_
    refine g_aload_n K1 0 dX6_isWord_12 rfl ?_
    refine h_getI K1 q_clX6 5 lyp_2 fkX6_5 fl_X6_165 dX6_isWord_13 ?_
    refine g_isub K1 dX6_isWord_16 ?_
    refine g_aload_n K1 1 dX6_isWord_17 rfl ?_
    obtain ⟨r1, hct, h⟩ := h
    obtain ⟨hs, h⟩ := h
    refine h_callStr K1 (st := [.int ((I 2 6) - (I 2 5))]) [] (hct w (gl g)) hs rfl ok_J0_length_8abf5 ml_X6_179 ⟨Nat.le_of_ble_eq_true rfl, Nat.le_of_ble_eq_true rfl⟩ (Nat.le_of_ble_eq_true rfl) dX6_isWord_18 ?_
    show q_Gs w g 21 [(0, .ref 2), (1, .ref x1)] [.int r1, .int ((I 2 6) - (I 2 5))] (q_mm I L)
    refine g_icmp_eq K1 26 dX6_isWord_21 rfl (fun hc => ?_) (fun hc => ?_)
    · replace h := h.1 hc
      refine g_iconst K1 0 dX6_isWord_26 rfl ?_
      refine g_istore_n K1 dX6_isWord_27 rfl (by decide) rfl ?_
      exact g_perm [1, 2, 0] rfl (h w g K)
    · replace h := h.2 hc
      refine g_iconst K1 0 dX6_isWord_24 rfl ?_
      obtain ⟨hr, hI, hL⟩ := h
      subst hr hI hL
      exact g_zreturn K rfl (by decide) dX6_isWord_25
set_option maxRecDepth 20000 in
set_option maxHeartbeats 2000000 in
theorem vc_X6_isWord_28 {r : Option Value} {I' : Nat → Nat → Int32} {L' : Nat → Nat → Int64} {I : Nat → Nat → Int32} {L : Nat → Nat → Int64} {x1 : Nat} {x2 : Int32} (h : (∃ r1, q_C kJ0_length_8abf5 [.ref x1] I L (some (.int r1)) I L ∧ ((10001 ≤ x1 ∧ x1 < 10029) ∧ ((r1 ≤ x2 → (r = some (.int 1) ∧ I' = I ∧ L' = L)) ∧ (¬ r1 ≤ x2 → (vp_in ((I 2 5) + x2) 600 ∧ (∃ r2, q_C kJ0_charAt_5068e [.ref x1, .int x2] I L (some (.int r2)) I L ∧ ((10001 ≤ x1 ∧ x1 < 10029) ∧ (((I 1 (((I 2 5) + x2) : Int32).toNatClampNeg) = r2 → (v_X6_isWord_28 r I' L' I L x1 (x2 + 1))) ∧ (¬ (I 1 (((I 2 5) + x2) : Int32).toNatClampNeg) = r2 → (r = some (.int 0) ∧ I' = I ∧ L' = L))))))))))) : v_X6_isWord_28 r I' L' I L x1 x2 := by
  intro w g K
  have K1 := K.1
  refine g_iload_n K1 2 dX6_isWord_28 rfl ?_
  refine g_aload_n K1 1 dX6_isWord_29 rfl ?_
  obtain ⟨r1, hct, h⟩ := h
  obtain ⟨hs, h⟩ := h
  refine h_callStr K1 (st := [.int x2]) [] (hct w (gl g)) hs rfl ok_J0_length_8abf5 ml_X6_179 ⟨Nat.le_of_ble_eq_true rfl, Nat.le_of_ble_eq_true rfl⟩ (Nat.le_of_ble_eq_true rfl) dX6_isWord_30 ?_
  show q_Gs w g 33 [(0, .ref 2), (1, .ref x1), (2, .int x2)] [.int r1, .int x2] (q_mm I L)
  refine g_icmp_ge K1 63 dX6_isWord_33 rfl (fun hc => ?_) (fun hc => ?_)
  · replace h := h.1 hc
    refine g_iconst K1 1 dX6_isWord_63 rfl ?_
    obtain ⟨hr, hI, hL⟩ := h
    subst hr hI hL
    exact g_zreturn K rfl (by decide) dX6_isWord_64
  · replace h := h.2 hc
    refine g_aload_n K1 0 dX6_isWord_36 rfl ?_
    refine h_getO K1 q_clX6 3 1 lyp_2 fkX6_3 rfl fl_X6_18 dX6_isWord_37 ?_
    refine g_aload_n K1 0 dX6_isWord_40 rfl ?_
    refine h_getI K1 q_clX6 5 lyp_2 fkX6_5 fl_X6_165 dX6_isWord_41 ?_
    refine g_iload_n K1 2 dX6_isWord_44 rfl ?_
    refine g_iadd K1 dX6_isWord_45 ?_
    obtain ⟨hg, h⟩ := h
    refine h_baload K1 lyp_1 hg dX6_isWord_46 ?_
    refine g_aload_n K1 1 dX6_isWord_47 rfl ?_
    refine g_iload_n K1 2 dX6_isWord_48 rfl ?_
    obtain ⟨r2, hct, h⟩ := h
    obtain ⟨hs, h⟩ := h
    refine h_callStr K1 (st := [.int (I 1 (((I 2 5) + x2) : Int32).toNatClampNeg)]) [.int x2] (hct w (gl g)) hs rfl ok_J0_charAt_5068e ml_X6_183 ⟨Nat.le_of_ble_eq_true rfl, Nat.le_of_ble_eq_true rfl⟩ (Nat.le_of_ble_eq_true rfl) dX6_isWord_49 ?_
    show q_Gs w g 52 [(0, .ref 2), (1, .ref x1), (2, .int x2)] [.int r2, .int (I 1 (((I 2 5) + x2) : Int32).toNatClampNeg)] (q_mm I L)
    refine g_icmp_eq K1 57 dX6_isWord_52 rfl (fun hc => ?_) (fun hc => ?_)
    · replace h := h.1 hc
      refine g_iinc K1 (x2 + 1) 2 dX6_isWord_57 rfl rfl (by decide) rfl ?_
      refine g_goto K1 28 dX6_isWord_60 rfl ?_
      exact g_perm [1, 2, 0] rfl (h w g K)
    · replace h := h.2 hc
      refine g_iconst K1 0 dX6_isWord_55 rfl ?_
      obtain ⟨hr, hI, hL⟩ := h
      subst hr hI hL
      exact g_zreturn K rfl (by decide) dX6_isWord_56
theorem c0_X6_isWord {r : Option Value} {I I' : Nat → Nat → Int32} {L L' : Nat → Nat → Int64} {x1 : Nat} (h : v_X6_isWord_0 r I' L' I L x1) : q_C kX6_isWord [.ref 2, .ref x1] I L r I' L' := fun w l => q_ct (by decide) (Nat.le_of_ble_eq_true rfl) (Nat.le_refl _) (fun g _ K => h w g K)
abbrev v_X6_needNumber_0 (r : Option Value) (I' : Nat → Nat → Int32) (L' : Nat → Nat → Int64) (I : Nat → Nat → Int32) (L : Nat → Nat → Int64) (x1 : Int32) (x2 : Int32) : Prop := q_W kX6_needNumber 0 [(0, .ref 2), (1, .int x1), (2, .int x2)] [] I L r I' L'
set_option maxRecDepth 20000 in
set_option maxHeartbeats 2000000 in
theorem vc_X6_needNumber_0 {r : Option Value} {I' : Nat → Nat → Int32} {L' : Nat → Nat → Int64} {I : Nat → Nat → Int32} {L : Nat → Nat → Int64} {x1 : Int32} {x2 : Int32} (h : (((I 2 7) = 2 → (((I 2 8) < x1 → (∃ I1, q_C kX6_fail [.ref 2, .int 2] I L none I1 L ∧ (∃ I2, q_C kX6_advance [.ref 2] I1 L none I2 L ∧ (r = some (.int (I1 2 8)) ∧ I' = I2 ∧ L' = L)))) ∧ (¬ (I 2 8) < x1 → (((I 2 8) ≤ x2 → (∃ I3, q_C kX6_advance [.ref 2] I L none I3 L ∧ (r = some (.int (I 2 8)) ∧ I' = I3 ∧ L' = L))) ∧ (¬ (I 2 8) ≤ x2 → (∃ I4, q_C kX6_fail [.ref 2, .int 2] I L none I4 L ∧ (∃ I5, q_C kX6_advance [.ref 2] I4 L none I5 L ∧ (r = some (.int (I4 2 8)) ∧ I' = I5 ∧ L' = L)))))))) ∧ (¬ (I 2 7) = 2 → (∃ I6, q_C kX6_fail [.ref 2, .int 1] I L none I6 L ∧ (∃ I7, q_C kX6_advance [.ref 2] I6 L none I7 L ∧ (r = some (.int (I6 2 8)) ∧ I' = I7 ∧ L' = L)))))) : v_X6_needNumber_0 r I' L' I L x1 x2 := by
  intro w g K
  have K1 := K.1
  refine g_aload_n K1 0 dX6_needNumber_0 rfl ?_
  refine h_getI K1 q_clX6 7 lyp_2 fkX6_7 fl_X6_41 dX6_needNumber_1 ?_
  refine g_iconst K1 2 dX6_needNumber_4 rfl ?_
  refine g_icmp_eq K1 16 dX6_needNumber_5 rfl (fun hc => ?_) (fun hc => ?_)
  · replace h := h.1 hc
    refine g_aload_n K1 0 dX6_needNumber_16 rfl ?_
    refine h_getI K1 q_clX6 8 lyp_2 fkX6_8 fl_X6_116 dX6_needNumber_17 ?_
    refine g_iload_n K1 1 dX6_needNumber_20 rfl ?_
    refine g_icmp_lt K1 32 dX6_needNumber_21 rfl (fun hc => ?_) (fun hc => ?_)
    · replace h := h.1 hc
      refine g_aload_n K1 0 dX6_needNumber_32 rfl ?_
      refine g_iconst K1 2 dX6_needNumber_33 rfl ?_
      obtain ⟨I1, hct, h⟩ := h
      refine h_callV K1 (st := []) [.int 2] (hct w (gl g)) q_clX6 lyp_2 rfl ok_X6_fail ml_X6_77 ⟨Nat.le_of_ble_eq_true rfl, Nat.le_of_ble_eq_true rfl⟩ (Nat.le_of_ble_eq_true rfl) dX6_needNumber_34 ?_
      show q_Gs w g 37 [(0, .ref 2), (1, .int x1), (2, .int x2)] [] (q_mm I1 L)
      refine g_aload_n K1 0 dX6_needNumber_37 rfl ?_
      refine h_getI K1 q_clX6 8 lyp_2 fkX6_8 fl_X6_116 dX6_needNumber_38 ?_
      refine g_istore_n K1 dX6_needNumber_41 rfl (by decide) rfl ?_
      refine g_aload_n K1 1 dX6_needNumber_42 rfl ?_
      obtain ⟨I2, hct, h⟩ := h
      refine h_callV K1 (st := []) [] (hct w (gl g)) q_clX6 lyp_2 rfl ok_X6_advance ml_X6_38 ⟨Nat.le_of_ble_eq_true rfl, Nat.le_of_ble_eq_true rfl⟩ (Nat.le_of_ble_eq_true rfl) dX6_needNumber_43 ?_
      show q_Gs w g 46 [(3, .int (I1 2 8)), (0, .ref 2), (1, .int x1), (2, .int x2)] [] (q_mm I2 L)
      refine g_iload_n K1 0 dX6_needNumber_46 rfl ?_
      obtain ⟨hr, hI, hL⟩ := h
      subst hr hI hL
      exact g_ireturn K rfl dX6_needNumber_47
    · replace h := h.2 hc
      refine g_aload_n K1 0 dX6_needNumber_24 rfl ?_
      refine h_getI K1 q_clX6 8 lyp_2 fkX6_8 fl_X6_116 dX6_needNumber_25 ?_
      refine g_iload_n K1 2 dX6_needNumber_28 rfl ?_
      refine g_icmp_le K1 37 dX6_needNumber_29 rfl (fun hc => ?_) (fun hc => ?_)
      · replace h := h.1 hc
        refine g_aload_n K1 0 dX6_needNumber_37 rfl ?_
        refine h_getI K1 q_clX6 8 lyp_2 fkX6_8 fl_X6_116 dX6_needNumber_38 ?_
        refine g_istore_n K1 dX6_needNumber_41 rfl (by decide) rfl ?_
        refine g_aload_n K1 1 dX6_needNumber_42 rfl ?_
        obtain ⟨I3, hct, h⟩ := h
        refine h_callV K1 (st := []) [] (hct w (gl g)) q_clX6 lyp_2 rfl ok_X6_advance ml_X6_38 ⟨Nat.le_of_ble_eq_true rfl, Nat.le_of_ble_eq_true rfl⟩ (Nat.le_of_ble_eq_true rfl) dX6_needNumber_43 ?_
        show q_Gs w g 46 [(3, .int (I 2 8)), (0, .ref 2), (1, .int x1), (2, .int x2)] [] (q_mm I3 L)
        refine g_iload_n K1 0 dX6_needNumber_46 rfl ?_
        obtain ⟨hr, hI, hL⟩ := h
        subst hr hI hL
        exact g_ireturn K rfl dX6_needNumber_47
      · replace h := h.2 hc
        refine g_aload_n K1 0 dX6_needNumber_32 rfl ?_
        refine g_iconst K1 2 dX6_needNumber_33 rfl ?_
        obtain ⟨I4, hct, h⟩ := h
        refine h_callV K1 (st := []) [.int 2] (hct w (gl g)) q_clX6 lyp_2 rfl ok_X6_fail ml_X6_77 ⟨Nat.le_of_ble_eq_true rfl, Nat.le_of_ble_eq_true rfl⟩ (Nat.le_of_ble_eq_true rfl) dX6_needNumber_34 ?_
        show q_Gs w g 37 [(0, .ref 2), (1, .int x1), (2, .int x2)] [] (q_mm I4 L)
        refine g_aload_n K1 0 dX6_needNumber_37 rfl ?_
        refine h_getI K1 q_clX6 8 lyp_2 fkX6_8 fl_X6_116 dX6_needNumber_38 ?_
        refine g_istore_n K1 dX6_needNumber_41 rfl (by decide) rfl ?_
        refine g_aload_n K1 1 dX6_needNumber_42 rfl ?_
        obtain ⟨I5, hct, h⟩ := h
        refine h_callV K1 (st := []) [] (hct w (gl g)) q_clX6 lyp_2 rfl ok_X6_advance ml_X6_38 ⟨Nat.le_of_ble_eq_true rfl, Nat.le_of_ble_eq_true rfl⟩ (Nat.le_of_ble_eq_true rfl) dX6_needNumber_43 ?_
        show q_Gs w g 46 [(3, .int (I4 2 8)), (0, .ref 2), (1, .int x1), (2, .int x2)] [] (q_mm I5 L)
        refine g_iload_n K1 0 dX6_needNumber_46 rfl ?_
        obtain ⟨hr, hI, hL⟩ := h
        subst hr hI hL
        exact g_ireturn K rfl dX6_needNumber_47
  · replace h := h.2 hc
    refine g_aload_n K1 0 dX6_needNumber_8 rfl ?_
    refine g_iconst K1 1 dX6_needNumber_9 rfl ?_
    obtain ⟨I6, hct, h⟩ := h
    refine h_callV K1 (st := []) [.int 1] (hct w (gl g)) q_clX6 lyp_2 rfl ok_X6_fail ml_X6_77 ⟨Nat.le_of_ble_eq_true rfl, Nat.le_of_ble_eq_true rfl⟩ (Nat.le_of_ble_eq_true rfl) dX6_needNumber_10 ?_
    show q_Gs w g 13 [(0, .ref 2), (1, .int x1), (2, .int x2)] [] (q_mm I6 L)
    refine g_goto K1 37 dX6_needNumber_13 rfl ?_
    refine g_aload_n K1 0 dX6_needNumber_37 rfl ?_
    refine h_getI K1 q_clX6 8 lyp_2 fkX6_8 fl_X6_116 dX6_needNumber_38 ?_
    refine g_istore_n K1 dX6_needNumber_41 rfl (by decide) rfl ?_
    refine g_aload_n K1 1 dX6_needNumber_42 rfl ?_
    obtain ⟨I7, hct, h⟩ := h
    refine h_callV K1 (st := []) [] (hct w (gl g)) q_clX6 lyp_2 rfl ok_X6_advance ml_X6_38 ⟨Nat.le_of_ble_eq_true rfl, Nat.le_of_ble_eq_true rfl⟩ (Nat.le_of_ble_eq_true rfl) dX6_needNumber_43 ?_
    show q_Gs w g 46 [(3, .int (I6 2 8)), (0, .ref 2), (1, .int x1), (2, .int x2)] [] (q_mm I7 L)
    refine g_iload_n K1 0 dX6_needNumber_46 rfl ?_
    obtain ⟨hr, hI, hL⟩ := h
    subst hr hI hL
    exact g_ireturn K rfl dX6_needNumber_47
theorem c0_X6_needNumber {r : Option Value} {I I' : Nat → Nat → Int32} {L L' : Nat → Nat → Int64} {x1 : Int32} {x2 : Int32} (h : v_X6_needNumber_0 r I' L' I L x1 x2) : q_C kX6_needNumber [.ref 2, .int x1, .int x2] I L r I' L' := fun w l => q_ct (by decide) (Nat.le_of_ble_eq_true rfl) (Nat.le_refl _) (fun g _ K => h w g K)
abbrev v_X6_needWord_0 (r : Option Value) (I' : Nat → Nat → Int32) (L' : Nat → Nat → Int64) (I : Nat → Nat → Int32) (L : Nat → Nat → Int64) (x1 : Nat) : Prop := q_W kX6_needWord 0 [(0, .ref 2), (1, .ref x1)] [] I L r I' L'
set_option maxRecDepth 20000 in
set_option maxHeartbeats 2000000 in
theorem vc_X6_needWord_0 {r : Option Value} {I' : Nat → Nat → Int32} {L' : Nat → Nat → Int64} {I : Nat → Nat → Int32} {L : Nat → Nat → Int64} {x1 : Nat} (h : (∃ r1, q_C kX6_isWord [.ref 2, .ref x1] I L (some (.int r1)) I L ∧ ((r1 = 0 → (∃ I3, q_C kX6_fail [.ref 2, .int 1] I L none I3 L ∧ (∃ I4, q_C kX6_advance [.ref 2] I3 L none I4 L ∧ (r = none ∧ I' = I4 ∧ L' = L)))) ∧ (¬ r1 = 0 → (∃ I2, q_C kX6_advance [.ref 2] I L none I2 L ∧ (r = none ∧ I' = I2 ∧ L' = L)))))) : v_X6_needWord_0 r I' L' I L x1 := by
  intro w g K
  have K1 := K.1
  refine g_aload_n K1 0 dX6_needWord_0 rfl ?_
  refine g_aload_n K1 1 dX6_needWord_1 rfl ?_
  obtain ⟨r1, hct, h⟩ := h
  refine h_callV K1 (st := []) [.ref x1] (hct w (gl g)) q_clX6 lyp_2 rfl ok_X6_isWord ml_X6_55 ⟨Nat.le_of_ble_eq_true rfl, Nat.le_of_ble_eq_true rfl⟩ (Nat.le_of_ble_eq_true rfl) dX6_needWord_2 ?_
  show q_Gs w g 5 [(0, .ref 2), (1, .ref x1)] [.int r1] (q_mm I L)
  refine g_if_ne K1 13 dX6_needWord_5 rfl (fun hc => ?_) (fun hc => ?_)
  · replace h := h.2 hc
    refine g_aload_n K1 0 dX6_needWord_13 rfl ?_
    obtain ⟨I2, hct, h⟩ := h
    refine h_callV K1 (st := []) [] (hct w (gl g)) q_clX6 lyp_2 rfl ok_X6_advance ml_X6_38 ⟨Nat.le_of_ble_eq_true rfl, Nat.le_of_ble_eq_true rfl⟩ (Nat.le_of_ble_eq_true rfl) dX6_needWord_14 ?_
    show q_Gs w g 17 [(0, .ref 2), (1, .ref x1)] [] (q_mm I2 L)
    obtain ⟨hr, hI, hL⟩ := h
    subst hr hI hL
    exact g_vreturn K rfl dX6_needWord_17
  · replace h := h.1 hc
    refine g_aload_n K1 0 dX6_needWord_8 rfl ?_
    refine g_iconst K1 1 dX6_needWord_9 rfl ?_
    obtain ⟨I3, hct, h⟩ := h
    refine h_callV K1 (st := []) [.int 1] (hct w (gl g)) q_clX6 lyp_2 rfl ok_X6_fail ml_X6_77 ⟨Nat.le_of_ble_eq_true rfl, Nat.le_of_ble_eq_true rfl⟩ (Nat.le_of_ble_eq_true rfl) dX6_needWord_10 ?_
    show q_Gs w g 13 [(0, .ref 2), (1, .ref x1)] [] (q_mm I3 L)
    refine g_aload_n K1 0 dX6_needWord_13 rfl ?_
    obtain ⟨I4, hct, h⟩ := h
    refine h_callV K1 (st := []) [] (hct w (gl g)) q_clX6 lyp_2 rfl ok_X6_advance ml_X6_38 ⟨Nat.le_of_ble_eq_true rfl, Nat.le_of_ble_eq_true rfl⟩ (Nat.le_of_ble_eq_true rfl) dX6_needWord_14 ?_
    show q_Gs w g 17 [(0, .ref 2), (1, .ref x1)] [] (q_mm I4 L)
    obtain ⟨hr, hI, hL⟩ := h
    subst hr hI hL
    exact g_vreturn K rfl dX6_needWord_17
theorem c0_X6_needWord {r : Option Value} {I I' : Nat → Nat → Int32} {L L' : Nat → Nat → Int64} {x1 : Nat} (h : v_X6_needWord_0 r I' L' I L x1) : q_C kX6_needWord [.ref 2, .ref x1] I L r I' L' := fun w l => q_ct (by decide) (Nat.le_of_ble_eq_true rfl) (Nat.le_refl _) (fun g _ K => h w g K)
abbrev v_X6_read_0 (r : Option Value) (I' : Nat → Nat → Int32) (L' : Nat → Nat → Int64) (I : Nat → Nat → Int32) (L : Nat → Nat → Int64) (x1 : Int32) : Prop := q_W kX6_read 0 [(0, .ref 2), (1, .int x1)] [] I L r I' L'
abbrev v_X6_read_33 (r : Option Value) (I' : Nat → Nat → Int32) (L' : Nat → Nat → Int64) (I : Nat → Nat → Int32) (L : Nat → Nat → Int64) (x2 : Int32) : Prop := q_W kX6_read 33 [(0, .ref 2), (2, .int x2)] [] I L r I' L'
set_option maxRecDepth 20000 in
set_option maxHeartbeats 2000000 in
theorem vc_X6_read_0 {r : Option Value} {I' : Nat → Nat → Int32} {L' : Nat → Nat → Int64} {I : Nat → Nat → Int32} {L : Nat → Nat → Int64} {x1 : Int32} (h : (∃ I1, q_C kX5_clear [.ref 3] (up2 (up2 (up2 (up2 I 2 4 x1) 2 6 0) 2 0 0) 2 1 (-1)) L none I1 L ∧ (∃ I2, q_C kX6_advance [.ref 2] I1 L none I2 L ∧ (v_X6_read_33 r I' L' I2 L 0)))) : v_X6_read_0 r I' L' I L x1 := by
  intro w g K
  have K1 := K.1
  refine g_aload_n K1 0 dX6_read_0 rfl ?_
  refine g_iload_n K1 1 dX6_read_1 rfl ?_
  refine h_putI K1 q_clX6 4 lyp_2 fkX6_4 fl_X6_22 rfl rfl rfl dX6_read_2 ?_
  refine g_aload_n K1 0 dX6_read_5 rfl ?_
  refine g_iconst K1 0 dX6_read_6 rfl ?_
  refine h_putI K1 q_clX6 6 lyp_2 fkX6_6 fl_X6_26 rfl rfl rfl dX6_read_7 ?_
  refine g_aload_n K1 0 dX6_read_10 rfl ?_
  refine g_iconst K1 0 dX6_read_11 rfl ?_
  refine h_putI K1 q_clX6 0 lyp_2 fkX6_0 fl_X6_29 rfl rfl rfl dX6_read_12 ?_
  refine g_aload_n K1 0 dX6_read_15 rfl ?_
  refine g_iconst K1 (-1) dX6_read_16 rfl ?_
  refine h_putI K1 q_clX6 1 lyp_2 fkX6_1 fl_X6_32 rfl rfl rfl dX6_read_17 ?_
  refine g_aload_n K1 0 dX6_read_20 rfl ?_
  refine h_getO K1 q_clX6 2 3 lyp_2 fkX6_2 rfl fl_X6_12 dX6_read_21 ?_
  obtain ⟨I1, hct, h⟩ := h
  refine h_callV K1 (st := []) [] (hct w (gl g)) q_clX5 lyp_3 rfl ok_X5_clear ml_X6_35 ⟨Nat.le_of_ble_eq_true rfl, Nat.le_of_ble_eq_true rfl⟩ (Nat.le_of_ble_eq_true rfl) dX6_read_24 ?_
  show q_Gs w g 27 [(0, .ref 2), (1, .int x1)] [] (q_mm I1 L)
  refine g_aload_n K1 0 dX6_read_27 rfl ?_
  obtain ⟨I2, hct, h⟩ := h
  refine h_callV K1 (st := []) [] (hct w (gl g)) q_clX6 lyp_2 rfl ok_X6_advance ml_X6_38 ⟨Nat.le_of_ble_eq_true rfl, Nat.le_of_ble_eq_true rfl⟩ (Nat.le_of_ble_eq_true rfl) dX6_read_28 ?_
  show q_Gs w g 31 [(0, .ref 2), (1, .int x1)] [] (q_mm I2 L)
  refine g_iconst K1 0 dX6_read_31 rfl ?_
  refine g_istore_n K1 dX6_read_32 rfl (by decide) rfl ?_
  exact g_perm [1, 0] rfl (h w g K)
set_option maxRecDepth 20000 in
set_option maxHeartbeats 2000000 in
theorem vc_X6_read_33 {r : Option Value} {I' : Nat → Nat → Int32} {L' : Nat → Nat → Int64} {I : Nat → Nat → Int32} {L : Nat → Nat → Int64} {x2 : Int32} (h : ((600 ≤ x2 → (r = some (.ref 3) ∧ I' = I ∧ L' = L)) ∧ (¬ 600 ≤ x2 → (((I 2 0) = 0 → (((I 2 7) = 0 → (r = some (.ref 3) ∧ I' = I ∧ L' = L)) ∧ (¬ (I 2 7) = 0 → (∃ I1, q_C kX6_readLine [.ref 2] I L none I1 L ∧ (v_X6_read_33 r I' L' I1 L (x2 + 1)))))) ∧ (¬ (I 2 0) = 0 → (r = some (.ref 3) ∧ I' = I ∧ L' = L)))))) : v_X6_read_33 r I' L' I L x2 := by
  intro w g K
  have K1 := K.1
  refine g_iload_n K1 1 dX6_read_33 rfl ?_
  refine g_sipush K1 600 dX6_read_34 rfl ?_
  refine g_icmp_ge K1 64 dX6_read_37 rfl (fun hc => ?_) (fun hc => ?_)
  · replace h := h.1 hc
    refine g_aload_n K1 0 dX6_read_64 rfl ?_
    refine h_getO K1 q_clX6 2 3 lyp_2 fkX6_2 rfl fl_X6_12 dX6_read_65 ?_
    obtain ⟨hr, hI, hL⟩ := h
    subst hr hI hL
    exact g_areturn K rfl dX6_read_68
  · replace h := h.2 hc
    refine g_aload_n K1 0 dX6_read_40 rfl ?_
    refine h_getI K1 q_clX6 0 lyp_2 fkX6_0 fl_X6_29 dX6_read_41 ?_
    refine g_if_ne K1 64 dX6_read_44 rfl (fun hc => ?_) (fun hc => ?_)
    · replace h := h.2 hc
      refine g_aload_n K1 0 dX6_read_64 rfl ?_
      refine h_getO K1 q_clX6 2 3 lyp_2 fkX6_2 rfl fl_X6_12 dX6_read_65 ?_
      obtain ⟨hr, hI, hL⟩ := h
      subst hr hI hL
      exact g_areturn K rfl dX6_read_68
    · replace h := h.1 hc
      refine g_aload_n K1 0 dX6_read_47 rfl ?_
      refine h_getI K1 q_clX6 7 lyp_2 fkX6_7 fl_X6_41 dX6_read_48 ?_
      refine g_if_eq K1 64 dX6_read_51 rfl (fun hc => ?_) (fun hc => ?_)
      · replace h := h.1 hc
        refine g_aload_n K1 0 dX6_read_64 rfl ?_
        refine h_getO K1 q_clX6 2 3 lyp_2 fkX6_2 rfl fl_X6_12 dX6_read_65 ?_
        obtain ⟨hr, hI, hL⟩ := h
        subst hr hI hL
        exact g_areturn K rfl dX6_read_68
      · replace h := h.2 hc
        refine g_aload_n K1 0 dX6_read_54 rfl ?_
        obtain ⟨I1, hct, h⟩ := h
        refine h_callV K1 (st := []) [] (hct w (gl g)) q_clX6 lyp_2 rfl ok_X6_readLine ml_X6_44 ⟨Nat.le_of_ble_eq_true rfl, Nat.le_of_ble_eq_true rfl⟩ (Nat.le_of_ble_eq_true rfl) dX6_read_55 ?_
        show q_Gs w g 58 [(0, .ref 2), (2, .int x2)] [] (q_mm I1 L)
        refine g_iinc K1 (x2 + 1) 1 dX6_read_58 rfl rfl (by decide) rfl ?_
        refine g_goto K1 33 dX6_read_61 rfl ?_
        exact g_perm [1, 0] rfl (h w g K)
theorem c0_X6_read {r : Option Value} {I I' : Nat → Nat → Int32} {L L' : Nat → Nat → Int64} {x1 : Int32} (h : v_X6_read_0 r I' L' I L x1) : q_C kX6_read [.ref 2, .int x1] I L r I' L' := fun w l => q_ct (by decide) (Nat.le_of_ble_eq_true rfl) (Nat.le_refl _) (fun g _ K => h w g K)
abbrev v_X6_readAisle_0 (r : Option Value) (I' : Nat → Nat → Int32) (L' : Nat → Nat → Int64) (I : Nat → Nat → Int32) (L : Nat → Nat → Int64)  : Prop := q_W kX6_readAisle 0 [(0, .ref 2)] [] I L r I' L'
abbrev v_X6_readAisle_68 (r : Option Value) (I' : Nat → Nat → Int32) (L' : Nat → Nat → Int64) (I : Nat → Nat → Int32) (L : Nat → Nat → Int64) (x1 : Int32) : Prop := q_W kX6_readAisle 68 [(0, .ref 2), (1, .int x1)] [] I L r I' L'
set_option maxRecDepth 20000 in
set_option maxHeartbeats 2000000 in
theorem vc_X6_readAisle_0 {r : Option Value} {I' : Nat → Nat → Int32} {L' : Nat → Nat → Int64} {I : Nat → Nat → Int32} {L : Nat → Nat → Int64}  (h : (∃ I1, q_C kX6_refuseMoreThan [.ref 2, .int 12, .int (I 3 5)] I L none I1 L ∧ (∃ I2, q_C kX6_advance [.ref 2] I1 L none I2 L ∧ (∃ r3 I4, q_C kX6_needNumber [.ref 2, .int 0, .int ((I2 3 4) - 1)] I2 L (some (.int r3)) I4 L ∧ (((I4 2 0) = 0 → (((I4 2 7) = 2 → (((I4 2 8) = r3 → (∃ I5, q_C kX6_fail [.ref 2, .int 2] I4 L none I5 L ∧ (v_X6_readAisle_68 r I' L' I5 L r3))) ∧ (¬ (I4 2 8) = r3 → (∃ r6, q_C kX6_areJoined [.ref 2, .int r3] I4 L (some (.int r6)) I4 L ∧ ((r6 = 0 → (v_X6_readAisle_68 r I' L' I4 L r3)) ∧ (¬ r6 = 0 → (∃ I7, q_C kX6_fail [.ref 2, .int 2] I4 L none I7 L ∧ (v_X6_readAisle_68 r I' L' I7 L r3)))))))) ∧ (¬ (I4 2 7) = 2 → (v_X6_readAisle_68 r I' L' I4 L r3)))) ∧ (¬ (I4 2 0) = 0 → (v_X6_readAisle_68 r I' L' I4 L r3))))))) : v_X6_readAisle_0 r I' L' I L  := by
  intro w g K
  have K1 := K.1
  refine g_aload_n K1 0 dX6_readAisle_0 rfl ?_
  refine g_bipush K1 12 dX6_readAisle_1 rfl ?_
  refine g_aload_n K1 0 dX6_readAisle_3 rfl ?_
  refine h_getO K1 q_clX6 2 3 lyp_2 fkX6_2 rfl fl_X6_12 dX6_readAisle_4 ?_
  refine h_getI K1 q_clX5 5 lyp_3 fkX5_5 fl_X6_133 dX6_readAisle_7 ?_
  obtain ⟨I1, hct, h⟩ := h
  refine h_callV K1 (st := []) [.int 12, .int (I 3 5)] (hct w (gl g)) q_clX6 lyp_2 rfl ok_X6_refuseMoreThan ml_X6_106 ⟨Nat.le_of_ble_eq_true rfl, Nat.le_of_ble_eq_true rfl⟩ (Nat.le_of_ble_eq_true rfl) dX6_readAisle_10 ?_
  show q_Gs w g 13 [(0, .ref 2)] [] (q_mm I1 L)
  refine g_aload_n K1 0 dX6_readAisle_13 rfl ?_
  obtain ⟨I2, hct, h⟩ := h
  refine h_callV K1 (st := []) [] (hct w (gl g)) q_clX6 lyp_2 rfl ok_X6_advance ml_X6_38 ⟨Nat.le_of_ble_eq_true rfl, Nat.le_of_ble_eq_true rfl⟩ (Nat.le_of_ble_eq_true rfl) dX6_readAisle_14 ?_
  show q_Gs w g 17 [(0, .ref 2)] [] (q_mm I2 L)
  refine g_aload_n K1 0 dX6_readAisle_17 rfl ?_
  refine g_iconst K1 0 dX6_readAisle_18 rfl ?_
  refine g_aload_n K1 0 dX6_readAisle_19 rfl ?_
  refine h_getO K1 q_clX6 2 3 lyp_2 fkX6_2 rfl fl_X6_12 dX6_readAisle_20 ?_
  refine h_getI K1 q_clX5 4 lyp_3 fkX5_4 fl_X6_103 dX6_readAisle_23 ?_
  refine g_iconst K1 1 dX6_readAisle_26 rfl ?_
  refine g_isub K1 dX6_readAisle_27 ?_
  obtain ⟨r3, I4, hct, h⟩ := h
  refine h_callV K1 (st := []) [.int 0, .int ((I2 3 4) - 1)] (hct w (gl g)) q_clX6 lyp_2 rfl ok_X6_needNumber ml_X6_89 ⟨Nat.le_of_ble_eq_true rfl, Nat.le_of_ble_eq_true rfl⟩ (Nat.le_of_ble_eq_true rfl) dX6_readAisle_28 ?_
  show q_Gs w g 31 [(0, .ref 2)] [.int r3] (q_mm I4 L)
  refine g_istore_n K1 dX6_readAisle_31 rfl (by decide) rfl ?_
  refine g_aload_n K1 1 dX6_readAisle_32 rfl ?_
  refine h_getI K1 q_clX6 0 lyp_2 fkX6_0 fl_X6_29 dX6_readAisle_33 ?_
  refine g_if_ne K1 68 dX6_readAisle_36 rfl (fun hc => ?_) (fun hc => ?_)
  · replace h := h.2 hc
    exact g_perm [1, 0] rfl (h w g K)
  · replace h := h.1 hc
    refine g_aload_n K1 1 dX6_readAisle_39 rfl ?_
    refine h_getI K1 q_clX6 7 lyp_2 fkX6_7 fl_X6_41 dX6_readAisle_40 ?_
    refine g_iconst K1 2 dX6_readAisle_43 rfl ?_
    refine g_icmp_ne K1 68 dX6_readAisle_44 rfl (fun hc => ?_) (fun hc => ?_)
    · replace h := h.2 hc
      exact g_perm [1, 0] rfl (h w g K)
    · replace h := h.1 hc
      refine g_aload_n K1 1 dX6_readAisle_47 rfl ?_
      refine h_getI K1 q_clX6 8 lyp_2 fkX6_8 fl_X6_116 dX6_readAisle_48 ?_
      refine g_iload_n K1 0 dX6_readAisle_51 rfl ?_
      refine g_icmp_eq K1 63 dX6_readAisle_52 rfl (fun hc => ?_) (fun hc => ?_)
      · replace h := h.1 hc
        refine g_aload_n K1 1 dX6_readAisle_63 rfl ?_
        refine g_iconst K1 2 dX6_readAisle_64 rfl ?_
        obtain ⟨I5, hct, h⟩ := h
        refine h_callV K1 (st := []) [.int 2] (hct w (gl g)) q_clX6 lyp_2 rfl ok_X6_fail ml_X6_77 ⟨Nat.le_of_ble_eq_true rfl, Nat.le_of_ble_eq_true rfl⟩ (Nat.le_of_ble_eq_true rfl) dX6_readAisle_65 ?_
        show q_Gs w g 68 [(1, .int r3), (0, .ref 2)] [] (q_mm I5 L)
        exact g_perm [1, 0] rfl (h w g K)
      · replace h := h.2 hc
        refine g_aload_n K1 1 dX6_readAisle_55 rfl ?_
        refine g_iload_n K1 0 dX6_readAisle_56 rfl ?_
        obtain ⟨r6, hct, h⟩ := h
        refine h_callV K1 (st := []) [.int r3] (hct w (gl g)) q_clX6 lyp_2 rfl ok_X6_areJoined ml_X6_136 ⟨Nat.le_of_ble_eq_true rfl, Nat.le_of_ble_eq_true rfl⟩ (Nat.le_of_ble_eq_true rfl) dX6_readAisle_57 ?_
        show q_Gs w g 60 [(1, .int r3), (0, .ref 2)] [.int r6] (q_mm I4 L)
        refine g_if_eq K1 68 dX6_readAisle_60 rfl (fun hc => ?_) (fun hc => ?_)
        · replace h := h.1 hc
          exact g_perm [1, 0] rfl (h w g K)
        · replace h := h.2 hc
          refine g_aload_n K1 1 dX6_readAisle_63 rfl ?_
          refine g_iconst K1 2 dX6_readAisle_64 rfl ?_
          obtain ⟨I7, hct, h⟩ := h
          refine h_callV K1 (st := []) [.int 2] (hct w (gl g)) q_clX6 lyp_2 rfl ok_X6_fail ml_X6_77 ⟨Nat.le_of_ble_eq_true rfl, Nat.le_of_ble_eq_true rfl⟩ (Nat.le_of_ble_eq_true rfl) dX6_readAisle_65 ?_
          show q_Gs w g 68 [(1, .int r3), (0, .ref 2)] [] (q_mm I7 L)
          exact g_perm [1, 0] rfl (h w g K)
set_option maxRecDepth 20000 in
set_option maxHeartbeats 2000000 in
theorem vc_X6_readAisle_68 {r : Option Value} {I' : Nat → Nat → Int32} {L' : Nat → Nat → Int64} {I : Nat → Nat → Int32} {L : Nat → Nat → Int64} {x1 : Int32} (h : (∃ r1 I2, q_C kX6_needNumber [.ref 2, .int 0, .int ((I 3 4) - 1)] I L (some (.int r1)) I2 L ∧ (((I2 2 0) = 0 → (∃ I3, q_C kX5_addAisle [.ref 3, .int x1, .int r1] I2 L none I3 L ∧ (r = none ∧ I' = I3 ∧ L' = L))) ∧ (¬ (I2 2 0) = 0 → (r = none ∧ I' = I2 ∧ L' = L))))) : v_X6_readAisle_68 r I' L' I L x1 := by
  intro w g K
  have K1 := K.1
  refine g_aload_n K1 0 dX6_readAisle_68 rfl ?_
  refine g_iconst K1 0 dX6_readAisle_69 rfl ?_
  refine g_aload_n K1 0 dX6_readAisle_70 rfl ?_
  refine h_getO K1 q_clX6 2 3 lyp_2 fkX6_2 rfl fl_X6_12 dX6_readAisle_71 ?_
  refine h_getI K1 q_clX5 4 lyp_3 fkX5_4 fl_X6_103 dX6_readAisle_74 ?_
  refine g_iconst K1 1 dX6_readAisle_77 rfl ?_
  refine g_isub K1 dX6_readAisle_78 ?_
  obtain ⟨r1, I2, hct, h⟩ := h
  refine h_callV K1 (st := []) [.int 0, .int ((I 3 4) - 1)] (hct w (gl g)) q_clX6 lyp_2 rfl ok_X6_needNumber ml_X6_89 ⟨Nat.le_of_ble_eq_true rfl, Nat.le_of_ble_eq_true rfl⟩ (Nat.le_of_ble_eq_true rfl) dX6_readAisle_79 ?_
  show q_Gs w g 82 [(0, .ref 2), (1, .int x1)] [.int r1] (q_mm I2 L)
  refine g_istore_n K1 dX6_readAisle_82 rfl (by decide) rfl ?_
  refine g_aload_n K1 1 dX6_readAisle_83 rfl ?_
  refine h_getI K1 q_clX6 0 lyp_2 fkX6_0 fl_X6_29 dX6_readAisle_84 ?_
  refine g_if_ne K1 99 dX6_readAisle_87 rfl (fun hc => ?_) (fun hc => ?_)
  · replace h := h.2 hc
    obtain ⟨hr, hI, hL⟩ := h
    subst hr hI hL
    exact g_vreturn K rfl dX6_readAisle_99
  · replace h := h.1 hc
    refine g_aload_n K1 1 dX6_readAisle_90 rfl ?_
    refine h_getO K1 q_clX6 2 3 lyp_2 fkX6_2 rfl fl_X6_12 dX6_readAisle_91 ?_
    refine g_iload_n K1 2 dX6_readAisle_94 rfl ?_
    refine g_iload_n K1 0 dX6_readAisle_95 rfl ?_
    obtain ⟨I3, hct, h⟩ := h
    refine h_callV K1 (st := []) [.int x1, .int r1] (hct w (gl g)) q_clX5 lyp_3 rfl ok_X5_addAisle ml_X6_140 ⟨Nat.le_of_ble_eq_true rfl, Nat.le_of_ble_eq_true rfl⟩ (Nat.le_of_ble_eq_true rfl) dX6_readAisle_96 ?_
    show q_Gs w g 99 [(2, .int r1), (0, .ref 2), (1, .int x1)] [] (q_mm I3 L)
    obtain ⟨hr, hI, hL⟩ := h
    subst hr hI hL
    exact g_vreturn K rfl dX6_readAisle_99
theorem c0_X6_readAisle {r : Option Value} {I I' : Nat → Nat → Int32} {L L' : Nat → Nat → Int64}  (h : v_X6_readAisle_0 r I' L' I L ) : q_C kX6_readAisle [.ref 2] I L r I' L' := fun w l => q_ct (by decide) (Nat.le_of_ble_eq_true rfl) (Nat.le_refl _) (fun g _ K => h w g K)
abbrev v_X6_readDraught_0 (r : Option Value) (I' : Nat → Nat → Int32) (L' : Nat → Nat → Int64) (I : Nat → Nat → Int32) (L : Nat → Nat → Int64)  : Prop := q_W kX6_readDraught 0 [(0, .ref 2)] [] I L r I' L'
set_option maxRecDepth 20000 in
set_option maxHeartbeats 2000000 in
theorem vc_X6_readDraught_0 {r : Option Value} {I' : Nat → Nat → Int32} {L' : Nat → Nat → Int64} {I : Nat → Nat → Int32} {L : Nat → Nat → Int64}  (h : (∃ I1, q_C kX6_refuseMoreThan [.ref 2, .int 6, .int (I 3 7)] I L none I1 L ∧ (∃ I2, q_C kX6_advance [.ref 2] I1 L none I2 L ∧ (∃ r3 I4, q_C kX6_needNumber [.ref 2, .int 0, .int ((I2 3 4) - 1)] I2 L (some (.int r3)) I4 L ∧ (∃ I5, q_C kX6_needWord [.ref 2, .ref 10014] I4 L none I5 L ∧ (∃ r6 I7, q_C kX6_needNumber [.ref 2, .int 0, .int 11] I5 L (some (.int r6)) I7 L ∧ (((I7 2 0) = 0 → (∃ I8, q_C kX5_addDraught [.ref 3, .int r3, .int r6] I7 L none I8 L ∧ (r = none ∧ I' = I8 ∧ L' = L))) ∧ (¬ (I7 2 0) = 0 → (r = none ∧ I' = I7 ∧ L' = L))))))))) : v_X6_readDraught_0 r I' L' I L  := by
  intro w g K
  have K1 := K.1
  refine g_aload_n K1 0 dX6_readDraught_0 rfl ?_
  refine g_bipush K1 6 dX6_readDraught_1 rfl ?_
  refine g_aload_n K1 0 dX6_readDraught_3 rfl ?_
  refine h_getO K1 q_clX6 2 3 lyp_2 fkX6_2 rfl fl_X6_12 dX6_readDraught_4 ?_
  refine h_getI K1 q_clX5 7 lyp_3 fkX5_7 fl_X6_157 dX6_readDraught_7 ?_
  obtain ⟨I1, hct, h⟩ := h
  refine h_callV K1 (st := []) [.int 6, .int (I 3 7)] (hct w (gl g)) q_clX6 lyp_2 rfl ok_X6_refuseMoreThan ml_X6_106 ⟨Nat.le_of_ble_eq_true rfl, Nat.le_of_ble_eq_true rfl⟩ (Nat.le_of_ble_eq_true rfl) dX6_readDraught_10 ?_
  show q_Gs w g 13 [(0, .ref 2)] [] (q_mm I1 L)
  refine g_aload_n K1 0 dX6_readDraught_13 rfl ?_
  obtain ⟨I2, hct, h⟩ := h
  refine h_callV K1 (st := []) [] (hct w (gl g)) q_clX6 lyp_2 rfl ok_X6_advance ml_X6_38 ⟨Nat.le_of_ble_eq_true rfl, Nat.le_of_ble_eq_true rfl⟩ (Nat.le_of_ble_eq_true rfl) dX6_readDraught_14 ?_
  show q_Gs w g 17 [(0, .ref 2)] [] (q_mm I2 L)
  refine g_aload_n K1 0 dX6_readDraught_17 rfl ?_
  refine g_iconst K1 0 dX6_readDraught_18 rfl ?_
  refine g_aload_n K1 0 dX6_readDraught_19 rfl ?_
  refine h_getO K1 q_clX6 2 3 lyp_2 fkX6_2 rfl fl_X6_12 dX6_readDraught_20 ?_
  refine h_getI K1 q_clX5 4 lyp_3 fkX5_4 fl_X6_103 dX6_readDraught_23 ?_
  refine g_iconst K1 1 dX6_readDraught_26 rfl ?_
  refine g_isub K1 dX6_readDraught_27 ?_
  obtain ⟨r3, I4, hct, h⟩ := h
  refine h_callV K1 (st := []) [.int 0, .int ((I2 3 4) - 1)] (hct w (gl g)) q_clX6 lyp_2 rfl ok_X6_needNumber ml_X6_89 ⟨Nat.le_of_ble_eq_true rfl, Nat.le_of_ble_eq_true rfl⟩ (Nat.le_of_ble_eq_true rfl) dX6_readDraught_28 ?_
  show q_Gs w g 31 [(0, .ref 2)] [.int r3] (q_mm I4 L)
  refine g_istore_n K1 dX6_readDraught_31 rfl (by decide) rfl ?_
  refine g_aload_n K1 1 dX6_readDraught_32 rfl ?_
  refine g_ldcS K1 13 (q := _) rfl rfl rfl dX6_readDraught_33 ?_
  obtain ⟨I5, hct, h⟩ := h
  refine h_callV K1 (st := []) [.ref 10014] (hct w (gl g)) q_clX6 lyp_2 rfl ok_X6_needWord ml_X6_83 ⟨Nat.le_of_ble_eq_true rfl, Nat.le_of_ble_eq_true rfl⟩ (Nat.le_of_ble_eq_true rfl) dX6_readDraught_35 ?_
  show q_Gs w g 38 [(1, .int r3), (0, .ref 2)] [] (q_mm I5 L)
  refine g_aload_n K1 1 dX6_readDraught_38 rfl ?_
  refine g_iconst K1 0 dX6_readDraught_39 rfl ?_
  refine g_bipush K1 11 dX6_readDraught_40 rfl ?_
  obtain ⟨r6, I7, hct, h⟩ := h
  refine h_callV K1 (st := []) [.int 0, .int 11] (hct w (gl g)) q_clX6 lyp_2 rfl ok_X6_needNumber ml_X6_89 ⟨Nat.le_of_ble_eq_true rfl, Nat.le_of_ble_eq_true rfl⟩ (Nat.le_of_ble_eq_true rfl) dX6_readDraught_42 ?_
  show q_Gs w g 45 [(1, .int r3), (0, .ref 2)] [.int r6] (q_mm I7 L)
  refine g_istore_n K1 dX6_readDraught_45 rfl (by decide) rfl ?_
  refine g_aload_n K1 2 dX6_readDraught_46 rfl ?_
  refine h_getI K1 q_clX6 0 lyp_2 fkX6_0 fl_X6_29 dX6_readDraught_47 ?_
  refine g_if_ne K1 62 dX6_readDraught_50 rfl (fun hc => ?_) (fun hc => ?_)
  · replace h := h.2 hc
    obtain ⟨hr, hI, hL⟩ := h
    subst hr hI hL
    exact g_vreturn K rfl dX6_readDraught_62
  · replace h := h.1 hc
    refine g_aload_n K1 2 dX6_readDraught_53 rfl ?_
    refine h_getO K1 q_clX6 2 3 lyp_2 fkX6_2 rfl fl_X6_12 dX6_readDraught_54 ?_
    refine g_iload_n K1 1 dX6_readDraught_57 rfl ?_
    refine g_iload_n K1 0 dX6_readDraught_58 rfl ?_
    obtain ⟨I8, hct, h⟩ := h
    refine h_callV K1 (st := []) [.int r3, .int r6] (hct w (gl g)) q_clX5 lyp_3 rfl ok_X5_addDraught ml_X6_162 ⟨Nat.le_of_ble_eq_true rfl, Nat.le_of_ble_eq_true rfl⟩ (Nat.le_of_ble_eq_true rfl) dX6_readDraught_59 ?_
    show q_Gs w g 62 [(2, .int r6), (1, .int r3), (0, .ref 2)] [] (q_mm I8 L)
    obtain ⟨hr, hI, hL⟩ := h
    subst hr hI hL
    exact g_vreturn K rfl dX6_readDraught_62
theorem c0_X6_readDraught {r : Option Value} {I I' : Nat → Nat → Int32} {L L' : Nat → Nat → Int64}  (h : v_X6_readDraught_0 r I' L' I L ) : q_C kX6_readDraught [.ref 2] I L r I' L' := fun w l => q_ct (by decide) (Nat.le_of_ble_eq_true rfl) (Nat.le_refl _) (fun g _ K => h w g K)
abbrev v_X6_readLight_0 (r : Option Value) (I' : Nat → Nat → Int32) (L' : Nat → Nat → Int64) (I : Nat → Nat → Int32) (L : Nat → Nat → Int64)  : Prop := q_W kX6_readLight 0 [(0, .ref 2)] [] I L r I' L'
abbrev v_X6_readLight_40 (r : Option Value) (I' : Nat → Nat → Int32) (L' : Nat → Nat → Int64) (I : Nat → Nat → Int32) (L : Nat → Nat → Int64) (x1 : Int32) (x2 : Int32) (x3 : Int32) : Prop := q_W kX6_readLight 40 [(0, .ref 2), (1, .int x1), (2, .int x2), (3, .int x3)] [] I L r I' L'
abbrev v_X6_readLight_72 (r : Option Value) (I' : Nat → Nat → Int32) (L' : Nat → Nat → Int64) (I : Nat → Nat → Int32) (L : Nat → Nat → Int64) (x1 : Int32) (x2 : Int32) : Prop := q_W kX6_readLight 72 [(0, .ref 2), (1, .int x1), (2, .int x2)] [] I L r I' L'
set_option maxRecDepth 20000 in
set_option maxHeartbeats 2000000 in
theorem vc_X6_readLight_0 {r : Option Value} {I' : Nat → Nat → Int32} {L' : Nat → Nat → Int64} {I : Nat → Nat → Int32} {L : Nat → Nat → Int64}  (h : (∃ I1, q_C kX6_refuseMoreThan [.ref 2, .int 4, .int (I 3 6)] I L none I1 L ∧ (∃ I2, q_C kX6_advance [.ref 2] I1 L none I2 L ∧ (∃ r3 I4, q_C kX6_needNumber [.ref 2, .int 0, .int ((I2 3 4) - 1)] I2 L (some (.int r3)) I4 L ∧ (∃ r5 I6, q_C kX6_needNumber [.ref 2, .int 1, .int 4] I4 L (some (.int r5)) I6 L ∧ (v_X6_readLight_40 r I' L' I6 L r3 r5 1)))))) : v_X6_readLight_0 r I' L' I L  := by
  intro w g K
  have K1 := K.1
  refine g_aload_n K1 0 dX6_readLight_0 rfl ?_
  refine g_iconst K1 4 dX6_readLight_1 rfl ?_
  refine g_aload_n K1 0 dX6_readLight_2 rfl ?_
  refine h_getO K1 q_clX6 2 3 lyp_2 fkX6_2 rfl fl_X6_12 dX6_readLight_3 ?_
  refine h_getI K1 q_clX5 6 lyp_3 fkX5_6 fl_X6_147 dX6_readLight_6 ?_
  obtain ⟨I1, hct, h⟩ := h
  refine h_callV K1 (st := []) [.int 4, .int (I 3 6)] (hct w (gl g)) q_clX6 lyp_2 rfl ok_X6_refuseMoreThan ml_X6_106 ⟨Nat.le_of_ble_eq_true rfl, Nat.le_of_ble_eq_true rfl⟩ (Nat.le_of_ble_eq_true rfl) dX6_readLight_9 ?_
  show q_Gs w g 12 [(0, .ref 2)] [] (q_mm I1 L)
  refine g_aload_n K1 0 dX6_readLight_12 rfl ?_
  obtain ⟨I2, hct, h⟩ := h
  refine h_callV K1 (st := []) [] (hct w (gl g)) q_clX6 lyp_2 rfl ok_X6_advance ml_X6_38 ⟨Nat.le_of_ble_eq_true rfl, Nat.le_of_ble_eq_true rfl⟩ (Nat.le_of_ble_eq_true rfl) dX6_readLight_13 ?_
  show q_Gs w g 16 [(0, .ref 2)] [] (q_mm I2 L)
  refine g_aload_n K1 0 dX6_readLight_16 rfl ?_
  refine g_iconst K1 0 dX6_readLight_17 rfl ?_
  refine g_aload_n K1 0 dX6_readLight_18 rfl ?_
  refine h_getO K1 q_clX6 2 3 lyp_2 fkX6_2 rfl fl_X6_12 dX6_readLight_19 ?_
  refine h_getI K1 q_clX5 4 lyp_3 fkX5_4 fl_X6_103 dX6_readLight_22 ?_
  refine g_iconst K1 1 dX6_readLight_25 rfl ?_
  refine g_isub K1 dX6_readLight_26 ?_
  obtain ⟨r3, I4, hct, h⟩ := h
  refine h_callV K1 (st := []) [.int 0, .int ((I2 3 4) - 1)] (hct w (gl g)) q_clX6 lyp_2 rfl ok_X6_needNumber ml_X6_89 ⟨Nat.le_of_ble_eq_true rfl, Nat.le_of_ble_eq_true rfl⟩ (Nat.le_of_ble_eq_true rfl) dX6_readLight_27 ?_
  show q_Gs w g 30 [(0, .ref 2)] [.int r3] (q_mm I4 L)
  refine g_istore_n K1 dX6_readLight_30 rfl (by decide) rfl ?_
  refine g_aload_n K1 1 dX6_readLight_31 rfl ?_
  refine g_iconst K1 1 dX6_readLight_32 rfl ?_
  refine g_iconst K1 4 dX6_readLight_33 rfl ?_
  obtain ⟨r5, I6, hct, h⟩ := h
  refine h_callV K1 (st := []) [.int 1, .int 4] (hct w (gl g)) q_clX6 lyp_2 rfl ok_X6_needNumber ml_X6_89 ⟨Nat.le_of_ble_eq_true rfl, Nat.le_of_ble_eq_true rfl⟩ (Nat.le_of_ble_eq_true rfl) dX6_readLight_34 ?_
  show q_Gs w g 37 [(1, .int r3), (0, .ref 2)] [.int r5] (q_mm I6 L)
  refine g_istore_n K1 dX6_readLight_37 rfl (by decide) rfl ?_
  refine g_iconst K1 1 dX6_readLight_38 rfl ?_
  refine g_istore_n K1 dX6_readLight_39 rfl (by decide) rfl ?_
  exact g_perm [3, 2, 1, 0] rfl (h w g K)
set_option maxRecDepth 20000 in
set_option maxHeartbeats 2000000 in
theorem vc_X6_readLight_40 {r : Option Value} {I' : Nat → Nat → Int32} {L' : Nat → Nat → Int64} {I : Nat → Nat → Int32} {L : Nat → Nat → Int64} {x1 : Int32} {x2 : Int32} {x3 : Int32} (h : ((6 ≤ x3 → (v_X6_readLight_72 r I' L' I L x1 x2)) ∧ (¬ 6 ≤ x3 → (((I 2 7) = 2 → (∃ r1 I2, q_C kX6_needNumber [.ref 2, .int 1, .int 4] I L (some (.int r1)) I2 L ∧ (∃ r3, q_C kX7_with [.int x2, .int x3, .int r1] I2 L (some (.int r3)) I2 L ∧ (v_X6_readLight_40 r I' L' I2 L x1 r3 (x3 + 1))))) ∧ (¬ (I 2 7) = 2 → (v_X6_readLight_72 r I' L' I L x1 x2)))))) : v_X6_readLight_40 r I' L' I L x1 x2 x3 := by
  intro w g K
  have K1 := K.1
  refine g_iload_n K1 3 dX6_readLight_40 rfl ?_
  refine g_bipush K1 6 dX6_readLight_41 rfl ?_
  refine g_icmp_ge K1 72 dX6_readLight_43 rfl (fun hc => ?_) (fun hc => ?_)
  · replace h := h.1 hc
    exact g_perm [0, 1, 2] rfl (h w g K)
  · replace h := h.2 hc
    refine g_aload_n K1 0 dX6_readLight_46 rfl ?_
    refine h_getI K1 q_clX6 7 lyp_2 fkX6_7 fl_X6_41 dX6_readLight_47 ?_
    refine g_iconst K1 2 dX6_readLight_50 rfl ?_
    refine g_icmp_ne K1 72 dX6_readLight_51 rfl (fun hc => ?_) (fun hc => ?_)
    · replace h := h.2 hc
      exact g_perm [0, 1, 2] rfl (h w g K)
    · replace h := h.1 hc
      refine g_iload_n K1 2 dX6_readLight_54 rfl ?_
      refine g_iload_n K1 3 dX6_readLight_55 rfl ?_
      refine g_aload_n K1 0 dX6_readLight_56 rfl ?_
      refine g_iconst K1 1 dX6_readLight_57 rfl ?_
      refine g_iconst K1 4 dX6_readLight_58 rfl ?_
      obtain ⟨r1, I2, hct, h⟩ := h
      refine h_callV K1 (st := [.int x3, .int x2]) [.int 1, .int 4] (hct w (gl g)) q_clX6 lyp_2 rfl ok_X6_needNumber ml_X6_89 ⟨Nat.le_of_ble_eq_true rfl, Nat.le_of_ble_eq_true rfl⟩ (Nat.le_of_ble_eq_true rfl) dX6_readLight_59 ?_
      show q_Gs w g 62 [(0, .ref 2), (1, .int x1), (2, .int x2), (3, .int x3)] [.int r1, .int x3, .int x2] (q_mm I2 L)
      obtain ⟨r3, hct, h⟩ := h
      refine h_callS K1 (st := []) [.int x2, .int x3, .int r1] (hct w (gl g)) ok_X7_with ml_X6_150 ⟨Nat.le_of_ble_eq_true rfl, Nat.le_of_ble_eq_true rfl⟩ (Nat.le_of_ble_eq_true rfl) dX6_readLight_62 ?_
      show q_Gs w g 65 [(0, .ref 2), (1, .int x1), (2, .int x2), (3, .int x3)] [.int r3] (q_mm I2 L)
      refine g_istore_n K1 dX6_readLight_65 rfl (by decide) rfl ?_
      refine g_iinc K1 (x3 + 1) 3 dX6_readLight_66 rfl rfl (by decide) rfl ?_
      refine g_goto K1 40 dX6_readLight_69 rfl ?_
      exact g_perm [2, 3, 1, 0] rfl (h w g K)
set_option maxRecDepth 20000 in
set_option maxHeartbeats 2000000 in
theorem vc_X6_readLight_72 {r : Option Value} {I' : Nat → Nat → Int32} {L' : Nat → Nat → Int64} {I : Nat → Nat → Int32} {L : Nat → Nat → Int64} {x1 : Int32} {x2 : Int32} (h : (((I 2 7) = 2 → (((I 2 8) < 1 → (∃ I2, q_C kX6_fail [.ref 2, .int 2] I L none I2 L ∧ (((I2 2 0) = 0 → (∃ I3, q_C kX5_addLight [.ref 3, .int x1, .int x2] I2 L none I3 L ∧ (r = none ∧ I' = I3 ∧ L' = L))) ∧ (¬ (I2 2 0) = 0 → (r = none ∧ I' = I2 ∧ L' = L))))) ∧ (¬ (I 2 8) < 1 → (((I 2 8) ≤ 4 → (∃ I4, q_C kX6_fail [.ref 2, .int 3] I L none I4 L ∧ (((I4 2 0) = 0 → (∃ I5, q_C kX5_addLight [.ref 3, .int x1, .int x2] I4 L none I5 L ∧ (r = none ∧ I' = I5 ∧ L' = L))) ∧ (¬ (I4 2 0) = 0 → (r = none ∧ I' = I4 ∧ L' = L))))) ∧ (¬ (I 2 8) ≤ 4 → (∃ I6, q_C kX6_fail [.ref 2, .int 2] I L none I6 L ∧ (((I6 2 0) = 0 → (∃ I7, q_C kX5_addLight [.ref 3, .int x1, .int x2] I6 L none I7 L ∧ (r = none ∧ I' = I7 ∧ L' = L))) ∧ (¬ (I6 2 0) = 0 → (r = none ∧ I' = I6 ∧ L' = L))))))))) ∧ (¬ (I 2 7) = 2 → (((I 2 0) = 0 → (∃ I1, q_C kX5_addLight [.ref 3, .int x1, .int x2] I L none I1 L ∧ (r = none ∧ I' = I1 ∧ L' = L))) ∧ (¬ (I 2 0) = 0 → (r = none ∧ I' = I ∧ L' = L)))))) : v_X6_readLight_72 r I' L' I L x1 x2 := by
  intro w g K
  have K1 := K.1
  refine g_aload_n K1 0 dX6_readLight_72 rfl ?_
  refine h_getI K1 q_clX6 7 lyp_2 fkX6_7 fl_X6_41 dX6_readLight_73 ?_
  refine g_iconst K1 2 dX6_readLight_76 rfl ?_
  refine g_icmp_ne K1 105 dX6_readLight_77 rfl (fun hc => ?_) (fun hc => ?_)
  · replace h := h.2 hc
    refine g_aload_n K1 0 dX6_readLight_105 rfl ?_
    refine h_getI K1 q_clX6 0 lyp_2 fkX6_0 fl_X6_29 dX6_readLight_106 ?_
    refine g_if_ne K1 121 dX6_readLight_109 rfl (fun hc => ?_) (fun hc => ?_)
    · replace h := h.2 hc
      obtain ⟨hr, hI, hL⟩ := h
      subst hr hI hL
      exact g_vreturn K rfl dX6_readLight_121
    · replace h := h.1 hc
      refine g_aload_n K1 0 dX6_readLight_112 rfl ?_
      refine h_getO K1 q_clX6 2 3 lyp_2 fkX6_2 rfl fl_X6_12 dX6_readLight_113 ?_
      refine g_iload_n K1 1 dX6_readLight_116 rfl ?_
      refine g_iload_n K1 2 dX6_readLight_117 rfl ?_
      obtain ⟨I1, hct, h⟩ := h
      refine h_callV K1 (st := []) [.int x1, .int x2] (hct w (gl g)) q_clX5 lyp_3 rfl ok_X5_addLight ml_X6_154 ⟨Nat.le_of_ble_eq_true rfl, Nat.le_of_ble_eq_true rfl⟩ (Nat.le_of_ble_eq_true rfl) dX6_readLight_118 ?_
      show q_Gs w g 121 [(0, .ref 2), (1, .int x1), (2, .int x2)] [] (q_mm I1 L)
      obtain ⟨hr, hI, hL⟩ := h
      subst hr hI hL
      exact g_vreturn K rfl dX6_readLight_121
  · replace h := h.1 hc
    refine g_aload_n K1 0 dX6_readLight_80 rfl ?_
    refine g_aload_n K1 0 dX6_readLight_81 rfl ?_
    refine h_getI K1 q_clX6 8 lyp_2 fkX6_8 fl_X6_116 dX6_readLight_82 ?_
    refine g_iconst K1 1 dX6_readLight_85 rfl ?_
    refine g_icmp_lt K1 97 dX6_readLight_86 rfl (fun hc => ?_) (fun hc => ?_)
    · replace h := h.1 hc
      refine g_iconst K1 2 dX6_readLight_97 rfl ?_
      refine g_goto K1 102 dX6_readLight_98 rfl ?_
      obtain ⟨I2, hct, h⟩ := h
      refine h_callV K1 (st := []) [.int 2] (hct w (gl g)) q_clX6 lyp_2 rfl ok_X6_fail ml_X6_77 ⟨Nat.le_of_ble_eq_true rfl, Nat.le_of_ble_eq_true rfl⟩ (Nat.le_of_ble_eq_true rfl) dX6_readLight_102 ?_
      show q_Gs w g 105 [(0, .ref 2), (1, .int x1), (2, .int x2)] [] (q_mm I2 L)
      refine g_aload_n K1 0 dX6_readLight_105 rfl ?_
      refine h_getI K1 q_clX6 0 lyp_2 fkX6_0 fl_X6_29 dX6_readLight_106 ?_
      refine g_if_ne K1 121 dX6_readLight_109 rfl (fun hc => ?_) (fun hc => ?_)
      · replace h := h.2 hc
        obtain ⟨hr, hI, hL⟩ := h
        subst hr hI hL
        exact g_vreturn K rfl dX6_readLight_121
      · replace h := h.1 hc
        refine g_aload_n K1 0 dX6_readLight_112 rfl ?_
        refine h_getO K1 q_clX6 2 3 lyp_2 fkX6_2 rfl fl_X6_12 dX6_readLight_113 ?_
        refine g_iload_n K1 1 dX6_readLight_116 rfl ?_
        refine g_iload_n K1 2 dX6_readLight_117 rfl ?_
        obtain ⟨I3, hct, h⟩ := h
        refine h_callV K1 (st := []) [.int x1, .int x2] (hct w (gl g)) q_clX5 lyp_3 rfl ok_X5_addLight ml_X6_154 ⟨Nat.le_of_ble_eq_true rfl, Nat.le_of_ble_eq_true rfl⟩ (Nat.le_of_ble_eq_true rfl) dX6_readLight_118 ?_
        show q_Gs w g 121 [(0, .ref 2), (1, .int x1), (2, .int x2)] [] (q_mm I3 L)
        obtain ⟨hr, hI, hL⟩ := h
        subst hr hI hL
        exact g_vreturn K rfl dX6_readLight_121
    · replace h := h.2 hc
      refine g_aload_n K1 0 dX6_readLight_89 rfl ?_
      refine h_getI K1 q_clX6 8 lyp_2 fkX6_8 fl_X6_116 dX6_readLight_90 ?_
      refine g_iconst K1 4 dX6_readLight_93 rfl ?_
      refine g_icmp_le K1 101 dX6_readLight_94 rfl (fun hc => ?_) (fun hc => ?_)
      · replace h := h.1 hc
        refine g_iconst K1 3 dX6_readLight_101 rfl ?_
        obtain ⟨I4, hct, h⟩ := h
        refine h_callV K1 (st := []) [.int 3] (hct w (gl g)) q_clX6 lyp_2 rfl ok_X6_fail ml_X6_77 ⟨Nat.le_of_ble_eq_true rfl, Nat.le_of_ble_eq_true rfl⟩ (Nat.le_of_ble_eq_true rfl) dX6_readLight_102 ?_
        show q_Gs w g 105 [(0, .ref 2), (1, .int x1), (2, .int x2)] [] (q_mm I4 L)
        refine g_aload_n K1 0 dX6_readLight_105 rfl ?_
        refine h_getI K1 q_clX6 0 lyp_2 fkX6_0 fl_X6_29 dX6_readLight_106 ?_
        refine g_if_ne K1 121 dX6_readLight_109 rfl (fun hc => ?_) (fun hc => ?_)
        · replace h := h.2 hc
          obtain ⟨hr, hI, hL⟩ := h
          subst hr hI hL
          exact g_vreturn K rfl dX6_readLight_121
        · replace h := h.1 hc
          refine g_aload_n K1 0 dX6_readLight_112 rfl ?_
          refine h_getO K1 q_clX6 2 3 lyp_2 fkX6_2 rfl fl_X6_12 dX6_readLight_113 ?_
          refine g_iload_n K1 1 dX6_readLight_116 rfl ?_
          refine g_iload_n K1 2 dX6_readLight_117 rfl ?_
          obtain ⟨I5, hct, h⟩ := h
          refine h_callV K1 (st := []) [.int x1, .int x2] (hct w (gl g)) q_clX5 lyp_3 rfl ok_X5_addLight ml_X6_154 ⟨Nat.le_of_ble_eq_true rfl, Nat.le_of_ble_eq_true rfl⟩ (Nat.le_of_ble_eq_true rfl) dX6_readLight_118 ?_
          show q_Gs w g 121 [(0, .ref 2), (1, .int x1), (2, .int x2)] [] (q_mm I5 L)
          obtain ⟨hr, hI, hL⟩ := h
          subst hr hI hL
          exact g_vreturn K rfl dX6_readLight_121
      · replace h := h.2 hc
        refine g_iconst K1 2 dX6_readLight_97 rfl ?_
        refine g_goto K1 102 dX6_readLight_98 rfl ?_
        obtain ⟨I6, hct, h⟩ := h
        refine h_callV K1 (st := []) [.int 2] (hct w (gl g)) q_clX6 lyp_2 rfl ok_X6_fail ml_X6_77 ⟨Nat.le_of_ble_eq_true rfl, Nat.le_of_ble_eq_true rfl⟩ (Nat.le_of_ble_eq_true rfl) dX6_readLight_102 ?_
        show q_Gs w g 105 [(0, .ref 2), (1, .int x1), (2, .int x2)] [] (q_mm I6 L)
        refine g_aload_n K1 0 dX6_readLight_105 rfl ?_
        refine h_getI K1 q_clX6 0 lyp_2 fkX6_0 fl_X6_29 dX6_readLight_106 ?_
        refine g_if_ne K1 121 dX6_readLight_109 rfl (fun hc => ?_) (fun hc => ?_)
        · replace h := h.2 hc
          obtain ⟨hr, hI, hL⟩ := h
          subst hr hI hL
          exact g_vreturn K rfl dX6_readLight_121
        · replace h := h.1 hc
          refine g_aload_n K1 0 dX6_readLight_112 rfl ?_
          refine h_getO K1 q_clX6 2 3 lyp_2 fkX6_2 rfl fl_X6_12 dX6_readLight_113 ?_
          refine g_iload_n K1 1 dX6_readLight_116 rfl ?_
          refine g_iload_n K1 2 dX6_readLight_117 rfl ?_
          obtain ⟨I7, hct, h⟩ := h
          refine h_callV K1 (st := []) [.int x1, .int x2] (hct w (gl g)) q_clX5 lyp_3 rfl ok_X5_addLight ml_X6_154 ⟨Nat.le_of_ble_eq_true rfl, Nat.le_of_ble_eq_true rfl⟩ (Nat.le_of_ble_eq_true rfl) dX6_readLight_118 ?_
          show q_Gs w g 121 [(0, .ref 2), (1, .int x1), (2, .int x2)] [] (q_mm I7 L)
          obtain ⟨hr, hI, hL⟩ := h
          subst hr hI hL
          exact g_vreturn K rfl dX6_readLight_121
theorem c0_X6_readLight {r : Option Value} {I I' : Nat → Nat → Int32} {L L' : Nat → Nat → Int64}  (h : v_X6_readLight_0 r I' L' I L ) : q_C kX6_readLight [.ref 2] I L r I' L' := fun w l => q_ct (by decide) (Nat.le_of_ble_eq_true rfl) (Nat.le_refl _) (fun g _ K => h w g K)
abbrev v_X6_readLine_0 (r : Option Value) (I' : Nat → Nat → Int32) (L' : Nat → Nat → Int64) (I : Nat → Nat → Int32) (L : Nat → Nat → Int64)  : Prop := q_W kX6_readLine 0 [(0, .ref 2)] [] I L r I' L'
abbrev v_X6_readLine_86 (r : Option Value) (I' : Nat → Nat → Int32) (L' : Nat → Nat → Int64) (I : Nat → Nat → Int32) (L : Nat → Nat → Int64)  : Prop := q_W kX6_readLine 86 [(0, .ref 2)] [] I L r I' L'
set_option maxRecDepth 20000 in
set_option maxHeartbeats 2000000 in
theorem vc_X6_readLine_0 {r : Option Value} {I' : Nat → Nat → Int32} {L' : Nat → Nat → Int64} {I : Nat → Nat → Int32} {L : Nat → Nat → Int64}  (h : (((I 3 0) = 0 → (∃ I10, q_C kX6_readNight [.ref 2] I L none I10 L ∧ (v_X6_readLine_86 r I' L' I10 L))) ∧ (¬ (I 3 0) = 0 → (∃ r1, q_C kX6_isWord [.ref 2, .ref 10005] I L (some (.int r1)) I L ∧ ((r1 = 0 → (∃ r2, q_C kX6_isWord [.ref 2, .ref 10011] I L (some (.int r2)) I L ∧ ((r2 = 0 → (∃ r3, q_C kX6_isWord [.ref 2, .ref 10012] I L (some (.int r3)) I L ∧ ((r3 = 0 → (∃ r4, q_C kX6_isWord [.ref 2, .ref 10013] I L (some (.int r4)) I L ∧ ((r4 = 0 → (∃ I5, q_C kX6_fail [.ref 2, .int 1] I L none I5 L ∧ (v_X6_readLine_86 r I' L' I5 L))) ∧ (¬ r4 = 0 → (∃ I6, q_C kX6_readDraught [.ref 2] I L none I6 L ∧ (v_X6_readLine_86 r I' L' I6 L)))))) ∧ (¬ r3 = 0 → (∃ I7, q_C kX6_readLight [.ref 2] I L none I7 L ∧ (v_X6_readLine_86 r I' L' I7 L)))))) ∧ (¬ r2 = 0 → (∃ I8, q_C kX6_readAisle [.ref 2] I L none I8 L ∧ (v_X6_readLine_86 r I' L' I8 L)))))) ∧ (¬ r1 = 0 → (∃ I9, q_C kX6_readPew [.ref 2] I L none I9 L ∧ (v_X6_readLine_86 r I' L' I9 L)))))))) : v_X6_readLine_0 r I' L' I L  := by
  intro w g K
  have K1 := K.1
  refine g_aload_n K1 0 dX6_readLine_0 rfl ?_
  refine h_getO K1 q_clX6 2 3 lyp_2 fkX6_2 rfl fl_X6_12 dX6_readLine_1 ?_
  refine h_getI K1 q_clX5 0 lyp_3 fkX5_0 fl_X6_47 dX6_readLine_4 ?_
  refine g_if_ne K1 17 dX6_readLine_7 rfl (fun hc => ?_) (fun hc => ?_)
  · replace h := h.2 hc
    refine g_aload_n K1 0 dX6_readLine_17 rfl ?_
    refine g_ldcS K1 4 (q := _) rfl rfl rfl dX6_readLine_18 ?_
    obtain ⟨r1, hct, h⟩ := h
    refine h_callV K1 (st := []) [.ref 10005] (hct w (gl g)) q_clX6 lyp_2 rfl ok_X6_isWord ml_X6_55 ⟨Nat.le_of_ble_eq_true rfl, Nat.le_of_ble_eq_true rfl⟩ (Nat.le_of_ble_eq_true rfl) dX6_readLine_20 ?_
    show q_Gs w g 23 [(0, .ref 2)] [.int r1] (q_mm I L)
    refine g_if_eq K1 33 dX6_readLine_23 rfl (fun hc => ?_) (fun hc => ?_)
    · replace h := h.1 hc
      refine g_aload_n K1 0 dX6_readLine_33 rfl ?_
      refine g_ldcS K1 10 (q := _) rfl rfl rfl dX6_readLine_34 ?_
      obtain ⟨r2, hct, h⟩ := h
      refine h_callV K1 (st := []) [.ref 10011] (hct w (gl g)) q_clX6 lyp_2 rfl ok_X6_isWord ml_X6_55 ⟨Nat.le_of_ble_eq_true rfl, Nat.le_of_ble_eq_true rfl⟩ (Nat.le_of_ble_eq_true rfl) dX6_readLine_36 ?_
      show q_Gs w g 39 [(0, .ref 2)] [.int r2] (q_mm I L)
      refine g_if_eq K1 49 dX6_readLine_39 rfl (fun hc => ?_) (fun hc => ?_)
      · replace h := h.1 hc
        refine g_aload_n K1 0 dX6_readLine_49 rfl ?_
        refine g_ldcS K1 11 (q := _) rfl rfl rfl dX6_readLine_50 ?_
        obtain ⟨r3, hct, h⟩ := h
        refine h_callV K1 (st := []) [.ref 10012] (hct w (gl g)) q_clX6 lyp_2 rfl ok_X6_isWord ml_X6_55 ⟨Nat.le_of_ble_eq_true rfl, Nat.le_of_ble_eq_true rfl⟩ (Nat.le_of_ble_eq_true rfl) dX6_readLine_52 ?_
        show q_Gs w g 55 [(0, .ref 2)] [.int r3] (q_mm I L)
        refine g_if_eq K1 65 dX6_readLine_55 rfl (fun hc => ?_) (fun hc => ?_)
        · replace h := h.1 hc
          refine g_aload_n K1 0 dX6_readLine_65 rfl ?_
          refine g_ldcS K1 12 (q := _) rfl rfl rfl dX6_readLine_66 ?_
          obtain ⟨r4, hct, h⟩ := h
          refine h_callV K1 (st := []) [.ref 10013] (hct w (gl g)) q_clX6 lyp_2 rfl ok_X6_isWord ml_X6_55 ⟨Nat.le_of_ble_eq_true rfl, Nat.le_of_ble_eq_true rfl⟩ (Nat.le_of_ble_eq_true rfl) dX6_readLine_68 ?_
          show q_Gs w g 71 [(0, .ref 2)] [.int r4] (q_mm I L)
          refine g_if_eq K1 81 dX6_readLine_71 rfl (fun hc => ?_) (fun hc => ?_)
          · replace h := h.1 hc
            refine g_aload_n K1 0 dX6_readLine_81 rfl ?_
            refine g_iconst K1 1 dX6_readLine_82 rfl ?_
            obtain ⟨I5, hct, h⟩ := h
            refine h_callV K1 (st := []) [.int 1] (hct w (gl g)) q_clX6 lyp_2 rfl ok_X6_fail ml_X6_77 ⟨Nat.le_of_ble_eq_true rfl, Nat.le_of_ble_eq_true rfl⟩ (Nat.le_of_ble_eq_true rfl) dX6_readLine_83 ?_
            show q_Gs w g 86 [(0, .ref 2)] [] (q_mm I5 L)
            exact g_perm [0] rfl (h w g K)
          · replace h := h.2 hc
            refine g_aload_n K1 0 dX6_readLine_74 rfl ?_
            obtain ⟨I6, hct, h⟩ := h
            refine h_callV K1 (st := []) [] (hct w (gl g)) q_clX6 lyp_2 rfl ok_X6_readDraught ml_X6_74 ⟨Nat.le_of_ble_eq_true rfl, Nat.le_of_ble_eq_true rfl⟩ (Nat.le_of_ble_eq_true rfl) dX6_readLine_75 ?_
            show q_Gs w g 78 [(0, .ref 2)] [] (q_mm I6 L)
            refine g_goto K1 86 dX6_readLine_78 rfl ?_
            exact g_perm [0] rfl (h w g K)
        · replace h := h.2 hc
          refine g_aload_n K1 0 dX6_readLine_58 rfl ?_
          obtain ⟨I7, hct, h⟩ := h
          refine h_callV K1 (st := []) [] (hct w (gl g)) q_clX6 lyp_2 rfl ok_X6_readLight ml_X6_69 ⟨Nat.le_of_ble_eq_true rfl, Nat.le_of_ble_eq_true rfl⟩ (Nat.le_of_ble_eq_true rfl) dX6_readLine_59 ?_
          show q_Gs w g 62 [(0, .ref 2)] [] (q_mm I7 L)
          refine g_goto K1 86 dX6_readLine_62 rfl ?_
          exact g_perm [0] rfl (h w g K)
      · replace h := h.2 hc
        refine g_aload_n K1 0 dX6_readLine_42 rfl ?_
        obtain ⟨I8, hct, h⟩ := h
        refine h_callV K1 (st := []) [] (hct w (gl g)) q_clX6 lyp_2 rfl ok_X6_readAisle ml_X6_64 ⟨Nat.le_of_ble_eq_true rfl, Nat.le_of_ble_eq_true rfl⟩ (Nat.le_of_ble_eq_true rfl) dX6_readLine_43 ?_
        show q_Gs w g 46 [(0, .ref 2)] [] (q_mm I8 L)
        refine g_goto K1 86 dX6_readLine_46 rfl ?_
        exact g_perm [0] rfl (h w g K)
    · replace h := h.2 hc
      refine g_aload_n K1 0 dX6_readLine_26 rfl ?_
      obtain ⟨I9, hct, h⟩ := h
      refine h_callV K1 (st := []) [] (hct w (gl g)) q_clX6 lyp_2 rfl ok_X6_readPew ml_X6_59 ⟨Nat.le_of_ble_eq_true rfl, Nat.le_of_ble_eq_true rfl⟩ (Nat.le_of_ble_eq_true rfl) dX6_readLine_27 ?_
      show q_Gs w g 30 [(0, .ref 2)] [] (q_mm I9 L)
      refine g_goto K1 86 dX6_readLine_30 rfl ?_
      exact g_perm [0] rfl (h w g K)
  · replace h := h.1 hc
    refine g_aload_n K1 0 dX6_readLine_10 rfl ?_
    obtain ⟨I10, hct, h⟩ := h
    refine h_callV K1 (st := []) [] (hct w (gl g)) q_clX6 lyp_2 rfl ok_X6_readNight ml_X6_50 ⟨Nat.le_of_ble_eq_true rfl, Nat.le_of_ble_eq_true rfl⟩ (Nat.le_of_ble_eq_true rfl) dX6_readLine_11 ?_
    show q_Gs w g 14 [(0, .ref 2)] [] (q_mm I10 L)
    refine g_goto K1 86 dX6_readLine_14 rfl ?_
    exact g_perm [0] rfl (h w g K)
set_option maxRecDepth 20000 in
set_option maxHeartbeats 2000000 in
theorem vc_X6_readLine_86 {r : Option Value} {I' : Nat → Nat → Int32} {L' : Nat → Nat → Int64} {I : Nat → Nat → Int32} {L : Nat → Nat → Int64}  (h : (((I 2 7) = 3 → (∃ I1, q_C kX6_advance [.ref 2] (up2 I 3 0 ((I 3 0) + 1)) L none I1 L ∧ (r = none ∧ I' = I1 ∧ L' = L))) ∧ (¬ (I 2 7) = 3 → (∃ I2, q_C kX6_fail [.ref 2, .int 1] I L none I2 L ∧ (∃ I3, q_C kX6_advance [.ref 2] (up2 I2 3 0 ((I2 3 0) + 1)) L none I3 L ∧ (r = none ∧ I' = I3 ∧ L' = L)))))) : v_X6_readLine_86 r I' L' I L  := by
  intro w g K
  have K1 := K.1
  refine g_aload_n K1 0 dX6_readLine_86 rfl ?_
  refine h_getI K1 q_clX6 7 lyp_2 fkX6_7 fl_X6_41 dX6_readLine_87 ?_
  refine g_iconst K1 3 dX6_readLine_90 rfl ?_
  refine g_icmp_eq K1 99 dX6_readLine_91 rfl (fun hc => ?_) (fun hc => ?_)
  · replace h := h.1 hc
    refine g_aload_n K1 0 dX6_readLine_99 rfl ?_
    refine h_getO K1 q_clX6 2 3 lyp_2 fkX6_2 rfl fl_X6_12 dX6_readLine_100 ?_
    refine g_dup K1 dX6_readLine_103 rfl ?_
    refine h_getI K1 q_clX5 0 lyp_3 fkX5_0 fl_X6_47 dX6_readLine_104 ?_
    refine g_iconst K1 1 dX6_readLine_107 rfl ?_
    refine g_iadd K1 dX6_readLine_108 ?_
    refine h_putI K1 q_clX5 0 lyp_3 fkX5_0 fl_X6_47 rfl rfl rfl dX6_readLine_109 ?_
    refine g_aload_n K1 0 dX6_readLine_112 rfl ?_
    obtain ⟨I1, hct, h⟩ := h
    refine h_callV K1 (st := []) [] (hct w (gl g)) q_clX6 lyp_2 rfl ok_X6_advance ml_X6_38 ⟨Nat.le_of_ble_eq_true rfl, Nat.le_of_ble_eq_true rfl⟩ (Nat.le_of_ble_eq_true rfl) dX6_readLine_113 ?_
    show q_Gs w g 116 [(0, .ref 2)] [] (q_mm I1 L)
    obtain ⟨hr, hI, hL⟩ := h
    subst hr hI hL
    exact g_vreturn K rfl dX6_readLine_116
  · replace h := h.2 hc
    refine g_aload_n K1 0 dX6_readLine_94 rfl ?_
    refine g_iconst K1 1 dX6_readLine_95 rfl ?_
    obtain ⟨I2, hct, h⟩ := h
    refine h_callV K1 (st := []) [.int 1] (hct w (gl g)) q_clX6 lyp_2 rfl ok_X6_fail ml_X6_77 ⟨Nat.le_of_ble_eq_true rfl, Nat.le_of_ble_eq_true rfl⟩ (Nat.le_of_ble_eq_true rfl) dX6_readLine_96 ?_
    show q_Gs w g 99 [(0, .ref 2)] [] (q_mm I2 L)
    refine g_aload_n K1 0 dX6_readLine_99 rfl ?_
    refine h_getO K1 q_clX6 2 3 lyp_2 fkX6_2 rfl fl_X6_12 dX6_readLine_100 ?_
    refine g_dup K1 dX6_readLine_103 rfl ?_
    refine h_getI K1 q_clX5 0 lyp_3 fkX5_0 fl_X6_47 dX6_readLine_104 ?_
    refine g_iconst K1 1 dX6_readLine_107 rfl ?_
    refine g_iadd K1 dX6_readLine_108 ?_
    refine h_putI K1 q_clX5 0 lyp_3 fkX5_0 fl_X6_47 rfl rfl rfl dX6_readLine_109 ?_
    refine g_aload_n K1 0 dX6_readLine_112 rfl ?_
    obtain ⟨I3, hct, h⟩ := h
    refine h_callV K1 (st := []) [] (hct w (gl g)) q_clX6 lyp_2 rfl ok_X6_advance ml_X6_38 ⟨Nat.le_of_ble_eq_true rfl, Nat.le_of_ble_eq_true rfl⟩ (Nat.le_of_ble_eq_true rfl) dX6_readLine_113 ?_
    show q_Gs w g 116 [(0, .ref 2)] [] (q_mm I3 L)
    obtain ⟨hr, hI, hL⟩ := h
    subst hr hI hL
    exact g_vreturn K rfl dX6_readLine_116
theorem c0_X6_readLine {r : Option Value} {I I' : Nat → Nat → Int32} {L L' : Nat → Nat → Int64}  (h : v_X6_readLine_0 r I' L' I L ) : q_C kX6_readLine [.ref 2] I L r I' L' := fun w l => q_ct (by decide) (Nat.le_of_ble_eq_true rfl) (Nat.le_refl _) (fun g _ K => h w g K)
abbrev v_X6_readNight_0 (r : Option Value) (I' : Nat → Nat → Int32) (L' : Nat → Nat → Int64) (I : Nat → Nat → Int32) (L : Nat → Nat → Int64)  : Prop := q_W kX6_readNight 0 [(0, .ref 2)] [] I L r I' L'
set_option maxRecDepth 20000 in
set_option maxHeartbeats 2000000 in
theorem vc_X6_readNight_0 {r : Option Value} {I' : Nat → Nat → Int32} {L' : Nat → Nat → Int64} {I : Nat → Nat → Int32} {L : Nat → Nat → Int64}  (h : (∃ I1, q_C kX6_needWord [.ref 2, .ref 10001] I L none I1 L ∧ (∃ I2, q_C kX6_needWord [.ref 2, .ref 10002] I1 L none I2 L ∧ (∃ r3 I4, q_C kX6_needNumber [.ref 2, .int 1, .int 12] I2 L (some (.int r3)) I4 L ∧ (∃ I5, q_C kX6_needWord [.ref 2, .ref 10003] (up2 I4 3 1 r3) L none I5 L ∧ (∃ r6 I7, q_C kX6_needNumber [.ref 2, .int 0, .int 3] I5 L (some (.int r6)) I7 L ∧ (∃ I8, q_C kX6_needWord [.ref 2, .ref 10004] (up2 I7 3 2 r6) L none I8 L ∧ (∃ r9 I10, q_C kX6_needNumber [.ref 2, .int 0, .int 10] I8 L (some (.int r9)) I10 L ∧ (r = none ∧ I' = (up2 I10 3 3 r9) ∧ L' = L))))))))) : v_X6_readNight_0 r I' L' I L  := by
  intro w g K
  have K1 := K.1
  refine g_aload_n K1 0 dX6_readNight_0 rfl ?_
  refine g_ldcS K1 0 (q := _) rfl rfl rfl dX6_readNight_1 ?_
  obtain ⟨I1, hct, h⟩ := h
  refine h_callV K1 (st := []) [.ref 10001] (hct w (gl g)) q_clX6 lyp_2 rfl ok_X6_needWord ml_X6_83 ⟨Nat.le_of_ble_eq_true rfl, Nat.le_of_ble_eq_true rfl⟩ (Nat.le_of_ble_eq_true rfl) dX6_readNight_3 ?_
  show q_Gs w g 6 [(0, .ref 2)] [] (q_mm I1 L)
  refine g_aload_n K1 0 dX6_readNight_6 rfl ?_
  refine g_ldcS K1 1 (q := _) rfl rfl rfl dX6_readNight_7 ?_
  obtain ⟨I2, hct, h⟩ := h
  refine h_callV K1 (st := []) [.ref 10002] (hct w (gl g)) q_clX6 lyp_2 rfl ok_X6_needWord ml_X6_83 ⟨Nat.le_of_ble_eq_true rfl, Nat.le_of_ble_eq_true rfl⟩ (Nat.le_of_ble_eq_true rfl) dX6_readNight_9 ?_
  show q_Gs w g 12 [(0, .ref 2)] [] (q_mm I2 L)
  refine g_aload_n K1 0 dX6_readNight_12 rfl ?_
  refine h_getO K1 q_clX6 2 3 lyp_2 fkX6_2 rfl fl_X6_12 dX6_readNight_13 ?_
  refine g_aload_n K1 0 dX6_readNight_16 rfl ?_
  refine g_iconst K1 1 dX6_readNight_17 rfl ?_
  refine g_bipush K1 12 dX6_readNight_18 rfl ?_
  obtain ⟨r3, I4, hct, h⟩ := h
  refine h_callV K1 (st := [.ref 3]) [.int 1, .int 12] (hct w (gl g)) q_clX6 lyp_2 rfl ok_X6_needNumber ml_X6_89 ⟨Nat.le_of_ble_eq_true rfl, Nat.le_of_ble_eq_true rfl⟩ (Nat.le_of_ble_eq_true rfl) dX6_readNight_20 ?_
  show q_Gs w g 23 [(0, .ref 2)] [.int r3, .ref 3] (q_mm I4 L)
  refine h_putI K1 q_clX5 1 lyp_3 fkX5_1 fl_X6_93 rfl rfl rfl dX6_readNight_23 ?_
  refine g_aload_n K1 0 dX6_readNight_26 rfl ?_
  refine g_ldcS K1 2 (q := _) rfl rfl rfl dX6_readNight_27 ?_
  obtain ⟨I5, hct, h⟩ := h
  refine h_callV K1 (st := []) [.ref 10003] (hct w (gl g)) q_clX6 lyp_2 rfl ok_X6_needWord ml_X6_83 ⟨Nat.le_of_ble_eq_true rfl, Nat.le_of_ble_eq_true rfl⟩ (Nat.le_of_ble_eq_true rfl) dX6_readNight_29 ?_
  show q_Gs w g 32 [(0, .ref 2)] [] (q_mm I5 L)
  refine g_aload_n K1 0 dX6_readNight_32 rfl ?_
  refine h_getO K1 q_clX6 2 3 lyp_2 fkX6_2 rfl fl_X6_12 dX6_readNight_33 ?_
  refine g_aload_n K1 0 dX6_readNight_36 rfl ?_
  refine g_iconst K1 0 dX6_readNight_37 rfl ?_
  refine g_iconst K1 3 dX6_readNight_38 rfl ?_
  obtain ⟨r6, I7, hct, h⟩ := h
  refine h_callV K1 (st := [.ref 3]) [.int 0, .int 3] (hct w (gl g)) q_clX6 lyp_2 rfl ok_X6_needNumber ml_X6_89 ⟨Nat.le_of_ble_eq_true rfl, Nat.le_of_ble_eq_true rfl⟩ (Nat.le_of_ble_eq_true rfl) dX6_readNight_39 ?_
  show q_Gs w g 42 [(0, .ref 2)] [.int r6, .ref 3] (q_mm I7 L)
  refine h_putI K1 q_clX5 2 lyp_3 fkX5_2 fl_X6_97 rfl rfl rfl dX6_readNight_42 ?_
  refine g_aload_n K1 0 dX6_readNight_45 rfl ?_
  refine g_ldcS K1 3 (q := _) rfl rfl rfl dX6_readNight_46 ?_
  obtain ⟨I8, hct, h⟩ := h
  refine h_callV K1 (st := []) [.ref 10004] (hct w (gl g)) q_clX6 lyp_2 rfl ok_X6_needWord ml_X6_83 ⟨Nat.le_of_ble_eq_true rfl, Nat.le_of_ble_eq_true rfl⟩ (Nat.le_of_ble_eq_true rfl) dX6_readNight_48 ?_
  show q_Gs w g 51 [(0, .ref 2)] [] (q_mm I8 L)
  refine g_aload_n K1 0 dX6_readNight_51 rfl ?_
  refine h_getO K1 q_clX6 2 3 lyp_2 fkX6_2 rfl fl_X6_12 dX6_readNight_52 ?_
  refine g_aload_n K1 0 dX6_readNight_55 rfl ?_
  refine g_iconst K1 0 dX6_readNight_56 rfl ?_
  refine g_bipush K1 10 dX6_readNight_57 rfl ?_
  obtain ⟨r9, I10, hct, h⟩ := h
  refine h_callV K1 (st := [.ref 3]) [.int 0, .int 10] (hct w (gl g)) q_clX6 lyp_2 rfl ok_X6_needNumber ml_X6_89 ⟨Nat.le_of_ble_eq_true rfl, Nat.le_of_ble_eq_true rfl⟩ (Nat.le_of_ble_eq_true rfl) dX6_readNight_59 ?_
  show q_Gs w g 62 [(0, .ref 2)] [.int r9, .ref 3] (q_mm I10 L)
  refine h_putI K1 q_clX5 3 lyp_3 fkX5_3 fl_X6_101 rfl rfl rfl dX6_readNight_62 ?_
  obtain ⟨hr, hI, hL⟩ := h
  subst hr hI hL
  exact g_vreturn K rfl dX6_readNight_65
theorem c0_X6_readNight {r : Option Value} {I I' : Nat → Nat → Int32} {L L' : Nat → Nat → Int64}  (h : v_X6_readNight_0 r I' L' I L ) : q_C kX6_readNight [.ref 2] I L r I' L' := fun w l => q_ct (by decide) (Nat.le_of_ble_eq_true rfl) (Nat.le_refl _) (fun g _ K => h w g K)
abbrev v_X6_readPew_0 (r : Option Value) (I' : Nat → Nat → Int32) (L' : Nat → Nat → Int64) (I : Nat → Nat → Int32) (L : Nat → Nat → Int64)  : Prop := q_W kX6_readPew 0 [(0, .ref 2)] [] I L r I' L'
abbrev v_X6_readPew_47 (r : Option Value) (I' : Nat → Nat → Int32) (L' : Nat → Nat → Int64) (I : Nat → Nat → Int32) (L : Nat → Nat → Int64) (x1 : Int32) (x2 : Int32) (x3 : Int32) : Prop := q_W kX6_readPew 47 [(0, .ref 2), (1, .int x1), (2, .int x2), (3, .int x3)] [] I L r I' L'
abbrev v_X6_readPew_73 (r : Option Value) (I' : Nat → Nat → Int32) (L' : Nat → Nat → Int64) (I : Nat → Nat → Int32) (L : Nat → Nat → Int64) (x1 : Int32) (x3 : Int32) : Prop := q_W kX6_readPew 73 [(0, .ref 2), (1, .int x1), (3, .int x3)] [] I L r I' L'
set_option maxRecDepth 20000 in
set_option maxHeartbeats 2000000 in
theorem vc_X6_readPew_0 {r : Option Value} {I' : Nat → Nat → Int32} {L' : Nat → Nat → Int64} {I : Nat → Nat → Int32} {L : Nat → Nat → Int64}  (h : (∃ I1, q_C kX6_refuseMoreThan [.ref 2, .int 7, .int (I 3 4)] I L none I1 L ∧ (∃ I2, q_C kX6_advance [.ref 2] I1 L none I2 L ∧ (∃ r3 I4, q_C kX6_ruleWord [.ref 2] I2 L (some (.int r3)) I4 L ∧ (∃ I5, q_C kX6_advance [.ref 2] I4 L none I5 L ∧ ((r3 = 3 → (∃ r6 I7, q_C kX6_needNumber [.ref 2, .int 1, .int 4] I5 L (some (.int r6)) I7 L ∧ (v_X6_readPew_47 r I' L' I7 L r6 0 r3))) ∧ (¬ r3 = 3 → ((r3 = 4 → (∃ r8 I9, q_C kX6_needNumber [.ref 2, .int 1, .int 4] I5 L (some (.int r8)) I9 L ∧ (v_X6_readPew_47 r I' L' I9 L r8 0 r3))) ∧ (¬ r3 = 4 → (v_X6_readPew_47 r I' L' I5 L 0 0 r3)))))))))) : v_X6_readPew_0 r I' L' I L  := by
  intro w g K
  have K1 := K.1
  refine g_aload_n K1 0 dX6_readPew_0 rfl ?_
  refine g_bipush K1 7 dX6_readPew_1 rfl ?_
  refine g_aload_n K1 0 dX6_readPew_3 rfl ?_
  refine h_getO K1 q_clX6 2 3 lyp_2 fkX6_2 rfl fl_X6_12 dX6_readPew_4 ?_
  refine h_getI K1 q_clX5 4 lyp_3 fkX5_4 fl_X6_103 dX6_readPew_7 ?_
  obtain ⟨I1, hct, h⟩ := h
  refine h_callV K1 (st := []) [.int 7, .int (I 3 4)] (hct w (gl g)) q_clX6 lyp_2 rfl ok_X6_refuseMoreThan ml_X6_106 ⟨Nat.le_of_ble_eq_true rfl, Nat.le_of_ble_eq_true rfl⟩ (Nat.le_of_ble_eq_true rfl) dX6_readPew_10 ?_
  show q_Gs w g 13 [(0, .ref 2)] [] (q_mm I1 L)
  refine g_aload_n K1 0 dX6_readPew_13 rfl ?_
  obtain ⟨I2, hct, h⟩ := h
  refine h_callV K1 (st := []) [] (hct w (gl g)) q_clX6 lyp_2 rfl ok_X6_advance ml_X6_38 ⟨Nat.le_of_ble_eq_true rfl, Nat.le_of_ble_eq_true rfl⟩ (Nat.le_of_ble_eq_true rfl) dX6_readPew_14 ?_
  show q_Gs w g 17 [(0, .ref 2)] [] (q_mm I2 L)
  refine g_iconst K1 0 dX6_readPew_17 rfl ?_
  refine g_istore_n K1 dX6_readPew_18 rfl (by decide) rfl ?_
  refine g_iconst K1 0 dX6_readPew_19 rfl ?_
  refine g_istore_n K1 dX6_readPew_20 rfl (by decide) rfl ?_
  refine g_aload_n K1 2 dX6_readPew_21 rfl ?_
  obtain ⟨r3, I4, hct, h⟩ := h
  refine h_callV K1 (st := []) [] (hct w (gl g)) q_clX6 lyp_2 rfl ok_X6_ruleWord ml_X6_110 ⟨Nat.le_of_ble_eq_true rfl, Nat.le_of_ble_eq_true rfl⟩ (Nat.le_of_ble_eq_true rfl) dX6_readPew_22 ?_
  show q_Gs w g 25 [(2, .int 0), (1, .int 0), (0, .ref 2)] [.int r3] (q_mm I4 L)
  refine g_istore_n K1 dX6_readPew_25 rfl (by decide) rfl ?_
  refine g_aload_n K1 3 dX6_readPew_26 rfl ?_
  obtain ⟨I5, hct, h⟩ := h
  refine h_callV K1 (st := []) [] (hct w (gl g)) q_clX6 lyp_2 rfl ok_X6_advance ml_X6_38 ⟨Nat.le_of_ble_eq_true rfl, Nat.le_of_ble_eq_true rfl⟩ (Nat.le_of_ble_eq_true rfl) dX6_readPew_27 ?_
  show q_Gs w g 30 [(3, .int r3), (2, .int 0), (1, .int 0), (0, .ref 2)] [] (q_mm I5 L)
  refine g_iload_n K1 0 dX6_readPew_30 rfl ?_
  refine g_iconst K1 3 dX6_readPew_31 rfl ?_
  refine g_icmp_eq K1 40 dX6_readPew_32 rfl (fun hc => ?_) (fun hc => ?_)
  · replace h := h.1 hc
    refine g_aload_n K1 3 dX6_readPew_40 rfl ?_
    refine g_iconst K1 1 dX6_readPew_41 rfl ?_
    refine g_iconst K1 4 dX6_readPew_42 rfl ?_
    obtain ⟨r6, I7, hct, h⟩ := h
    refine h_callV K1 (st := []) [.int 1, .int 4] (hct w (gl g)) q_clX6 lyp_2 rfl ok_X6_needNumber ml_X6_89 ⟨Nat.le_of_ble_eq_true rfl, Nat.le_of_ble_eq_true rfl⟩ (Nat.le_of_ble_eq_true rfl) dX6_readPew_43 ?_
    show q_Gs w g 46 [(3, .int r3), (2, .int 0), (1, .int 0), (0, .ref 2)] [.int r6] (q_mm I7 L)
    refine g_istore_n K1 dX6_readPew_46 rfl (by decide) rfl ?_
    exact g_perm [3, 0, 2, 1] rfl (h w g K)
  · replace h := h.2 hc
    refine g_iload_n K1 0 dX6_readPew_35 rfl ?_
    refine g_iconst K1 4 dX6_readPew_36 rfl ?_
    refine g_icmp_ne K1 47 dX6_readPew_37 rfl (fun hc => ?_) (fun hc => ?_)
    · replace h := h.2 hc
      exact g_perm [3, 2, 1, 0] rfl (h w g K)
    · replace h := h.1 hc
      refine g_aload_n K1 3 dX6_readPew_40 rfl ?_
      refine g_iconst K1 1 dX6_readPew_41 rfl ?_
      refine g_iconst K1 4 dX6_readPew_42 rfl ?_
      obtain ⟨r8, I9, hct, h⟩ := h
      refine h_callV K1 (st := []) [.int 1, .int 4] (hct w (gl g)) q_clX6 lyp_2 rfl ok_X6_needNumber ml_X6_89 ⟨Nat.le_of_ble_eq_true rfl, Nat.le_of_ble_eq_true rfl⟩ (Nat.le_of_ble_eq_true rfl) dX6_readPew_43 ?_
      show q_Gs w g 46 [(3, .int r3), (2, .int 0), (1, .int 0), (0, .ref 2)] [.int r8] (q_mm I9 L)
      refine g_istore_n K1 dX6_readPew_46 rfl (by decide) rfl ?_
      exact g_perm [3, 0, 2, 1] rfl (h w g K)
set_option maxRecDepth 20000 in
set_option maxHeartbeats 2000000 in
theorem vc_X6_readPew_47 {r : Option Value} {I' : Nat → Nat → Int32} {L' : Nat → Nat → Int64} {I : Nat → Nat → Int32} {L : Nat → Nat → Int64} {x1 : Int32} {x2 : Int32} {x3 : Int32} (h : ((x3 = 4 → (((I 2 7) = 2 → (((I 2 8) = x1 → (∃ I2, q_C kX6_fail [.ref 2, .int 2] I L none I2 L ∧ (v_X6_readPew_73 r I' L' I2 L x1 x3))) ∧ (¬ (I 2 8) = x1 → (v_X6_readPew_73 r I' L' I L x1 x3)))) ∧ (¬ (I 2 7) = 2 → (v_X6_readPew_73 r I' L' I L x1 x3)))) ∧ (¬ x3 = 4 → (((I 2 0) = 0 → (∃ I1, q_C kX5_addPew [.ref 3, .int x3, .int x1, .int x2] I L none I1 L ∧ (r = none ∧ I' = I1 ∧ L' = L))) ∧ (¬ (I 2 0) = 0 → (r = none ∧ I' = I ∧ L' = L)))))) : v_X6_readPew_47 r I' L' I L x1 x2 x3 := by
  intro w g K
  have K1 := K.1
  refine g_iload_n K1 3 dX6_readPew_47 rfl ?_
  refine g_iconst K1 4 dX6_readPew_48 rfl ?_
  refine g_icmp_ne K1 80 dX6_readPew_49 rfl (fun hc => ?_) (fun hc => ?_)
  · replace h := h.2 hc
    refine g_aload_n K1 0 dX6_readPew_80 rfl ?_
    refine h_getI K1 q_clX6 0 lyp_2 fkX6_0 fl_X6_29 dX6_readPew_81 ?_
    refine g_if_ne K1 97 dX6_readPew_84 rfl (fun hc => ?_) (fun hc => ?_)
    · replace h := h.2 hc
      obtain ⟨hr, hI, hL⟩ := h
      subst hr hI hL
      exact g_vreturn K rfl dX6_readPew_97
    · replace h := h.1 hc
      refine g_aload_n K1 0 dX6_readPew_87 rfl ?_
      refine h_getO K1 q_clX6 2 3 lyp_2 fkX6_2 rfl fl_X6_12 dX6_readPew_88 ?_
      refine g_iload_n K1 3 dX6_readPew_91 rfl ?_
      refine g_iload_n K1 1 dX6_readPew_92 rfl ?_
      refine g_iload_n K1 2 dX6_readPew_93 rfl ?_
      obtain ⟨I1, hct, h⟩ := h
      refine h_callV K1 (st := []) [.int x3, .int x1, .int x2] (hct w (gl g)) q_clX5 lyp_3 rfl ok_X5_addPew ml_X6_119 ⟨Nat.le_of_ble_eq_true rfl, Nat.le_of_ble_eq_true rfl⟩ (Nat.le_of_ble_eq_true rfl) dX6_readPew_94 ?_
      show q_Gs w g 97 [(0, .ref 2), (1, .int x1), (2, .int x2), (3, .int x3)] [] (q_mm I1 L)
      obtain ⟨hr, hI, hL⟩ := h
      subst hr hI hL
      exact g_vreturn K rfl dX6_readPew_97
  · replace h := h.1 hc
    refine g_aload_n K1 0 dX6_readPew_52 rfl ?_
    refine h_getI K1 q_clX6 7 lyp_2 fkX6_7 fl_X6_41 dX6_readPew_53 ?_
    refine g_iconst K1 2 dX6_readPew_56 rfl ?_
    refine g_icmp_ne K1 73 dX6_readPew_57 rfl (fun hc => ?_) (fun hc => ?_)
    · replace h := h.2 hc
      exact g_perm [0, 1, 3] rfl (h w g K)
    · replace h := h.1 hc
      refine g_aload_n K1 0 dX6_readPew_60 rfl ?_
      refine h_getI K1 q_clX6 8 lyp_2 fkX6_8 fl_X6_116 dX6_readPew_61 ?_
      refine g_iload_n K1 1 dX6_readPew_64 rfl ?_
      refine g_icmp_ne K1 73 dX6_readPew_65 rfl (fun hc => ?_) (fun hc => ?_)
      · replace h := h.2 hc
        exact g_perm [0, 1, 3] rfl (h w g K)
      · replace h := h.1 hc
        refine g_aload_n K1 0 dX6_readPew_68 rfl ?_
        refine g_iconst K1 2 dX6_readPew_69 rfl ?_
        obtain ⟨I2, hct, h⟩ := h
        refine h_callV K1 (st := []) [.int 2] (hct w (gl g)) q_clX6 lyp_2 rfl ok_X6_fail ml_X6_77 ⟨Nat.le_of_ble_eq_true rfl, Nat.le_of_ble_eq_true rfl⟩ (Nat.le_of_ble_eq_true rfl) dX6_readPew_70 ?_
        show q_Gs w g 73 [(0, .ref 2), (1, .int x1), (2, .int x2), (3, .int x3)] [] (q_mm I2 L)
        exact g_perm [0, 1, 3] rfl (h w g K)
set_option maxRecDepth 20000 in
set_option maxHeartbeats 2000000 in
theorem vc_X6_readPew_73 {r : Option Value} {I' : Nat → Nat → Int32} {L' : Nat → Nat → Int64} {I : Nat → Nat → Int32} {L : Nat → Nat → Int64} {x1 : Int32} {x3 : Int32} (h : (∃ r1 I2, q_C kX6_needNumber [.ref 2, .int 1, .int 4] I L (some (.int r1)) I2 L ∧ (((I2 2 0) = 0 → (∃ I3, q_C kX5_addPew [.ref 3, .int x3, .int x1, .int r1] I2 L none I3 L ∧ (r = none ∧ I' = I3 ∧ L' = L))) ∧ (¬ (I2 2 0) = 0 → (r = none ∧ I' = I2 ∧ L' = L))))) : v_X6_readPew_73 r I' L' I L x1 x3 := by
  intro w g K
  have K1 := K.1
  refine g_aload_n K1 0 dX6_readPew_73 rfl ?_
  refine g_iconst K1 1 dX6_readPew_74 rfl ?_
  refine g_iconst K1 4 dX6_readPew_75 rfl ?_
  obtain ⟨r1, I2, hct, h⟩ := h
  refine h_callV K1 (st := []) [.int 1, .int 4] (hct w (gl g)) q_clX6 lyp_2 rfl ok_X6_needNumber ml_X6_89 ⟨Nat.le_of_ble_eq_true rfl, Nat.le_of_ble_eq_true rfl⟩ (Nat.le_of_ble_eq_true rfl) dX6_readPew_76 ?_
  show q_Gs w g 79 [(0, .ref 2), (1, .int x1), (3, .int x3)] [.int r1] (q_mm I2 L)
  refine g_istore_n K1 dX6_readPew_79 rfl (by decide) rfl ?_
  refine g_aload_n K1 1 dX6_readPew_80 rfl ?_
  refine h_getI K1 q_clX6 0 lyp_2 fkX6_0 fl_X6_29 dX6_readPew_81 ?_
  refine g_if_ne K1 97 dX6_readPew_84 rfl (fun hc => ?_) (fun hc => ?_)
  · replace h := h.2 hc
    obtain ⟨hr, hI, hL⟩ := h
    subst hr hI hL
    exact g_vreturn K rfl dX6_readPew_97
  · replace h := h.1 hc
    refine g_aload_n K1 1 dX6_readPew_87 rfl ?_
    refine h_getO K1 q_clX6 2 3 lyp_2 fkX6_2 rfl fl_X6_12 dX6_readPew_88 ?_
    refine g_iload_n K1 3 dX6_readPew_91 rfl ?_
    refine g_iload_n K1 2 dX6_readPew_92 rfl ?_
    refine g_iload_n K1 0 dX6_readPew_93 rfl ?_
    obtain ⟨I3, hct, h⟩ := h
    refine h_callV K1 (st := []) [.int x3, .int x1, .int r1] (hct w (gl g)) q_clX5 lyp_3 rfl ok_X5_addPew ml_X6_119 ⟨Nat.le_of_ble_eq_true rfl, Nat.le_of_ble_eq_true rfl⟩ (Nat.le_of_ble_eq_true rfl) dX6_readPew_94 ?_
    show q_Gs w g 97 [(2, .int r1), (0, .ref 2), (1, .int x1), (3, .int x3)] [] (q_mm I3 L)
    obtain ⟨hr, hI, hL⟩ := h
    subst hr hI hL
    exact g_vreturn K rfl dX6_readPew_97
theorem c0_X6_readPew {r : Option Value} {I I' : Nat → Nat → Int32} {L L' : Nat → Nat → Int64}  (h : v_X6_readPew_0 r I' L' I L ) : q_C kX6_readPew [.ref 2] I L r I' L' := fun w l => q_ct (by decide) (Nat.le_of_ble_eq_true rfl) (Nat.le_refl _) (fun g _ K => h w g K)
abbrev v_X6_refuseMoreThan_0 (r : Option Value) (I' : Nat → Nat → Int32) (L' : Nat → Nat → Int64) (I : Nat → Nat → Int32) (L : Nat → Nat → Int64) (x1 : Int32) (x2 : Int32) : Prop := q_W kX6_refuseMoreThan 0 [(0, .ref 2), (1, .int x1), (2, .int x2)] [] I L r I' L'
set_option maxRecDepth 20000 in
set_option maxHeartbeats 2000000 in
theorem vc_X6_refuseMoreThan_0 {r : Option Value} {I' : Nat → Nat → Int32} {L' : Nat → Nat → Int64} {I : Nat → Nat → Int32} {L : Nat → Nat → Int64} {x1 : Int32} {x2 : Int32} (h : ((x2 < x1 → (r = none ∧ I' = I ∧ L' = L)) ∧ (¬ x2 < x1 → (∃ I1, q_C kX6_fail [.ref 2, .int 3] I L none I1 L ∧ (r = none ∧ I' = I1 ∧ L' = L))))) : v_X6_refuseMoreThan_0 r I' L' I L x1 x2 := by
  intro w g K
  have K1 := K.1
  refine g_iload_n K1 2 dX6_refuseMoreThan_0 rfl ?_
  refine g_iload_n K1 1 dX6_refuseMoreThan_1 rfl ?_
  refine g_icmp_lt K1 10 dX6_refuseMoreThan_2 rfl (fun hc => ?_) (fun hc => ?_)
  · replace h := h.1 hc
    obtain ⟨hr, hI, hL⟩ := h
    subst hr hI hL
    exact g_vreturn K rfl dX6_refuseMoreThan_10
  · replace h := h.2 hc
    refine g_aload_n K1 0 dX6_refuseMoreThan_5 rfl ?_
    refine g_iconst K1 3 dX6_refuseMoreThan_6 rfl ?_
    obtain ⟨I1, hct, h⟩ := h
    refine h_callV K1 (st := []) [.int 3] (hct w (gl g)) q_clX6 lyp_2 rfl ok_X6_fail ml_X6_77 ⟨Nat.le_of_ble_eq_true rfl, Nat.le_of_ble_eq_true rfl⟩ (Nat.le_of_ble_eq_true rfl) dX6_refuseMoreThan_7 ?_
    show q_Gs w g 10 [(0, .ref 2), (1, .int x1), (2, .int x2)] [] (q_mm I1 L)
    obtain ⟨hr, hI, hL⟩ := h
    subst hr hI hL
    exact g_vreturn K rfl dX6_refuseMoreThan_10
theorem c0_X6_refuseMoreThan {r : Option Value} {I I' : Nat → Nat → Int32} {L L' : Nat → Nat → Int64} {x1 : Int32} {x2 : Int32} (h : v_X6_refuseMoreThan_0 r I' L' I L x1 x2) : q_C kX6_refuseMoreThan [.ref 2, .int x1, .int x2] I L r I' L' := fun w l => q_ct (by decide) (Nat.le_of_ble_eq_true rfl) (Nat.le_refl _) (fun g _ K => h w g K)
abbrev v_X6_ruleWord_0 (r : Option Value) (I' : Nat → Nat → Int32) (L' : Nat → Nat → Int64) (I : Nat → Nat → Int32) (L : Nat → Nat → Int64)  : Prop := q_W kX6_ruleWord 0 [(0, .ref 2)] [] I L r I' L'
set_option maxRecDepth 20000 in
set_option maxHeartbeats 2000000 in
theorem vc_X6_ruleWord_0 {r : Option Value} {I' : Nat → Nat → Int32} {L' : Nat → Nat → Int64} {I : Nat → Nat → Int32} {L : Nat → Nat → Int64}  (h : (∃ r1, q_C kX6_isWord [.ref 2, .ref 10006] I L (some (.int r1)) I L ∧ ((r1 = 0 → (∃ r2, q_C kX6_isWord [.ref 2, .ref 10007] I L (some (.int r2)) I L ∧ ((r2 = 0 → (∃ r3, q_C kX6_isWord [.ref 2, .ref 10008] I L (some (.int r3)) I L ∧ ((r3 = 0 → (∃ r4, q_C kX6_isWord [.ref 2, .ref 10009] I L (some (.int r4)) I L ∧ ((r4 = 0 → (∃ r5, q_C kX6_isWord [.ref 2, .ref 10010] I L (some (.int r5)) I L ∧ ((r5 = 0 → (∃ I6, q_C kX6_fail [.ref 2, .int 1] I L none I6 L ∧ (r = some (.int 0) ∧ I' = I6 ∧ L' = L))) ∧ (¬ r5 = 0 → (r = some (.int 0) ∧ I' = I ∧ L' = L))))) ∧ (¬ r4 = 0 → (r = some (.int 4) ∧ I' = I ∧ L' = L))))) ∧ (¬ r3 = 0 → (r = some (.int 3) ∧ I' = I ∧ L' = L))))) ∧ (¬ r2 = 0 → (r = some (.int 2) ∧ I' = I ∧ L' = L))))) ∧ (¬ r1 = 0 → (r = some (.int 1) ∧ I' = I ∧ L' = L))))) : v_X6_ruleWord_0 r I' L' I L  := by
  intro w g K
  have K1 := K.1
  refine g_aload_n K1 0 dX6_ruleWord_0 rfl ?_
  refine g_ldcS K1 5 (q := _) rfl rfl rfl dX6_ruleWord_1 ?_
  obtain ⟨r1, hct, h⟩ := h
  refine h_callV K1 (st := []) [.ref 10006] (hct w (gl g)) q_clX6 lyp_2 rfl ok_X6_isWord ml_X6_55 ⟨Nat.le_of_ble_eq_true rfl, Nat.le_of_ble_eq_true rfl⟩ (Nat.le_of_ble_eq_true rfl) dX6_ruleWord_3 ?_
  show q_Gs w g 6 [(0, .ref 2)] [.int r1] (q_mm I L)
  refine g_if_eq K1 11 dX6_ruleWord_6 rfl (fun hc => ?_) (fun hc => ?_)
  · replace h := h.1 hc
    refine g_aload_n K1 0 dX6_ruleWord_11 rfl ?_
    refine g_ldcS K1 6 (q := _) rfl rfl rfl dX6_ruleWord_12 ?_
    obtain ⟨r2, hct, h⟩ := h
    refine h_callV K1 (st := []) [.ref 10007] (hct w (gl g)) q_clX6 lyp_2 rfl ok_X6_isWord ml_X6_55 ⟨Nat.le_of_ble_eq_true rfl, Nat.le_of_ble_eq_true rfl⟩ (Nat.le_of_ble_eq_true rfl) dX6_ruleWord_14 ?_
    show q_Gs w g 17 [(0, .ref 2)] [.int r2] (q_mm I L)
    refine g_if_eq K1 22 dX6_ruleWord_17 rfl (fun hc => ?_) (fun hc => ?_)
    · replace h := h.1 hc
      refine g_aload_n K1 0 dX6_ruleWord_22 rfl ?_
      refine g_ldcS K1 7 (q := _) rfl rfl rfl dX6_ruleWord_23 ?_
      obtain ⟨r3, hct, h⟩ := h
      refine h_callV K1 (st := []) [.ref 10008] (hct w (gl g)) q_clX6 lyp_2 rfl ok_X6_isWord ml_X6_55 ⟨Nat.le_of_ble_eq_true rfl, Nat.le_of_ble_eq_true rfl⟩ (Nat.le_of_ble_eq_true rfl) dX6_ruleWord_25 ?_
      show q_Gs w g 28 [(0, .ref 2)] [.int r3] (q_mm I L)
      refine g_if_eq K1 33 dX6_ruleWord_28 rfl (fun hc => ?_) (fun hc => ?_)
      · replace h := h.1 hc
        refine g_aload_n K1 0 dX6_ruleWord_33 rfl ?_
        refine g_ldcS K1 8 (q := _) rfl rfl rfl dX6_ruleWord_34 ?_
        obtain ⟨r4, hct, h⟩ := h
        refine h_callV K1 (st := []) [.ref 10009] (hct w (gl g)) q_clX6 lyp_2 rfl ok_X6_isWord ml_X6_55 ⟨Nat.le_of_ble_eq_true rfl, Nat.le_of_ble_eq_true rfl⟩ (Nat.le_of_ble_eq_true rfl) dX6_ruleWord_36 ?_
        show q_Gs w g 39 [(0, .ref 2)] [.int r4] (q_mm I L)
        refine g_if_eq K1 44 dX6_ruleWord_39 rfl (fun hc => ?_) (fun hc => ?_)
        · replace h := h.1 hc
          refine g_aload_n K1 0 dX6_ruleWord_44 rfl ?_
          refine g_ldcS K1 9 (q := _) rfl rfl rfl dX6_ruleWord_45 ?_
          obtain ⟨r5, hct, h⟩ := h
          refine h_callV K1 (st := []) [.ref 10010] (hct w (gl g)) q_clX6 lyp_2 rfl ok_X6_isWord ml_X6_55 ⟨Nat.le_of_ble_eq_true rfl, Nat.le_of_ble_eq_true rfl⟩ (Nat.le_of_ble_eq_true rfl) dX6_ruleWord_47 ?_
          show q_Gs w g 50 [(0, .ref 2)] [.int r5] (q_mm I L)
          refine g_if_ne K1 58 dX6_ruleWord_50 rfl (fun hc => ?_) (fun hc => ?_)
          · replace h := h.2 hc
            refine g_iconst K1 0 dX6_ruleWord_58 rfl ?_
            obtain ⟨hr, hI, hL⟩ := h
            subst hr hI hL
            exact g_ireturn K rfl dX6_ruleWord_59
          · replace h := h.1 hc
            refine g_aload_n K1 0 dX6_ruleWord_53 rfl ?_
            refine g_iconst K1 1 dX6_ruleWord_54 rfl ?_
            obtain ⟨I6, hct, h⟩ := h
            refine h_callV K1 (st := []) [.int 1] (hct w (gl g)) q_clX6 lyp_2 rfl ok_X6_fail ml_X6_77 ⟨Nat.le_of_ble_eq_true rfl, Nat.le_of_ble_eq_true rfl⟩ (Nat.le_of_ble_eq_true rfl) dX6_ruleWord_55 ?_
            show q_Gs w g 58 [(0, .ref 2)] [] (q_mm I6 L)
            refine g_iconst K1 0 dX6_ruleWord_58 rfl ?_
            obtain ⟨hr, hI, hL⟩ := h
            subst hr hI hL
            exact g_ireturn K rfl dX6_ruleWord_59
        · replace h := h.2 hc
          refine g_iconst K1 4 dX6_ruleWord_42 rfl ?_
          obtain ⟨hr, hI, hL⟩ := h
          subst hr hI hL
          exact g_ireturn K rfl dX6_ruleWord_43
      · replace h := h.2 hc
        refine g_iconst K1 3 dX6_ruleWord_31 rfl ?_
        obtain ⟨hr, hI, hL⟩ := h
        subst hr hI hL
        exact g_ireturn K rfl dX6_ruleWord_32
    · replace h := h.2 hc
      refine g_iconst K1 2 dX6_ruleWord_20 rfl ?_
      obtain ⟨hr, hI, hL⟩ := h
      subst hr hI hL
      exact g_ireturn K rfl dX6_ruleWord_21
  · replace h := h.2 hc
    refine g_iconst K1 1 dX6_ruleWord_9 rfl ?_
    obtain ⟨hr, hI, hL⟩ := h
    subst hr hI hL
    exact g_ireturn K rfl dX6_ruleWord_10
theorem c0_X6_ruleWord {r : Option Value} {I I' : Nat → Nat → Int32} {L L' : Nat → Nat → Int64}  (h : v_X6_ruleWord_0 r I' L' I L ) : q_C kX6_ruleWord [.ref 2] I L r I' L' := fun w l => q_ct (by decide) (Nat.le_of_ble_eq_true rfl) (Nat.le_refl _) (fun g _ K => h w g K)
